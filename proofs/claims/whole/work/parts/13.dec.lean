abbrev po_X0_computeLevel (G : Gt) (qD q a1 a2 a3 a4 a5 a6 a7 a8 a9 a10 oc fr tt : Nat) (wd : Int64) (P M R n qv qg qd : Nat) (v w : Nat → Int32) (f5 : Nat → Int64) (f6 : Nat → Int64) : Option Value → va_W → Prop := fun (v9 : Option Value) (w9 : va_W) => ∃ (g6 : Nat → Int64), v9 = none ∧ w9 = [oB 0 qD [.ref q, .ref a1, .ref a2, .ref a3, .ref a4, .ref a5, .ref a6, .ref a7, .ref a8, .ref a9, .ref a10, .long wd, .int (nI oc), .int (nI fr), .int (nI tt)], oB 2 q [.int (nI P), .int (nI M), .int (nI R), .int (nI n), .ref qv, .ref qg, .ref qd], aI G qv 72 v, aJ G a5 12 f5, aJ G a6 72 g6] ∧ (∀ t, t < n → g6 t = lev P M fr n v w t)
set_option maxHeartbeats 4000000 in
set_option maxRecDepth 100000 in
theorem c_X0_computeLevel (l : Launch) (hl : l.stackTraces = false) (G : Gt) (qD q a1 a2 a3 a4 a5 a6 a7 a8 a9 a10 oc fr tt : Nat) (wd : Int64) (P M R n qv qg qd : Nat) (v w : Nat → Int32) (f5 : Nat → Int64) (f6 : Nat → Int64) (hn : n ≤ 72) (hP : 2 ≤ P) (hP12 : P ≤ 12) (hM : M ≤ 1) (hfa : ∀ j, j < P → f5 j = fac P M fr n v w j) : Con l G yX0_computeLevel cX0_computeLevel 4 none 1 29 0 0 [.ref qD] [oB 0 qD [.ref q, .ref a1, .ref a2, .ref a3, .ref a4, .ref a5, .ref a6, .ref a7, .ref a8, .ref a9, .ref a10, .long wd, .int (nI oc), .int (nI fr), .int (nI tt)], oB 2 q [.int (nI P), .int (nI M), .int (nI R), .int (nI n), .ref qv, .ref qg, .ref qd], aI G qv 72 v, aJ G a5 12 f5, aJ G a6 72 f6] (po_X0_computeLevel G qD q a1 a2 a3 a4 a5 a6 a7 a8 a9 a10 oc fr tt wd P M R n qv qg qd v w f5 f6) := by
  refine Con.of hl cd_X0_computeLevel (Nat.le_of_ble_eq_true rfl) ?_
  intro p e s m args below meth c A F hin9
  change Fx p l s m args meth c G A "SeasonalAdjuster$Decomposition" cX0_computeLevel 4 none at F
  change J p l e (cRm 1 29 0 0) s m args below meth c G A 4 (JQ below G A (po_X0_computeLevel G qD q a1 a2 a3 a4 a5 a6 a7 a8 a9 a10 oc fr tt wd P M R n qv qg qd v w f5 f6) args s 0 0) 0 0 0 [(0, .ref qD)] [] [oB 0 qD [.ref q, .ref a1, .ref a2, .ref a3, .ref a4, .ref a5, .ref a6, .ref a7, .ref a8, .ref a9, .ref a10, .long wd, .int (nI oc), .int (nI fr), .int (nI tt)], oB 2 q [.int (nI P), .int (nI M), .int (nI R), .int (nI n), .ref qv, .ref qg, .ref qd], aI G qv 72 v, aJ G a5 12 f5, aJ G a6 72 f6]
  refine J_iconst F (dcq dc_X0_computeLevel_0 0 rfl) ic_0 ?_
  refine J_istore_n F (lv2 := [(1, .int (nI 0)), (0, .ref qD)]) (dcq dc_X0_computeLevel_0 1 rfl) rfl (Nat.le_of_ble_eq_true rfl) rfl ?_
  have L2 : ∀ (fu2 : Nat), ∀ (t : Nat) (g6 : Nat → Int64), (t ≤ n) → (∀ j, 0 ≤ j → j < t → g6 j = lev P M fr n v w j) → n - t < fu2 → J p l e (cRm 1 29 0 0) s m args below meth c G A 4 (JQ below G A (po_X0_computeLevel G qD q a1 a2 a3 a4 a5 a6 a7 a8 a9 a10 oc fr tt wd P M R n qv qg qd v w f5 f6) args s 0 0) 0 0 2 [(0, .ref qD), (1, .int (nI t))] [] [oB 0 qD [.ref q, .ref a1, .ref a2, .ref a3, .ref a4, .ref a5, .ref a6, .ref a7, .ref a8, .ref a9, .ref a10, .long wd, .int (nI oc), .int (nI fr), .int (nI tt)], oB 2 q [.int (nI P), .int (nI M), .int (nI R), .int (nI n), .ref qv, .ref qg, .ref qd], aI G qv 72 v, aJ G a5 12 f5, aJ G a6 72 g6] := by
    intro fu2
    induction fu2 with
    | zero => intro t g6 ht iv hm2; exact absurd hm2 (Nat.not_lt_zero _)
    | succ fu2 ih2 =>
      intro t g6 ht iv hm2
      have hml9 := Nat.mod_lt t (show 0 < P by omega)
      refine J_iload_n F 1 (dcq dc_X0_computeLevel_0 2 rfl) rfl rfl ?_
      refine J_aload_n F 0 (dcq dc_X0_computeLevel_0 3 rfl) rfl rfl ?_
      refine J_get F fcX0 0 0 rfl (Nat.le_of_ble_eq_true rfl) tw_1_86 rfl rfl (dcq dc_X0_computeLevel_0 4 rfl) ?_
      refine J_get F fcX2 1 3 rfl (Nat.le_of_ble_eq_true rfl) tw_1_37 rfl rfl (dcq dc_X0_computeLevel_0 5 rfl) ?_
      refine J_ncmp_ge F 82 (by omega) (by omega) (dcq dc_X0_computeLevel_0 6 rfl) (by decide) (fun h_1 => ?_) (fun h_1 => ?_)
      · skip
        exact J_vret F ⟨g6, rfl, rfl, fun j h => iv j (Nat.zero_le _) (by omega)⟩ (Nat.le_of_ble_eq_true rfl) (Nat.le_of_ble_eq_true rfl) (dcq dc_X0_computeLevel_0 44 rfl)
      · skip
        refine J_aload_n F 0 (dcq dc_X0_computeLevel_0 7 rfl) rfl rfl ?_
        refine J_get F fcX0 0 5 rfl (Nat.le_of_ble_eq_true rfl) tw_1_94 rfl rfl (dcq dc_X0_computeLevel_0 8 rfl) ?_
        refine J_aload_n F 0 (dcq dc_X0_computeLevel_0 9 rfl) rfl rfl ?_
        refine J_get F fcX0 0 0 rfl (Nat.le_of_ble_eq_true rfl) tw_1_86 rfl rfl (dcq dc_X0_computeLevel_0 10 rfl) ?_
        refine J_iload_n F 1 (dcq dc_X0_computeLevel_0 11 rfl) rfl rfl ?_
        refine J_callV F (wc := [oB 2 q [.int (nI P), .int (nI M), .int (nI R), .int (nI n), .ref qv, .ref qg, .ref qd]]) (wr := [oB 0 qD [.ref q, .ref a1, .ref a2, .ref a3, .ref a4, .ref a5, .ref a6, .ref a7, .ref a8, .ref a9, .ref a10, .long wd, .int (nI oc), .int (nI fr), .int (nI tt)], aI G qv 72 v, aJ G a5 12 f5, aJ G a6 72 g6]) (rest := [.ref a5]) (qc := 0) (c_X2_seasonOf l hl G q qv qg qd P M R n t (by first | assumption | omega) (by first | assumption | omega) (by first | assumption | omega)) cd_X2_seasonOf cv_X2_seasonOf rfl rfl rfl tw_2_47 [1] [0, 2, 3, 4] rfl rfl rfl rfl (by decide) rfl ⟨(Nat.le_of_ble_eq_true rfl), (Nat.le_of_ble_eq_true rfl), (Nat.le_of_ble_eq_true rfl), (Nat.le_of_ble_eq_true rfl)⟩ (Nat.le_of_ble_eq_true rfl) rfl (dcq dc_X0_computeLevel_0 12 rfl) ?_
        rintro _ _ ⟨rfl, rfl⟩
        change J p l e (cRm 1 29 0 0) s m args below meth c G A 4 (JQ below G A (po_X0_computeLevel G qD q a1 a2 a3 a4 a5 a6 a7 a8 a9 a10 oc fr tt wd P M R n qv qg qd v w f5 f6) args s 0 0) 0 0 25 [(0, .ref qD), (1, .int (nI t))] [.int (nI (t % P)), .ref a5] [oB 0 qD [.ref q, .ref a1, .ref a2, .ref a3, .ref a4, .ref a5, .ref a6, .ref a7, .ref a8, .ref a9, .ref a10, .long wd, .int (nI oc), .int (nI fr), .int (nI tt)], aI G qv 72 v, aJ G a5 12 f5, aJ G a6 72 g6, oB 2 q [.int (nI P), .int (nI M), .int (nI R), .int (nI n), .ref qv, .ref qg, .ref qd]]
        refine J_world (ws2 := [oB 0 qD [.ref q, .ref a1, .ref a2, .ref a3, .ref a4, .ref a5, .ref a6, .ref a7, .ref a8, .ref a9, .ref a10, .long wd, .int (nI oc), .int (nI fr), .int (nI tt)], oB 2 q [.int (nI P), .int (nI M), .int (nI R), .int (nI n), .ref qv, .ref qg, .ref qd], aI G qv 72 v, aJ G a5 12 f5, aJ G a6 72 g6]) [0, 4, 1, 2, 3] rfl rfl ?_
        refine J_lald F 3 rfl (by omega) (Nat.le_of_ble_eq_true rfl) (dcq dc_X0_computeLevel_0 13 rfl) ?_
        refine J_lstore_n F (lv2 := [(2, .long (f5 (t % P))), (0, .ref qD), (1, .int (nI t))]) (dcq dc_X0_computeLevel_0 14 rfl) rfl (Nat.le_of_ble_eq_true rfl) rfl ?_
        refine J_aload_n F 1 (dcq dc_X0_computeLevel_0 15 rfl) rfl rfl ?_
        refine J_get F fcX0 0 6 rfl (Nat.le_of_ble_eq_true rfl) tw_1_96 rfl rfl (dcq dc_X0_computeLevel_0 16 rfl) ?_
        refine J_iload_n F 2 (dcq dc_X0_computeLevel_0 17 rfl) rfl rfl ?_
        refine J_aload_n F 1 (dcq dc_X0_computeLevel_0 18 rfl) rfl rfl ?_
        refine J_get F fcX0 0 0 rfl (Nat.le_of_ble_eq_true rfl) tw_1_86 rfl rfl (dcq dc_X0_computeLevel_0 19 rfl) ?_
        refine J_get F fcX2 1 1 rfl (Nat.le_of_ble_eq_true rfl) tw_1_32 rfl rfl (dcq dc_X0_computeLevel_0 20 rfl) ?_
        refine J_nif_ne F 57 (by omega) (dcq dc_X0_computeLevel_0 21 rfl) (by decide) (fun h_2 => ?_) (fun h_2 => ?_)
        · skip
          have hm := h_2
          refine J_ldc2 F (v2 := (10000)) tw_2_34 rfl (dcq dc_X0_computeLevel_0 31 rfl) ?_
          refine J_aload_n F 1 (dcq dc_X0_computeLevel_0 32 rfl) rfl rfl ?_
          refine J_get F fcX0 0 0 rfl (Nat.le_of_ble_eq_true rfl) tw_1_86 rfl rfl (dcq dc_X0_computeLevel_0 33 rfl) ?_
          refine J_get F fcX2 1 4 rfl (Nat.le_of_ble_eq_true rfl) tw_1_40 rfl rfl (dcq dc_X0_computeLevel_0 34 rfl) ?_
          refine J_iload_n F 2 (dcq dc_X0_computeLevel_0 35 rfl) rfl rfl ?_
          refine J_iald F 2 rfl (by omega) (Nat.le_of_ble_eq_true rfl) (dcq dc_X0_computeLevel_0 36 rfl) ?_
          refine J_i2l F (v := (v t).toInt64) (dcq dc_X0_computeLevel_0 37 rfl) rfl ?_
          refine J_lmul F (v := 10000 * ((v t).toInt64)) (dcq dc_X0_computeLevel_0 38 rfl) rfl ?_
          refine J_lload_n F 0 (dcq dc_X0_computeLevel_0 39 rfl) rfl rfl ?_
          refine J_callSN F (wc := []) (wr := [oB 0 qD [.ref q, .ref a1, .ref a2, .ref a3, .ref a4, .ref a5, .ref a6, .ref a7, .ref a8, .ref a9, .ref a10, .long wd, .int (nI oc), .int (nI fr), .int (nI tt)], oB 2 q [.int (nI P), .int (nI M), .int (nI R), .int (nI n), .ref qv, .ref qg, .ref qd], aI G qv 72 v, aJ G a5 12 f5, aJ G a6 72 g6]) (rest := [.int (nI t), .ref a6]) (c_X3_quotient l hl G (10000 * ((v t).toInt64)) (f5 (t % P))) cd_X3_quotient tw_2_27 nt_Decomposition_112 [] [0, 1, 2, 3, 4] rfl rfl rfl rfl (by decide) rfl ⟨(Nat.le_of_ble_eq_true rfl), (Nat.le_of_ble_eq_true rfl), (Nat.le_of_ble_eq_true rfl), (Nat.le_of_ble_eq_true rfl)⟩ (Nat.le_of_ble_eq_true rfl) rfl (dcq dc_X0_computeLevel_0 40 rfl) ?_
          rintro _ _ ⟨rq, rfl, rfl, hq⟩
          change J p l e (cRm 1 29 0 0) s m args below meth c G A 4 (JQ below G A (po_X0_computeLevel G qD q a1 a2 a3 a4 a5 a6 a7 a8 a9 a10 oc fr tt wd P M R n qv qg qd v w f5 f6) args s 0 0) 0 0 75 [(2, .long (f5 (t % P))), (0, .ref qD), (1, .int (nI t))] [.long rq, .int (nI t), .ref a6] [oB 0 qD [.ref q, .ref a1, .ref a2, .ref a3, .ref a4, .ref a5, .ref a6, .ref a7, .ref a8, .ref a9, .ref a10, .long wd, .int (nI oc), .int (nI fr), .int (nI tt)], oB 2 q [.int (nI P), .int (nI M), .int (nI R), .int (nI n), .ref qv, .ref qg, .ref qd], aI G qv 72 v, aJ G a5 12 f5, aJ G a6 72 g6]
          have hq : rq = quo (10000 * ((v t).toInt64)) (f5 (t % P)) := hq
          refine J_last F (ws2 := [oB 0 qD [.ref q, .ref a1, .ref a2, .ref a3, .ref a4, .ref a5, .ref a6, .ref a7, .ref a8, .ref a9, .ref a10, .long wd, .int (nI oc), .int (nI fr), .int (nI tt)], oB 2 q [.int (nI P), .int (nI M), .int (nI R), .int (nI n), .ref qv, .ref qg, .ref qd], aI G qv 72 v, aJ G a5 12 f5, aJ G a6 72 (vp_updL g6 t rq)]) 4 rfl (by omega) (Nat.le_of_ble_eq_true rfl) rfl (dcq dc_X0_computeLevel_0 41 rfl) ?_
          refine J_iinc F (lv2 := [(1, .int (nI (t + 1))), (2, .long (f5 (t % P))), (0, .ref qD)]) (v := nI (t + 1)) 2 (dcq dc_X0_computeLevel_0 42 rfl) rfl (nI_inc _) (Nat.le_of_ble_eq_true rfl) rfl ?_
          refine J_goto F 2 (dcq dc_X0_computeLevel_0 43 rfl) (by decide) ?_
          refine J_locs [2, 0] rfl ?_
          exact ih2 (t + 1) (vp_updL g6 t rq) (by omega) (up_l iv (by unfold lev; first | rw [if_pos hm, hfa _ hml9]; rfl | rw [if_neg (by omega), hq, hfa _ hml9]; rfl)) (by omega)
        · skip
          have hm := h_2
          refine J_aload_n F 1 (dcq dc_X0_computeLevel_0 22 rfl) rfl rfl ?_
          refine J_get F fcX0 0 0 rfl (Nat.le_of_ble_eq_true rfl) tw_1_86 rfl rfl (dcq dc_X0_computeLevel_0 23 rfl) ?_
          refine J_get F fcX2 1 4 rfl (Nat.le_of_ble_eq_true rfl) tw_1_40 rfl rfl (dcq dc_X0_computeLevel_0 24 rfl) ?_
          refine J_iload_n F 2 (dcq dc_X0_computeLevel_0 25 rfl) rfl rfl ?_
          refine J_iald F 2 rfl (by omega) (Nat.le_of_ble_eq_true rfl) (dcq dc_X0_computeLevel_0 26 rfl) ?_
          refine J_i2l F (v := (v t).toInt64) (dcq dc_X0_computeLevel_0 27 rfl) rfl ?_
          refine J_lload_n F 0 (dcq dc_X0_computeLevel_0 28 rfl) rfl rfl ?_
          refine J_lsub F (v := ((v t).toInt64) - (f5 (t % P))) (dcq dc_X0_computeLevel_0 29 rfl) rfl ?_
          refine J_goto F 75 (dcq dc_X0_computeLevel_0 30 rfl) (by decide) ?_
          refine J_last F (ws2 := [oB 0 qD [.ref q, .ref a1, .ref a2, .ref a3, .ref a4, .ref a5, .ref a6, .ref a7, .ref a8, .ref a9, .ref a10, .long wd, .int (nI oc), .int (nI fr), .int (nI tt)], oB 2 q [.int (nI P), .int (nI M), .int (nI R), .int (nI n), .ref qv, .ref qg, .ref qd], aI G qv 72 v, aJ G a5 12 f5, aJ G a6 72 (vp_updL g6 t (((v t).toInt64) - (f5 (t % P))))]) 4 rfl (by omega) (Nat.le_of_ble_eq_true rfl) rfl (dcq dc_X0_computeLevel_0 41 rfl) ?_
          refine J_iinc F (lv2 := [(1, .int (nI (t + 1))), (2, .long (f5 (t % P))), (0, .ref qD)]) (v := nI (t + 1)) 2 (dcq dc_X0_computeLevel_0 42 rfl) rfl (nI_inc _) (Nat.le_of_ble_eq_true rfl) rfl ?_
          refine J_goto F 2 (dcq dc_X0_computeLevel_0 43 rfl) (by decide) ?_
          refine J_locs [2, 0] rfl ?_
          exact ih2 (t + 1) (vp_updL g6 t (((v t).toInt64) - (f5 (t % P)))) (by omega) (up_l iv (by unfold lev; first | rw [if_pos hm, hfa _ hml9]; rfl | rw [if_neg (by omega), hq, hfa _ hml9]; rfl)) (by omega)
  refine J_locs [1, 0] rfl ?_
  exact L2 (n - 0 + 1) 0 f6 (by omega) (fun j h1 h2 => absurd h2 (Nat.not_lt.mpr h1)) (Nat.lt_succ_self _)

abbrev po_X0_computeSmoothEnd_a (G : Gt) (qD q a1 a2 a3 a4 a5 a6 a7 a8 a9 a10 oc fr tt : Nat) (wd : Int64) (f6 : Nat → Int64) (f7 : Nat → Int64) : Option Value → va_W → Prop := fun (v9 : Option Value) (w9 : va_W) => ∃ (g7 : Nat → Int64), v9 = none ∧ w9 = [oB 0 qD [.ref q, .ref a1, .ref a2, .ref a3, .ref a4, .ref a5, .ref a6, .ref a7, .ref a8, .ref a9, .ref a10, .long wd, .int (nI oc), .int (nI fr), .int (nI tt)], aJ G a6 72 f6, aJ G a7 72 g7] ∧ (g7 1 = sm3 (f6 0) (f6 1) (f6 2)) ∧ (g7 0 = 2 * sm3 (f6 0) (f6 1) (f6 2) - f7 2) ∧ (∀ j, 2 ≤ j → g7 j = f7 j)
set_option maxHeartbeats 4000000 in
set_option maxRecDepth 100000 in
theorem c_X0_computeSmoothEnd_a (l : Launch) (hl : l.stackTraces = false) (G : Gt) (qD q a1 a2 a3 a4 a5 a6 a7 a8 a9 a10 oc fr tt : Nat) (wd : Int64) (f6 : Nat → Int64) (f7 : Nat → Int64) : Con l G yX0_computeSmoothEnd cX0_computeSmoothEnd 5 none 1 29 0 0 [.ref qD, .int (nI 0), .int (nI 1)] [oB 0 qD [.ref q, .ref a1, .ref a2, .ref a3, .ref a4, .ref a5, .ref a6, .ref a7, .ref a8, .ref a9, .ref a10, .long wd, .int (nI oc), .int (nI fr), .int (nI tt)], aJ G a6 72 f6, aJ G a7 72 f7] (po_X0_computeSmoothEnd_a G qD q a1 a2 a3 a4 a5 a6 a7 a8 a9 a10 oc fr tt wd f6 f7) := by
  refine Con.of hl cd_X0_computeSmoothEnd (Nat.le_of_ble_eq_true rfl) ?_
  intro p e s m args below meth c A F hin9
  change Fx p l s m args meth c G A "SeasonalAdjuster$Decomposition" cX0_computeSmoothEnd 5 none at F
  change J p l e (cRm 1 29 0 0) s m args below meth c G A 5 (JQ below G A (po_X0_computeSmoothEnd_a G qD q a1 a2 a3 a4 a5 a6 a7 a8 a9 a10 oc fr tt wd f6 f7) args s 0 0) 0 0 0 [(0, .ref qD), (1, .int (nI 0)), (2, .int (nI 1))] [] [oB 0 qD [.ref q, .ref a1, .ref a2, .ref a3, .ref a4, .ref a5, .ref a6, .ref a7, .ref a8, .ref a9, .ref a10, .long wd, .int (nI oc), .int (nI fr), .int (nI tt)], aJ G a6 72 f6, aJ G a7 72 f7]
  refine J_iload_n F 1 (dcq dc_X0_computeSmoothEnd_0 0 rfl) rfl rfl ?_
  refine J_iload_n F 2 (dcq dc_X0_computeSmoothEnd_0 1 rfl) rfl rfl ?_
  refine J_iadd F (v := nI (0 + 1)) (dcq dc_X0_computeSmoothEnd_0 2 rfl) (nI_add _ _) ?_
  refine J_istore_n F (lv2 := [(3, .int (nI (0 + 1))), (0, .ref qD), (1, .int (nI 0)), (2, .int (nI 1))]) (dcq dc_X0_computeSmoothEnd_0 3 rfl) rfl (Nat.le_of_ble_eq_true rfl) rfl ?_
  refine J_iload_n F 0 (dcq dc_X0_computeSmoothEnd_0 4 rfl) rfl rfl ?_
  refine J_iload_n F 3 (dcq dc_X0_computeSmoothEnd_0 5 rfl) rfl rfl ?_
  refine J_iadd F (v := nI ((0 + 1) + 1)) (dcq dc_X0_computeSmoothEnd_0 6 rfl) (nI_add _ _) ?_
  refine J_istore F (lv2 := [(4, .int (nI ((0 + 1) + 1))), (3, .int (nI (0 + 1))), (0, .ref qD), (1, .int (nI 0)), (2, .int (nI 1))]) (dcq dc_X0_computeSmoothEnd_0 7 rfl) (Nat.le_of_ble_eq_true rfl) rfl ?_
  refine J_aload_n F 2 (dcq dc_X0_computeSmoothEnd_0 8 rfl) rfl rfl ?_
  refine J_get F fcX0 0 7 rfl (Nat.le_of_ble_eq_true rfl) tw_1_98 rfl rfl (dcq dc_X0_computeSmoothEnd_0 9 rfl) ?_
  refine J_iload_n F 1 (dcq dc_X0_computeSmoothEnd_0 10 rfl) rfl rfl ?_
  refine J_aload_n F 2 (dcq dc_X0_computeSmoothEnd_0 11 rfl) rfl rfl ?_
  refine J_get F fcX0 0 6 rfl (Nat.le_of_ble_eq_true rfl) tw_1_96 rfl rfl (dcq dc_X0_computeSmoothEnd_0 12 rfl) ?_
  refine J_iload_n F 3 (dcq dc_X0_computeSmoothEnd_0 13 rfl) rfl rfl ?_
  refine J_lald F 1 rfl (by omega) (Nat.le_of_ble_eq_true rfl) (dcq dc_X0_computeSmoothEnd_0 14 rfl) ?_
  refine J_ldc2 F (v2 := (2)) tw_2_29 rfl (dcq dc_X0_computeSmoothEnd_0 15 rfl) ?_
  refine J_aload_n F 2 (dcq dc_X0_computeSmoothEnd_0 16 rfl) rfl rfl ?_
  refine J_get F fcX0 0 6 rfl (Nat.le_of_ble_eq_true rfl) tw_1_96 rfl rfl (dcq dc_X0_computeSmoothEnd_0 17 rfl) ?_
  refine J_iload_n F 1 (dcq dc_X0_computeSmoothEnd_0 18 rfl) rfl rfl ?_
  refine J_lald F 1 rfl (by omega) (Nat.le_of_ble_eq_true rfl) (dcq dc_X0_computeSmoothEnd_0 19 rfl) ?_
  refine J_lmul F (v := 2 * (f6 (0 + 1))) (dcq dc_X0_computeSmoothEnd_0 20 rfl) rfl ?_
  refine J_ladd F (v := (f6 0) + (2 * (f6 (0 + 1)))) (dcq dc_X0_computeSmoothEnd_0 21 rfl) rfl ?_
  refine J_aload_n F 2 (dcq dc_X0_computeSmoothEnd_0 22 rfl) rfl rfl ?_
  refine J_get F fcX0 0 6 rfl (Nat.le_of_ble_eq_true rfl) tw_1_96 rfl rfl (dcq dc_X0_computeSmoothEnd_0 23 rfl) ?_
  refine J_iload F 0 (dcq dc_X0_computeSmoothEnd_0 24 rfl) rfl ?_
  refine J_lald F 1 rfl (by omega) (Nat.le_of_ble_eq_true rfl) (dcq dc_X0_computeSmoothEnd_0 25 rfl) ?_
  refine J_ladd F (v := ((f6 0) + (2 * (f6 (0 + 1)))) + (f6 ((0 + 1) + 1))) (dcq dc_X0_computeSmoothEnd_0 26 rfl) rfl ?_
  refine J_ldc2 F (v2 := (4)) tw_2_66 rfl (dcq dc_X0_computeSmoothEnd_0 27 rfl) ?_
  refine J_callSN F (wc := []) (wr := [oB 0 qD [.ref q, .ref a1, .ref a2, .ref a3, .ref a4, .ref a5, .ref a6, .ref a7, .ref a8, .ref a9, .ref a10, .long wd, .int (nI oc), .int (nI fr), .int (nI tt)], aJ G a6 72 f6, aJ G a7 72 f7]) (rest := [.int (nI (0 + 1)), .ref a7]) (c_X3_quotient l hl G (((f6 0) + (2 * (f6 (0 + 1)))) + (f6 ((0 + 1) + 1))) 4) cd_X3_quotient tw_2_27 nt_Decomposition_112 [] [0, 1, 2] rfl rfl rfl rfl (by decide) rfl ⟨(Nat.le_of_ble_eq_true rfl), (Nat.le_of_ble_eq_true rfl), (Nat.le_of_ble_eq_true rfl), (Nat.le_of_ble_eq_true rfl)⟩ (Nat.le_of_ble_eq_true rfl) rfl (dcq dc_X0_computeSmoothEnd_0 28 rfl) ?_
  rintro _ _ ⟨rq, rfl, rfl, hq⟩
  change J p l e (cRm 1 29 0 0) s m args below meth c G A 5 (JQ below G A (po_X0_computeSmoothEnd_a G qD q a1 a2 a3 a4 a5 a6 a7 a8 a9 a10 oc fr tt wd f6 f7) args s 0 0) 0 0 45 [(4, .int (nI ((0 + 1) + 1))), (3, .int (nI (0 + 1))), (0, .ref qD), (1, .int (nI 0)), (2, .int (nI 1))] [.long rq, .int (nI (0 + 1)), .ref a7] [oB 0 qD [.ref q, .ref a1, .ref a2, .ref a3, .ref a4, .ref a5, .ref a6, .ref a7, .ref a8, .ref a9, .ref a10, .long wd, .int (nI oc), .int (nI fr), .int (nI tt)], aJ G a6 72 f6, aJ G a7 72 f7]
  have hq : rq = quo (((f6 0) + (2 * (f6 (0 + 1)))) + (f6 ((0 + 1) + 1))) 4 := hq
  refine J_last F (ws2 := [oB 0 qD [.ref q, .ref a1, .ref a2, .ref a3, .ref a4, .ref a5, .ref a6, .ref a7, .ref a8, .ref a9, .ref a10, .long wd, .int (nI oc), .int (nI fr), .int (nI tt)], aJ G a6 72 f6, aJ G a7 72 (vp_updL f7 (0 + 1) rq)]) 2 rfl (by omega) (Nat.le_of_ble_eq_true rfl) rfl (dcq dc_X0_computeSmoothEnd_0 29 rfl) ?_
  refine J_aload_n F 2 (dcq dc_X0_computeSmoothEnd_0 30 rfl) rfl rfl ?_
  refine J_get F fcX0 0 7 rfl (Nat.le_of_ble_eq_true rfl) tw_1_98 rfl rfl (dcq dc_X0_computeSmoothEnd_0 31 rfl) ?_
  refine J_iload_n F 3 (dcq dc_X0_computeSmoothEnd_0 32 rfl) rfl rfl ?_
  refine J_ldc2 F (v2 := (2)) tw_2_29 rfl (dcq dc_X0_computeSmoothEnd_0 33 rfl) ?_
  refine J_aload_n F 2 (dcq dc_X0_computeSmoothEnd_0 34 rfl) rfl rfl ?_
  refine J_get F fcX0 0 7 rfl (Nat.le_of_ble_eq_true rfl) tw_1_98 rfl rfl (dcq dc_X0_computeSmoothEnd_0 35 rfl) ?_
  refine J_iload_n F 1 (dcq dc_X0_computeSmoothEnd_0 36 rfl) rfl rfl ?_
  refine J_lald F 2 rfl (by omega) (Nat.le_of_ble_eq_true rfl) (dcq dc_X0_computeSmoothEnd_0 37 rfl) ?_
  refine J_lmul F (v := 2 * ((vp_updL f7 (0 + 1) rq) (0 + 1))) (dcq dc_X0_computeSmoothEnd_0 38 rfl) rfl ?_
  refine J_aload_n F 2 (dcq dc_X0_computeSmoothEnd_0 39 rfl) rfl rfl ?_
  refine J_get F fcX0 0 7 rfl (Nat.le_of_ble_eq_true rfl) tw_1_98 rfl rfl (dcq dc_X0_computeSmoothEnd_0 40 rfl) ?_
  refine J_iload F 0 (dcq dc_X0_computeSmoothEnd_0 41 rfl) rfl ?_
  refine J_lald F 2 rfl (by omega) (Nat.le_of_ble_eq_true rfl) (dcq dc_X0_computeSmoothEnd_0 42 rfl) ?_
  refine J_lsub F (v := (2 * ((vp_updL f7 (0 + 1) rq) (0 + 1))) - ((vp_updL f7 (0 + 1) rq) ((0 + 1) + 1))) (dcq dc_X0_computeSmoothEnd_0 43 rfl) rfl ?_
  refine J_last F (ws2 := [oB 0 qD [.ref q, .ref a1, .ref a2, .ref a3, .ref a4, .ref a5, .ref a6, .ref a7, .ref a8, .ref a9, .ref a10, .long wd, .int (nI oc), .int (nI fr), .int (nI tt)], aJ G a6 72 f6, aJ G a7 72 (vp_updL (vp_updL f7 (0 + 1) rq) 0 ((2 * ((vp_updL f7 (0 + 1) rq) (0 + 1))) - ((vp_updL f7 (0 + 1) rq) ((0 + 1) + 1))))]) 2 rfl (by omega) (Nat.le_of_ble_eq_true rfl) rfl (dcq dc_X0_computeSmoothEnd_0 44 rfl) ?_
  exact J_vret F ⟨vp_updL (vp_updL f7 (0 + 1) rq) 0 ((2 * ((vp_updL f7 (0 + 1) rq) (0 + 1))) - ((vp_updL f7 (0 + 1) rq) ((0 + 1) + 1))), rfl, rfl, by rw [pk_uLn (by decide), pk_uLs, hq]; rfl, by rw [pk_uLs, pk_uLs, pk_uLn (by decide), hq]; rfl, fun j h => by rw [pk_uLn (by omega), pk_uLn (by omega)]⟩ (Nat.le_of_ble_eq_true rfl) (Nat.le_of_ble_eq_true rfl) (dcq dc_X0_computeSmoothEnd_0 45 rfl)

abbrev po_X0_computeSmoothEnd_b (G : Gt) (qD q a1 a2 a3 a4 a5 a6 a7 a8 a9 a10 oc fr tt : Nat) (wd : Int64) (n : Nat) (f6 : Nat → Int64) (f7 : Nat → Int64) : Option Value → va_W → Prop := fun (v9 : Option Value) (w9 : va_W) => ∃ (g7 : Nat → Int64), v9 = none ∧ w9 = [oB 0 qD [.ref q, .ref a1, .ref a2, .ref a3, .ref a4, .ref a5, .ref a6, .ref a7, .ref a8, .ref a9, .ref a10, .long wd, .int (nI oc), .int (nI fr), .int (nI tt)], aJ G a6 72 f6, aJ G a7 72 g7] ∧ (g7 (n - 2) = sm3 (f6 (n - 1)) (f6 (n - 2)) (f6 (n - 3))) ∧ (g7 (n - 1) = 2 * sm3 (f6 (n - 1)) (f6 (n - 2)) (f6 (n - 3)) - f7 (n - 3)) ∧ (∀ j, j + 2 < n → g7 j = f7 j)
set_option maxHeartbeats 4000000 in
set_option maxRecDepth 100000 in
theorem c_X0_computeSmoothEnd_b (l : Launch) (hl : l.stackTraces = false) (G : Gt) (qD q a1 a2 a3 a4 a5 a6 a7 a8 a9 a10 oc fr tt : Nat) (wd : Int64) (n : Nat) (f6 : Nat → Int64) (f7 : Nat → Int64) (h5 : 5 ≤ n) (hn : n ≤ 72) : Con l G yX0_computeSmoothEnd cX0_computeSmoothEnd 5 none 1 29 0 0 [.ref qD, .int (nI (n - 1)), .int (-1)] [oB 0 qD [.ref q, .ref a1, .ref a2, .ref a3, .ref a4, .ref a5, .ref a6, .ref a7, .ref a8, .ref a9, .ref a10, .long wd, .int (nI oc), .int (nI fr), .int (nI tt)], aJ G a6 72 f6, aJ G a7 72 f7] (po_X0_computeSmoothEnd_b G qD q a1 a2 a3 a4 a5 a6 a7 a8 a9 a10 oc fr tt wd n f6 f7) := by
  refine Con.of hl cd_X0_computeSmoothEnd (Nat.le_of_ble_eq_true rfl) ?_
  intro p e s m args below meth c A F hin9
  change Fx p l s m args meth c G A "SeasonalAdjuster$Decomposition" cX0_computeSmoothEnd 5 none at F
  change J p l e (cRm 1 29 0 0) s m args below meth c G A 5 (JQ below G A (po_X0_computeSmoothEnd_b G qD q a1 a2 a3 a4 a5 a6 a7 a8 a9 a10 oc fr tt wd n f6 f7) args s 0 0) 0 0 0 [(0, .ref qD), (1, .int (nI (n - 1))), (2, .int (-1))] [] [oB 0 qD [.ref q, .ref a1, .ref a2, .ref a3, .ref a4, .ref a5, .ref a6, .ref a7, .ref a8, .ref a9, .ref a10, .long wd, .int (nI oc), .int (nI fr), .int (nI tt)], aJ G a6 72 f6, aJ G a7 72 f7]
  refine J_iload_n F 1 (dcq dc_X0_computeSmoothEnd_0 0 rfl) rfl rfl ?_
  refine J_iload_n F 2 (dcq dc_X0_computeSmoothEnd_0 1 rfl) rfl rfl ?_
  refine J_iadd F (v := nI (n - 2)) (dcq dc_X0_computeSmoothEnd_0 2 rfl) (nI_pm1 (by omega)) ?_
  refine J_istore_n F (lv2 := [(3, .int (nI (n - 2))), (0, .ref qD), (1, .int (nI (n - 1))), (2, .int (-1))]) (dcq dc_X0_computeSmoothEnd_0 3 rfl) rfl (Nat.le_of_ble_eq_true rfl) rfl ?_
  refine J_iload_n F 0 (dcq dc_X0_computeSmoothEnd_0 4 rfl) rfl rfl ?_
  refine J_iload_n F 3 (dcq dc_X0_computeSmoothEnd_0 5 rfl) rfl rfl ?_
  refine J_iadd F (v := nI (n - 3)) (dcq dc_X0_computeSmoothEnd_0 6 rfl) (nI_pm1 (by omega)) ?_
  refine J_istore F (lv2 := [(4, .int (nI (n - 3))), (3, .int (nI (n - 2))), (0, .ref qD), (1, .int (nI (n - 1))), (2, .int (-1))]) (dcq dc_X0_computeSmoothEnd_0 7 rfl) (Nat.le_of_ble_eq_true rfl) rfl ?_
  refine J_aload_n F 2 (dcq dc_X0_computeSmoothEnd_0 8 rfl) rfl rfl ?_
  refine J_get F fcX0 0 7 rfl (Nat.le_of_ble_eq_true rfl) tw_1_98 rfl rfl (dcq dc_X0_computeSmoothEnd_0 9 rfl) ?_
  refine J_iload_n F 1 (dcq dc_X0_computeSmoothEnd_0 10 rfl) rfl rfl ?_
  refine J_aload_n F 2 (dcq dc_X0_computeSmoothEnd_0 11 rfl) rfl rfl ?_
  refine J_get F fcX0 0 6 rfl (Nat.le_of_ble_eq_true rfl) tw_1_96 rfl rfl (dcq dc_X0_computeSmoothEnd_0 12 rfl) ?_
  refine J_iload_n F 3 (dcq dc_X0_computeSmoothEnd_0 13 rfl) rfl rfl ?_
  refine J_lald F 1 rfl (by omega) (Nat.le_of_ble_eq_true rfl) (dcq dc_X0_computeSmoothEnd_0 14 rfl) ?_
  refine J_ldc2 F (v2 := (2)) tw_2_29 rfl (dcq dc_X0_computeSmoothEnd_0 15 rfl) ?_
  refine J_aload_n F 2 (dcq dc_X0_computeSmoothEnd_0 16 rfl) rfl rfl ?_
  refine J_get F fcX0 0 6 rfl (Nat.le_of_ble_eq_true rfl) tw_1_96 rfl rfl (dcq dc_X0_computeSmoothEnd_0 17 rfl) ?_
  refine J_iload_n F 1 (dcq dc_X0_computeSmoothEnd_0 18 rfl) rfl rfl ?_
  refine J_lald F 1 rfl (by omega) (Nat.le_of_ble_eq_true rfl) (dcq dc_X0_computeSmoothEnd_0 19 rfl) ?_
  refine J_lmul F (v := 2 * (f6 (n - 2))) (dcq dc_X0_computeSmoothEnd_0 20 rfl) rfl ?_
  refine J_ladd F (v := (f6 (n - 1)) + (2 * (f6 (n - 2)))) (dcq dc_X0_computeSmoothEnd_0 21 rfl) rfl ?_
  refine J_aload_n F 2 (dcq dc_X0_computeSmoothEnd_0 22 rfl) rfl rfl ?_
  refine J_get F fcX0 0 6 rfl (Nat.le_of_ble_eq_true rfl) tw_1_96 rfl rfl (dcq dc_X0_computeSmoothEnd_0 23 rfl) ?_
  refine J_iload F 0 (dcq dc_X0_computeSmoothEnd_0 24 rfl) rfl ?_
  refine J_lald F 1 rfl (by omega) (Nat.le_of_ble_eq_true rfl) (dcq dc_X0_computeSmoothEnd_0 25 rfl) ?_
  refine J_ladd F (v := ((f6 (n - 1)) + (2 * (f6 (n - 2)))) + (f6 (n - 3))) (dcq dc_X0_computeSmoothEnd_0 26 rfl) rfl ?_
  refine J_ldc2 F (v2 := (4)) tw_2_66 rfl (dcq dc_X0_computeSmoothEnd_0 27 rfl) ?_
  refine J_callSN F (wc := []) (wr := [oB 0 qD [.ref q, .ref a1, .ref a2, .ref a3, .ref a4, .ref a5, .ref a6, .ref a7, .ref a8, .ref a9, .ref a10, .long wd, .int (nI oc), .int (nI fr), .int (nI tt)], aJ G a6 72 f6, aJ G a7 72 f7]) (rest := [.int (nI (n - 2)), .ref a7]) (c_X3_quotient l hl G (((f6 (n - 1)) + (2 * (f6 (n - 2)))) + (f6 (n - 3))) 4) cd_X3_quotient tw_2_27 nt_Decomposition_112 [] [0, 1, 2] rfl rfl rfl rfl (by decide) rfl ⟨(Nat.le_of_ble_eq_true rfl), (Nat.le_of_ble_eq_true rfl), (Nat.le_of_ble_eq_true rfl), (Nat.le_of_ble_eq_true rfl)⟩ (Nat.le_of_ble_eq_true rfl) rfl (dcq dc_X0_computeSmoothEnd_0 28 rfl) ?_
  rintro _ _ ⟨rq, rfl, rfl, hq⟩
  change J p l e (cRm 1 29 0 0) s m args below meth c G A 5 (JQ below G A (po_X0_computeSmoothEnd_b G qD q a1 a2 a3 a4 a5 a6 a7 a8 a9 a10 oc fr tt wd n f6 f7) args s 0 0) 0 0 45 [(4, .int (nI (n - 3))), (3, .int (nI (n - 2))), (0, .ref qD), (1, .int (nI (n - 1))), (2, .int (-1))] [.long rq, .int (nI (n - 2)), .ref a7] [oB 0 qD [.ref q, .ref a1, .ref a2, .ref a3, .ref a4, .ref a5, .ref a6, .ref a7, .ref a8, .ref a9, .ref a10, .long wd, .int (nI oc), .int (nI fr), .int (nI tt)], aJ G a6 72 f6, aJ G a7 72 f7]
  have hq : rq = quo (((f6 (n - 1)) + (2 * (f6 (n - 2)))) + (f6 (n - 3))) 4 := hq
  refine J_last F (ws2 := [oB 0 qD [.ref q, .ref a1, .ref a2, .ref a3, .ref a4, .ref a5, .ref a6, .ref a7, .ref a8, .ref a9, .ref a10, .long wd, .int (nI oc), .int (nI fr), .int (nI tt)], aJ G a6 72 f6, aJ G a7 72 (vp_updL f7 (n - 2) rq)]) 2 rfl (by omega) (Nat.le_of_ble_eq_true rfl) rfl (dcq dc_X0_computeSmoothEnd_0 29 rfl) ?_
  refine J_aload_n F 2 (dcq dc_X0_computeSmoothEnd_0 30 rfl) rfl rfl ?_
  refine J_get F fcX0 0 7 rfl (Nat.le_of_ble_eq_true rfl) tw_1_98 rfl rfl (dcq dc_X0_computeSmoothEnd_0 31 rfl) ?_
  refine J_iload_n F 3 (dcq dc_X0_computeSmoothEnd_0 32 rfl) rfl rfl ?_
  refine J_ldc2 F (v2 := (2)) tw_2_29 rfl (dcq dc_X0_computeSmoothEnd_0 33 rfl) ?_
  refine J_aload_n F 2 (dcq dc_X0_computeSmoothEnd_0 34 rfl) rfl rfl ?_
  refine J_get F fcX0 0 7 rfl (Nat.le_of_ble_eq_true rfl) tw_1_98 rfl rfl (dcq dc_X0_computeSmoothEnd_0 35 rfl) ?_
  refine J_iload_n F 1 (dcq dc_X0_computeSmoothEnd_0 36 rfl) rfl rfl ?_
  refine J_lald F 2 rfl (by omega) (Nat.le_of_ble_eq_true rfl) (dcq dc_X0_computeSmoothEnd_0 37 rfl) ?_
  refine J_lmul F (v := 2 * ((vp_updL f7 (n - 2) rq) (n - 2))) (dcq dc_X0_computeSmoothEnd_0 38 rfl) rfl ?_
  refine J_aload_n F 2 (dcq dc_X0_computeSmoothEnd_0 39 rfl) rfl rfl ?_
  refine J_get F fcX0 0 7 rfl (Nat.le_of_ble_eq_true rfl) tw_1_98 rfl rfl (dcq dc_X0_computeSmoothEnd_0 40 rfl) ?_
  refine J_iload F 0 (dcq dc_X0_computeSmoothEnd_0 41 rfl) rfl ?_
  refine J_lald F 2 rfl (by omega) (Nat.le_of_ble_eq_true rfl) (dcq dc_X0_computeSmoothEnd_0 42 rfl) ?_
  refine J_lsub F (v := (2 * ((vp_updL f7 (n - 2) rq) (n - 2))) - ((vp_updL f7 (n - 2) rq) (n - 3))) (dcq dc_X0_computeSmoothEnd_0 43 rfl) rfl ?_
  refine J_last F (ws2 := [oB 0 qD [.ref q, .ref a1, .ref a2, .ref a3, .ref a4, .ref a5, .ref a6, .ref a7, .ref a8, .ref a9, .ref a10, .long wd, .int (nI oc), .int (nI fr), .int (nI tt)], aJ G a6 72 f6, aJ G a7 72 (vp_updL (vp_updL f7 (n - 2) rq) (n - 1) ((2 * ((vp_updL f7 (n - 2) rq) (n - 2))) - ((vp_updL f7 (n - 2) rq) (n - 3))))]) 2 rfl (by omega) (Nat.le_of_ble_eq_true rfl) rfl (dcq dc_X0_computeSmoothEnd_0 44 rfl) ?_
  exact J_vret F ⟨vp_updL (vp_updL f7 (n - 2) rq) (n - 1) ((2 * ((vp_updL f7 (n - 2) rq) (n - 2))) - ((vp_updL f7 (n - 2) rq) (n - 3))), rfl, rfl, by rw [pk_uLn (by omega), pk_uLs, hq]; rfl, by rw [pk_uLs, pk_uLs, pk_uLn (show n - 3 ≠ n - 2 by omega), hq]; rfl, fun j h => by rw [pk_uLn (by omega), pk_uLn (by omega)]⟩ (Nat.le_of_ble_eq_true rfl) (Nat.le_of_ble_eq_true rfl) (dcq dc_X0_computeSmoothEnd_0 45 rfl)

abbrev po_X0_computeSmooth (G : Gt) (qD q a1 a2 a3 a4 a5 a6 a7 a8 a9 a10 oc fr tt : Nat) (wd : Int64) (P M R n qv qg qd : Nat) (f6 : Nat → Int64) (f7 : Nat → Int64) : Option Value → va_W → Prop := fun (v9 : Option Value) (w9 : va_W) => ∃ (g7 : Nat → Int64), v9 = none ∧ w9 = [oB 0 qD [.ref q, .ref a1, .ref a2, .ref a3, .ref a4, .ref a5, .ref a6, .ref a7, .ref a8, .ref a9, .ref a10, .long wd, .int (nI oc), .int (nI fr), .int (nI tt)], oB 2 q [.int (nI P), .int (nI M), .int (nI R), .int (nI n), .ref qv, .ref qg, .ref qd], aJ G a6 72 f6, aJ G a7 72 g7] ∧ (∀ t, t < n → g7 t = smo n f6 t)
set_option maxHeartbeats 4000000 in
set_option maxRecDepth 100000 in
theorem c_X0_computeSmooth (l : Launch) (hl : l.stackTraces = false) (G : Gt) (qD q a1 a2 a3 a4 a5 a6 a7 a8 a9 a10 oc fr tt : Nat) (wd : Int64) (P M R n qv qg qd : Nat) (f6 : Nat → Int64) (f7 : Nat → Int64) (h5 : 5 ≤ n) (hn : n ≤ 72) : Con l G yX0_computeSmooth cX0_computeSmooth 6 none 2 53 0 0 [.ref qD] [oB 0 qD [.ref q, .ref a1, .ref a2, .ref a3, .ref a4, .ref a5, .ref a6, .ref a7, .ref a8, .ref a9, .ref a10, .long wd, .int (nI oc), .int (nI fr), .int (nI tt)], oB 2 q [.int (nI P), .int (nI M), .int (nI R), .int (nI n), .ref qv, .ref qg, .ref qd], aJ G a6 72 f6, aJ G a7 72 f7] (po_X0_computeSmooth G qD q a1 a2 a3 a4 a5 a6 a7 a8 a9 a10 oc fr tt wd P M R n qv qg qd f6 f7) := by
  refine Con.of hl cd_X0_computeSmooth (Nat.le_of_ble_eq_true rfl) ?_
  intro p e s m args below meth c A F hin9
  change Fx p l s m args meth c G A "SeasonalAdjuster$Decomposition" cX0_computeSmooth 6 none at F
  change J p l e (cRm 2 53 0 0) s m args below meth c G A 6 (JQ below G A (po_X0_computeSmooth G qD q a1 a2 a3 a4 a5 a6 a7 a8 a9 a10 oc fr tt wd P M R n qv qg qd f6 f7) args s 0 0) 0 0 0 [(0, .ref qD)] [] [oB 0 qD [.ref q, .ref a1, .ref a2, .ref a3, .ref a4, .ref a5, .ref a6, .ref a7, .ref a8, .ref a9, .ref a10, .long wd, .int (nI oc), .int (nI fr), .int (nI tt)], oB 2 q [.int (nI P), .int (nI M), .int (nI R), .int (nI n), .ref qv, .ref qg, .ref qd], aJ G a6 72 f6, aJ G a7 72 f7]
  refine J_iconst F (dcq dc_X0_computeSmooth_0 0 rfl) ic_2 ?_
  refine J_istore_n F (lv2 := [(1, .int (nI 2)), (0, .ref qD)]) (dcq dc_X0_computeSmooth_0 1 rfl) rfl (Nat.le_of_ble_eq_true rfl) rfl ?_
  have L2 : ∀ (fu2 : Nat), ∀ (t : Nat) (g7 : Nat → Int64), (2 ≤ t) → (t ≤ n - 2) → (∀ j, 2 ≤ j → j < t → g7 j = sm5 f6 j) → n - 2 - t < fu2 → J p l e (cRm 2 53 0 0) s m args below meth c G A 6 (JQ below G A (po_X0_computeSmooth G qD q a1 a2 a3 a4 a5 a6 a7 a8 a9 a10 oc fr tt wd P M R n qv qg qd f6 f7) args s 0 0) 0 0 2 [(0, .ref qD), (1, .int (nI t))] [] [oB 0 qD [.ref q, .ref a1, .ref a2, .ref a3, .ref a4, .ref a5, .ref a6, .ref a7, .ref a8, .ref a9, .ref a10, .long wd, .int (nI oc), .int (nI fr), .int (nI tt)], oB 2 q [.int (nI P), .int (nI M), .int (nI R), .int (nI n), .ref qv, .ref qg, .ref qd], aJ G a6 72 f6, aJ G a7 72 g7] := by
    intro fu2
    induction fu2 with
    | zero => intro t g7 ht1 ht iv hm2; exact absurd hm2 (Nat.not_lt_zero _)
    | succ fu2 ih2 =>
      intro t g7 ht1 ht iv hm2
      refine J_iload_n F 1 (dcq dc_X0_computeSmooth_0 2 rfl) rfl rfl ?_
      refine J_aload_n F 0 (dcq dc_X0_computeSmooth_0 3 rfl) rfl rfl ?_
      refine J_get F fcX0 0 0 rfl (Nat.le_of_ble_eq_true rfl) tw_1_86 rfl rfl (dcq dc_X0_computeSmooth_0 4 rfl) ?_
      refine J_get F fcX2 1 3 rfl (Nat.le_of_ble_eq_true rfl) tw_1_37 rfl rfl (dcq dc_X0_computeSmooth_0 5 rfl) ?_
      refine J_iconst F (dcq dc_X0_computeSmooth_0 6 rfl) ic_2 ?_
      refine J_isub F (v := nI (n - 2)) (dcq dc_X0_computeSmooth_0 7 rfl) (pk_sub (by omega)) ?_
      refine J_ncmp_ge F 93 (by omega) (by omega) (dcq dc_X0_computeSmooth_0 8 rfl) (by decide) (fun h_1 => ?_) (fun h_1 => ?_)
      · skip
        refine J_aload_n F 0 (dcq dc_X0_computeSmooth_1 11 rfl) rfl rfl ?_
        refine J_iconst F (dcq dc_X0_computeSmooth_1 12 rfl) ic_0 ?_
        refine J_iconst F (dcq dc_X0_computeSmooth_1 13 rfl) ic_1 ?_
        refine J_callV F (wc := [oB 0 qD [.ref q, .ref a1, .ref a2, .ref a3, .ref a4, .ref a5, .ref a6, .ref a7, .ref a8, .ref a9, .ref a10, .long wd, .int (nI oc), .int (nI fr), .int (nI tt)], aJ G a6 72 f6, aJ G a7 72 g7]) (wr := [oB 2 q [.int (nI P), .int (nI M), .int (nI R), .int (nI n), .ref qv, .ref qg, .ref qd]]) (rest := []) (qc := 0) (c_X0_computeSmoothEnd_a l hl G qD q a1 a2 a3 a4 a5 a6 a7 a8 a9 a10 oc fr tt wd f6 g7) cd_X0_computeSmoothEnd cv_X0_computeSmoothEnd rfl rfl rfl tw_2_89 [0, 2, 3] [1] rfl rfl rfl rfl (by decide) rfl ⟨(Nat.le_of_ble_eq_true rfl), (Nat.le_of_ble_eq_true rfl), (Nat.le_of_ble_eq_true rfl), (Nat.le_of_ble_eq_true rfl)⟩ (Nat.le_of_ble_eq_true rfl) rfl (dcq dc_X0_computeSmooth_1 14 rfl) ?_
        rintro _ _ ⟨ga, rfl, rfl, ha1, ha0, hak⟩
        change J p l e (cRm 2 53 0 0) s m args below meth c G A 6 (JQ below G A (po_X0_computeSmooth G qD q a1 a2 a3 a4 a5 a6 a7 a8 a9 a10 oc fr tt wd P M R n qv qg qd f6 f7) args s 0 0) 0 0 99 [(0, .ref qD), (1, .int (nI t))] [] [oB 2 q [.int (nI P), .int (nI M), .int (nI R), .int (nI n), .ref qv, .ref qg, .ref qd], oB 0 qD [.ref q, .ref a1, .ref a2, .ref a3, .ref a4, .ref a5, .ref a6, .ref a7, .ref a8, .ref a9, .ref a10, .long wd, .int (nI oc), .int (nI fr), .int (nI tt)], aJ G a6 72 f6, aJ G a7 72 ga]
        have ha1 : ga 1 = sm3 (f6 0) (f6 1) (f6 2) := ha1
        have ha0 : ga 0 = 2 * sm3 (f6 0) (f6 1) (f6 2) - g7 2 := ha0
        have hak : ∀ j, 2 ≤ j → ga j = g7 j := hak
        refine J_world (ws2 := [oB 0 qD [.ref q, .ref a1, .ref a2, .ref a3, .ref a4, .ref a5, .ref a6, .ref a7, .ref a8, .ref a9, .ref a10, .long wd, .int (nI oc), .int (nI fr), .int (nI tt)], oB 2 q [.int (nI P), .int (nI M), .int (nI R), .int (nI n), .ref qv, .ref qg, .ref qd], aJ G a6 72 f6, aJ G a7 72 ga]) [1, 0, 2, 3] rfl rfl ?_
        refine J_aload_n F 0 (dcq dc_X0_computeSmooth_1 15 rfl) rfl rfl ?_
        refine J_aload_n F 0 (dcq dc_X0_computeSmooth_1 16 rfl) rfl rfl ?_
        refine J_get F fcX0 0 0 rfl (Nat.le_of_ble_eq_true rfl) tw_1_86 rfl rfl (dcq dc_X0_computeSmooth_1 17 rfl) ?_
        refine J_get F fcX2 1 3 rfl (Nat.le_of_ble_eq_true rfl) tw_1_37 rfl rfl (dcq dc_X0_computeSmooth_1 18 rfl) ?_
        refine J_iconst F (dcq dc_X0_computeSmooth_1 19 rfl) ic_1 ?_
        refine J_isub F (v := nI (n - 1)) (dcq dc_X0_computeSmooth_1 20 rfl) (pk_sub (by omega)) ?_
        refine J_iconst F (dcq dc_X0_computeSmooth_1 21 rfl) ic_m1 ?_
        refine J_callV F (wc := [oB 0 qD [.ref q, .ref a1, .ref a2, .ref a3, .ref a4, .ref a5, .ref a6, .ref a7, .ref a8, .ref a9, .ref a10, .long wd, .int (nI oc), .int (nI fr), .int (nI tt)], aJ G a6 72 f6, aJ G a7 72 ga]) (wr := [oB 2 q [.int (nI P), .int (nI M), .int (nI R), .int (nI n), .ref qv, .ref qg, .ref qd]]) (rest := []) (qc := 0) (c_X0_computeSmoothEnd_b l hl G qD q a1 a2 a3 a4 a5 a6 a7 a8 a9 a10 oc fr tt wd n f6 ga (by first | assumption | omega) (by first | assumption | omega)) cd_X0_computeSmoothEnd cv_X0_computeSmoothEnd rfl rfl rfl tw_2_89 [0, 2, 3] [1] rfl rfl rfl rfl (by decide) rfl ⟨(Nat.le_of_ble_eq_true rfl), (Nat.le_of_ble_eq_true rfl), (Nat.le_of_ble_eq_true rfl), (Nat.le_of_ble_eq_true rfl)⟩ (Nat.le_of_ble_eq_true rfl) rfl (dcq dc_X0_computeSmooth_1 22 rfl) ?_
        rintro _ _ ⟨gb9, rfl, rfl, hb1, hb0, hbk⟩
        change J p l e (cRm 2 53 0 0) s m args below meth c G A 6 (JQ below G A (po_X0_computeSmooth G qD q a1 a2 a3 a4 a5 a6 a7 a8 a9 a10 oc fr tt wd P M R n qv qg qd f6 f7) args s 0 0) 0 0 113 [(0, .ref qD), (1, .int (nI t))] [] [oB 2 q [.int (nI P), .int (nI M), .int (nI R), .int (nI n), .ref qv, .ref qg, .ref qd], oB 0 qD [.ref q, .ref a1, .ref a2, .ref a3, .ref a4, .ref a5, .ref a6, .ref a7, .ref a8, .ref a9, .ref a10, .long wd, .int (nI oc), .int (nI fr), .int (nI tt)], aJ G a6 72 f6, aJ G a7 72 gb9]
        have hb1 : gb9 (n - 2) = sm3 (f6 (n - 1)) (f6 (n - 2)) (f6 (n - 3)) := hb1
        have hb0 : gb9 (n - 1) = 2 * sm3 (f6 (n - 1)) (f6 (n - 2)) (f6 (n - 3)) - ga (n - 3) := hb0
        have hbk : ∀ j, j + 2 < n → gb9 j = ga j := hbk
        refine J_world (ws2 := [oB 0 qD [.ref q, .ref a1, .ref a2, .ref a3, .ref a4, .ref a5, .ref a6, .ref a7, .ref a8, .ref a9, .ref a10, .long wd, .int (nI oc), .int (nI fr), .int (nI tt)], oB 2 q [.int (nI P), .int (nI M), .int (nI R), .int (nI n), .ref qv, .ref qg, .ref qd], aJ G a6 72 f6, aJ G a7 72 gb9]) [1, 0, 2, 3] rfl rfl ?_
        have hfin : ∀ t, t < n → gb9 t = smo n f6 t := by
          intro j hj
          unfold smo
          by_cases e0 : j = 0
          · rw [if_pos e0, e0, hbk 0 (by omega), ha0, iv 2 (by omega) (by omega)]
          · rw [if_neg e0]
            by_cases e1 : j = 1
            · rw [if_pos e1, e1, hbk 1 (by omega), ha1]
            · rw [if_neg e1]
              by_cases e2 : j + 2 < n
              · rw [if_pos e2, hbk j e2, hak j (by omega), iv j (by omega) (by omega)]
              · rw [if_neg e2]
                by_cases e3 : j + 2 = n
                · rw [if_pos e3, show j = n - 2 by omega, hb1]
                · rw [if_neg e3, show j = n - 1 by omega, hb0, hak (n - 3) (by omega), iv (n - 3) (by omega) (by omega)]
        exact J_vret F ⟨gb9, rfl, rfl, hfin⟩ (Nat.le_of_ble_eq_true rfl) (Nat.le_of_ble_eq_true rfl) (dcq dc_X0_computeSmooth_1 23 rfl)
      · skip
        refine J_aload_n F 0 (dcq dc_X0_computeSmooth_0 9 rfl) rfl rfl ?_
        refine J_get F fcX0 0 6 rfl (Nat.le_of_ble_eq_true rfl) tw_1_96 rfl rfl (dcq dc_X0_computeSmooth_0 10 rfl) ?_
        refine J_iload_n F 1 (dcq dc_X0_computeSmooth_0 11 rfl) rfl rfl ?_
        refine J_iconst F (dcq dc_X0_computeSmooth_0 12 rfl) ic_2 ?_
        refine J_isub F (v := nI (t - 2)) (dcq dc_X0_computeSmooth_0 13 rfl) (pk_sub (by omega)) ?_
        refine J_lald F 2 rfl (by omega) (Nat.le_of_ble_eq_true rfl) (dcq dc_X0_computeSmooth_0 14 rfl) ?_
        refine J_aload_n F 0 (dcq dc_X0_computeSmooth_0 15 rfl) rfl rfl ?_
        refine J_get F fcX0 0 6 rfl (Nat.le_of_ble_eq_true rfl) tw_1_96 rfl rfl (dcq dc_X0_computeSmooth_0 16 rfl) ?_
        refine J_iload_n F 1 (dcq dc_X0_computeSmooth_0 17 rfl) rfl rfl ?_
        refine J_iconst F (dcq dc_X0_computeSmooth_0 18 rfl) ic_2 ?_
        refine J_iadd F (v := nI (t + 2)) (dcq dc_X0_computeSmooth_0 19 rfl) (nI_add _ _) ?_
        refine J_lald F 2 rfl (by omega) (Nat.le_of_ble_eq_true rfl) (dcq dc_X0_computeSmooth_0 20 rfl) ?_
        refine J_ladd F (v := (f6 (t - 2)) + (f6 (t + 2))) (dcq dc_X0_computeSmooth_0 21 rfl) rfl ?_
        refine J_lstore_n F (lv2 := [(2, .long ((f6 (t - 2)) + (f6 (t + 2)))), (0, .ref qD), (1, .int (nI t))]) (dcq dc_X0_computeSmooth_0 22 rfl) rfl (Nat.le_of_ble_eq_true rfl) rfl ?_
        refine J_aload_n F 1 (dcq dc_X0_computeSmooth_0 23 rfl) rfl rfl ?_
        refine J_get F fcX0 0 6 rfl (Nat.le_of_ble_eq_true rfl) tw_1_96 rfl rfl (dcq dc_X0_computeSmooth_0 24 rfl) ?_
        refine J_iload_n F 2 (dcq dc_X0_computeSmooth_0 25 rfl) rfl rfl ?_
        refine J_iconst F (dcq dc_X0_computeSmooth_0 26 rfl) ic_1 ?_
        refine J_isub F (v := nI (t - 1)) (dcq dc_X0_computeSmooth_0 27 rfl) (pk_sub (by omega)) ?_
        refine J_lald F 2 rfl (by omega) (Nat.le_of_ble_eq_true rfl) (dcq dc_X0_computeSmooth_0 28 rfl) ?_
        refine J_aload_n F 1 (dcq dc_X0_computeSmooth_0 29 rfl) rfl rfl ?_
        refine J_get F fcX0 0 6 rfl (Nat.le_of_ble_eq_true rfl) tw_1_96 rfl rfl (dcq dc_X0_computeSmooth_0 30 rfl) ?_
        refine J_iload_n F 2 (dcq dc_X0_computeSmooth_0 31 rfl) rfl rfl ?_
        refine J_iconst F (dcq dc_X0_computeSmooth_0 32 rfl) ic_1 ?_
        refine J_iadd F (v := nI (t + 1)) (dcq dc_X0_computeSmooth_0 33 rfl) (nI_add _ _) ?_
        refine J_lald F 2 rfl (by omega) (Nat.le_of_ble_eq_true rfl) (dcq dc_X0_computeSmooth_0 34 rfl) ?_
        refine J_ladd F (v := (f6 (t - 1)) + (f6 (t + 1))) (dcq dc_X0_computeSmooth_0 35 rfl) rfl ?_
        refine J_lstore F (lv2 := [(4, .long ((f6 (t - 1)) + (f6 (t + 1)))), (2, .long ((f6 (t - 2)) + (f6 (t + 2)))), (0, .ref qD), (1, .int (nI t))]) (dcq dc_X0_computeSmooth_0 36 rfl) (Nat.le_of_ble_eq_true rfl) rfl ?_
        refine J_aload_n F 2 (dcq dc_X0_computeSmooth_0 37 rfl) rfl rfl ?_
        refine J_get F fcX0 0 7 rfl (Nat.le_of_ble_eq_true rfl) tw_1_98 rfl rfl (dcq dc_X0_computeSmooth_0 38 rfl) ?_
        refine J_iload_n F 3 (dcq dc_X0_computeSmooth_0 39 rfl) rfl rfl ?_
        refine J_ldc2 F (v2 := (-73)) tw_2_85 rfl (dcq dc_X0_computeSmooth_0 40 rfl) ?_
        refine J_lload_n F 1 (dcq dc_X0_computeSmooth_0 41 rfl) rfl rfl ?_
        refine J_lmul F (v := (-73) * ((f6 (t - 2)) + (f6 (t + 2)))) (dcq dc_X0_computeSmooth_0 42 rfl) rfl ?_
        refine J_ldc2 F (v2 := (294)) tw_2_86 rfl (dcq dc_X0_computeSmooth_0 43 rfl) ?_
        refine J_lload F 0 (dcq dc_X0_computeSmooth_0 44 rfl) rfl ?_
        refine J_lmul F (v := 294 * ((f6 (t - 1)) + (f6 (t + 1)))) (dcq dc_X0_computeSmooth_0 45 rfl) rfl ?_
        refine J_ladd F (v := ((-73) * ((f6 (t - 2)) + (f6 (t + 2)))) + (294 * ((f6 (t - 1)) + (f6 (t + 1))))) (dcq dc_X0_computeSmooth_0 46 rfl) rfl ?_
        refine J_ldc2 F (v2 := (558)) tw_2_87 rfl (dcq dc_X0_computeSmooth_0 47 rfl) ?_
        refine J_aload_n F 2 (dcq dc_X0_computeSmooth_1 0 rfl) rfl rfl ?_
        refine J_get F fcX0 0 6 rfl (Nat.le_of_ble_eq_true rfl) tw_1_96 rfl rfl (dcq dc_X0_computeSmooth_1 1 rfl) ?_
        refine J_iload_n F 3 (dcq dc_X0_computeSmooth_1 2 rfl) rfl rfl ?_
        refine J_lald F 2 rfl (by omega) (Nat.le_of_ble_eq_true rfl) (dcq dc_X0_computeSmooth_1 3 rfl) ?_
        refine J_lmul F (v := 558 * (f6 t)) (dcq dc_X0_computeSmooth_1 4 rfl) rfl ?_
        refine J_ladd F (v := (((-73) * ((f6 (t - 2)) + (f6 (t + 2)))) + (294 * ((f6 (t - 1)) + (f6 (t + 1))))) + (558 * (f6 t))) (dcq dc_X0_computeSmooth_1 5 rfl) rfl ?_
        refine J_ldc2 F (v2 := (1000)) tw_2_88 rfl (dcq dc_X0_computeSmooth_1 6 rfl) ?_
        refine J_callSN F (wc := []) (wr := [oB 0 qD [.ref q, .ref a1, .ref a2, .ref a3, .ref a4, .ref a5, .ref a6, .ref a7, .ref a8, .ref a9, .ref a10, .long wd, .int (nI oc), .int (nI fr), .int (nI tt)], oB 2 q [.int (nI P), .int (nI M), .int (nI R), .int (nI n), .ref qv, .ref qg, .ref qd], aJ G a6 72 f6, aJ G a7 72 g7]) (rest := [.int (nI t), .ref a7]) (c_X3_quotient l hl G ((((-73) * ((f6 (t - 2)) + (f6 (t + 2)))) + (294 * ((f6 (t - 1)) + (f6 (t + 1))))) + (558 * (f6 t))) 1000) cd_X3_quotient tw_2_27 nt_Decomposition_112 [] [0, 1, 2, 3] rfl rfl rfl rfl (by decide) rfl ⟨(Nat.le_of_ble_eq_true rfl), (Nat.le_of_ble_eq_true rfl), (Nat.le_of_ble_eq_true rfl), (Nat.le_of_ble_eq_true rfl)⟩ (Nat.le_of_ble_eq_true rfl) rfl (dcq dc_X0_computeSmooth_1 7 rfl) ?_
        rintro _ _ ⟨rq, rfl, rfl, hq⟩
        change J p l e (cRm 2 53 0 0) s m args below meth c G A 6 (JQ below G A (po_X0_computeSmooth G qD q a1 a2 a3 a4 a5 a6 a7 a8 a9 a10 oc fr tt wd P M R n qv qg qd f6 f7) args s 0 0) 0 0 86 [(4, .long ((f6 (t - 1)) + (f6 (t + 1)))), (2, .long ((f6 (t - 2)) + (f6 (t + 2)))), (0, .ref qD), (1, .int (nI t))] [.long rq, .int (nI t), .ref a7] [oB 0 qD [.ref q, .ref a1, .ref a2, .ref a3, .ref a4, .ref a5, .ref a6, .ref a7, .ref a8, .ref a9, .ref a10, .long wd, .int (nI oc), .int (nI fr), .int (nI tt)], oB 2 q [.int (nI P), .int (nI M), .int (nI R), .int (nI n), .ref qv, .ref qg, .ref qd], aJ G a6 72 f6, aJ G a7 72 g7]
        have hq : rq = quo ((((-73) * ((f6 (t - 2)) + (f6 (t + 2)))) + (294 * ((f6 (t - 1)) + (f6 (t + 1))))) + (558 * (f6 t))) 1000 := hq
        refine J_last F (ws2 := [oB 0 qD [.ref q, .ref a1, .ref a2, .ref a3, .ref a4, .ref a5, .ref a6, .ref a7, .ref a8, .ref a9, .ref a10, .long wd, .int (nI oc), .int (nI fr), .int (nI tt)], oB 2 q [.int (nI P), .int (nI M), .int (nI R), .int (nI n), .ref qv, .ref qg, .ref qd], aJ G a6 72 f6, aJ G a7 72 (vp_updL g7 t rq)]) 3 rfl (by omega) (Nat.le_of_ble_eq_true rfl) rfl (dcq dc_X0_computeSmooth_1 8 rfl) ?_
        refine J_iinc F (lv2 := [(1, .int (nI (t + 1))), (4, .long ((f6 (t - 1)) + (f6 (t + 1)))), (2, .long ((f6 (t - 2)) + (f6 (t + 2)))), (0, .ref qD)]) (v := nI (t + 1)) 3 (dcq dc_X0_computeSmooth_1 9 rfl) rfl (nI_inc _) (Nat.le_of_ble_eq_true rfl) rfl ?_
        refine J_goto F 2 (dcq dc_X0_computeSmooth_1 10 rfl) (by decide) ?_
        refine J_locs [3, 0] rfl ?_
        exact ih2 (t + 1) (vp_updL g7 t rq) (by omega) (by omega) (up_l iv (by rw [hq]; rfl)) (by omega)
  refine J_locs [1, 0] rfl ?_
  exact L2 (n - 2 - 2 + 1) 2 f7 (by omega) (by omega) (fun j h1 h2 => absurd h2 (Nat.not_lt.mpr h1)) (Nat.lt_succ_self _)

abbrev po_X0_restRatio (G : Gt) (qD q a1 a2 a3 a4 a5 a6 a7 a8 a9 a10 oc fr tt : Nat) (wd : Int64) (f6 : Nat → Int64) (f7 : Nat → Int64) (t : Nat) : Option Value → va_W → Prop := fun (v9 : Option Value) (w9 : va_W) => ∃ (r : Int64), v9 = some (.long r) ∧ w9 = [oB 0 qD [.ref q, .ref a1, .ref a2, .ref a3, .ref a4, .ref a5, .ref a6, .ref a7, .ref a8, .ref a9, .ref a10, .long wd, .int (nI oc), .int (nI fr), .int (nI tt)], aJ G a6 72 f6, aJ G a7 72 f7] ∧ (r = if 0 < f7 t then quo (10000 * f6 t) (f7 t) else 10000)
set_option maxHeartbeats 4000000 in
set_option maxRecDepth 100000 in
theorem c_X0_restRatio (l : Launch) (hl : l.stackTraces = false) (G : Gt) (qD q a1 a2 a3 a4 a5 a6 a7 a8 a9 a10 oc fr tt : Nat) (wd : Int64) (f6 : Nat → Int64) (f7 : Nat → Int64) (t : Nat) (ht : t < 72) : Con l G yX0_restRatio cX0_restRatio 2 (some .long) 1 29 0 0 [.ref qD, .int (nI t)] [oB 0 qD [.ref q, .ref a1, .ref a2, .ref a3, .ref a4, .ref a5, .ref a6, .ref a7, .ref a8, .ref a9, .ref a10, .long wd, .int (nI oc), .int (nI fr), .int (nI tt)], aJ G a6 72 f6, aJ G a7 72 f7] (po_X0_restRatio G qD q a1 a2 a3 a4 a5 a6 a7 a8 a9 a10 oc fr tt wd f6 f7 t) := by
  refine Con.of hl cd_X0_restRatio (Nat.le_of_ble_eq_true rfl) ?_
  intro p e s m args below meth c A F hin9
  change Fx p l s m args meth c G A "SeasonalAdjuster$Decomposition" cX0_restRatio 2 (some .long) at F
  change J p l e (cRm 1 29 0 0) s m args below meth c G A 2 (JQ below G A (po_X0_restRatio G qD q a1 a2 a3 a4 a5 a6 a7 a8 a9 a10 oc fr tt wd f6 f7 t) args s 0 0) 0 0 0 [(0, .ref qD), (1, .int (nI t))] [] [oB 0 qD [.ref q, .ref a1, .ref a2, .ref a3, .ref a4, .ref a5, .ref a6, .ref a7, .ref a8, .ref a9, .ref a10, .long wd, .int (nI oc), .int (nI fr), .int (nI tt)], aJ G a6 72 f6, aJ G a7 72 f7]
  refine J_aload_n F 0 (dcq dc_X0_restRatio_0 0 rfl) rfl rfl ?_
  refine J_get F fcX0 0 7 rfl (Nat.le_of_ble_eq_true rfl) tw_1_98 rfl rfl (dcq dc_X0_restRatio_0 1 rfl) ?_
  refine J_iload_n F 1 (dcq dc_X0_restRatio_0 2 rfl) rfl rfl ?_
  refine J_lald F 2 rfl (by omega) (Nat.le_of_ble_eq_true rfl) (dcq dc_X0_restRatio_0 3 rfl) ?_
  refine J_lconst F (dcq dc_X0_restRatio_0 4 rfl) lc_0 ?_
  refine J_lcmp_le F 33 (dcq dc_X0_restRatio_0 5 rfl) (dcq dc_X0_restRatio_0 6 rfl) (by decide) (fun h_1 => ?_) (fun h_1 => ?_)
  · skip
    have hc9 := h_1
    refine J_ldc2 F (v2 := (10000)) tw_2_34 rfl (dcq dc_X0_restRatio_0 19 rfl) ?_
    exact J_lret F ⟨10000, rfl, rfl, by first | rw [if_neg (Int64.not_lt.mpr hc9)] | rw [if_pos (Int64.not_le.mp hc9), hq]⟩ (Nat.le_of_ble_eq_true rfl) (Nat.le_of_ble_eq_true rfl) (dcq dc_X0_restRatio_0 20 rfl)
  · skip
    have hc9 := h_1
    refine J_ldc2 F (v2 := (10000)) tw_2_34 rfl (dcq dc_X0_restRatio_0 7 rfl) ?_
    refine J_aload_n F 0 (dcq dc_X0_restRatio_0 8 rfl) rfl rfl ?_
    refine J_get F fcX0 0 6 rfl (Nat.le_of_ble_eq_true rfl) tw_1_96 rfl rfl (dcq dc_X0_restRatio_0 9 rfl) ?_
    refine J_iload_n F 1 (dcq dc_X0_restRatio_0 10 rfl) rfl rfl ?_
    refine J_lald F 1 rfl (by omega) (Nat.le_of_ble_eq_true rfl) (dcq dc_X0_restRatio_0 11 rfl) ?_
    refine J_lmul F (v := 10000 * (f6 t)) (dcq dc_X0_restRatio_0 12 rfl) rfl ?_
    refine J_aload_n F 0 (dcq dc_X0_restRatio_0 13 rfl) rfl rfl ?_
    refine J_get F fcX0 0 7 rfl (Nat.le_of_ble_eq_true rfl) tw_1_98 rfl rfl (dcq dc_X0_restRatio_0 14 rfl) ?_
    refine J_iload_n F 1 (dcq dc_X0_restRatio_0 15 rfl) rfl rfl ?_
    refine J_lald F 2 rfl (by omega) (Nat.le_of_ble_eq_true rfl) (dcq dc_X0_restRatio_0 16 rfl) ?_
    refine J_callSN F (wc := []) (wr := [oB 0 qD [.ref q, .ref a1, .ref a2, .ref a3, .ref a4, .ref a5, .ref a6, .ref a7, .ref a8, .ref a9, .ref a10, .long wd, .int (nI oc), .int (nI fr), .int (nI tt)], aJ G a6 72 f6, aJ G a7 72 f7]) (rest := []) (c_X3_quotient l hl G (10000 * (f6 t)) (f7 t)) cd_X3_quotient tw_2_27 nt_Decomposition_112 [] [0, 1, 2] rfl rfl rfl rfl (by decide) rfl ⟨(Nat.le_of_ble_eq_true rfl), (Nat.le_of_ble_eq_true rfl), (Nat.le_of_ble_eq_true rfl), (Nat.le_of_ble_eq_true rfl)⟩ (Nat.le_of_ble_eq_true rfl) rfl (dcq dc_X0_restRatio_0 17 rfl) ?_
    rintro _ _ ⟨rq, rfl, rfl, hq⟩
    change J p l e (cRm 1 29 0 0) s m args below meth c G A 2 (JQ below G A (po_X0_restRatio G qD q a1 a2 a3 a4 a5 a6 a7 a8 a9 a10 oc fr tt wd f6 f7 t) args s 0 0) 0 0 30 [(0, .ref qD), (1, .int (nI t))] [.long rq] [oB 0 qD [.ref q, .ref a1, .ref a2, .ref a3, .ref a4, .ref a5, .ref a6, .ref a7, .ref a8, .ref a9, .ref a10, .long wd, .int (nI oc), .int (nI fr), .int (nI tt)], aJ G a6 72 f6, aJ G a7 72 f7]
    have hq : rq = quo (10000 * (f6 t)) (f7 t) := hq
    refine J_goto F 36 (dcq dc_X0_restRatio_0 18 rfl) (by decide) ?_
    exact J_lret F ⟨rq, rfl, rfl, by first | rw [if_neg (Int64.not_lt.mpr hc9)] | rw [if_pos (Int64.not_le.mp hc9), hq]⟩ (Nat.le_of_ble_eq_true rfl) (Nat.le_of_ble_eq_true rfl) (dcq dc_X0_restRatio_0 20 rfl)

abbrev po_X0_computeRest (G : Gt) (qD q a1 a2 a3 a4 a5 a6 a7 a8 a9 a10 oc fr tt : Nat) (wd : Int64) (P M R n qv qg qd : Nat) (f6 : Nat → Int64) (f7 : Nat → Int64) (f8 : Nat → Int64) : Option Value → va_W → Prop := fun (v9 : Option Value) (w9 : va_W) => ∃ (g8 : Nat → Int64), v9 = none ∧ w9 = [oB 0 qD [.ref q, .ref a1, .ref a2, .ref a3, .ref a4, .ref a5, .ref a6, .ref a7, .ref a8, .ref a9, .ref a10, .long wd, .int (nI oc), .int (nI fr), .int (nI tt)], oB 2 q [.int (nI P), .int (nI M), .int (nI R), .int (nI n), .ref qv, .ref qg, .ref qd], aJ G a6 72 f6, aJ G a7 72 f7, aJ G a8 72 g8] ∧ (∀ t, t < n → g8 t = irr M (f6 t) (f7 t))
set_option maxHeartbeats 4000000 in
set_option maxRecDepth 100000 in
theorem c_X0_computeRest (l : Launch) (hl : l.stackTraces = false) (G : Gt) (qD q a1 a2 a3 a4 a5 a6 a7 a8 a9 a10 oc fr tt : Nat) (wd : Int64) (P M R n qv qg qd : Nat) (f6 : Nat → Int64) (f7 : Nat → Int64) (f8 : Nat → Int64) (hn : n ≤ 72) (hM : M ≤ 1) : Con l G yX0_computeRest cX0_computeRest 2 none 2 50 0 0 [.ref qD] [oB 0 qD [.ref q, .ref a1, .ref a2, .ref a3, .ref a4, .ref a5, .ref a6, .ref a7, .ref a8, .ref a9, .ref a10, .long wd, .int (nI oc), .int (nI fr), .int (nI tt)], oB 2 q [.int (nI P), .int (nI M), .int (nI R), .int (nI n), .ref qv, .ref qg, .ref qd], aJ G a6 72 f6, aJ G a7 72 f7, aJ G a8 72 f8] (po_X0_computeRest G qD q a1 a2 a3 a4 a5 a6 a7 a8 a9 a10 oc fr tt wd P M R n qv qg qd f6 f7 f8) := by
  refine Con.of hl cd_X0_computeRest (Nat.le_of_ble_eq_true rfl) ?_
  intro p e s m args below meth c A F hin9
  change Fx p l s m args meth c G A "SeasonalAdjuster$Decomposition" cX0_computeRest 2 none at F
  change J p l e (cRm 2 50 0 0) s m args below meth c G A 2 (JQ below G A (po_X0_computeRest G qD q a1 a2 a3 a4 a5 a6 a7 a8 a9 a10 oc fr tt wd P M R n qv qg qd f6 f7 f8) args s 0 0) 0 0 0 [(0, .ref qD)] [] [oB 0 qD [.ref q, .ref a1, .ref a2, .ref a3, .ref a4, .ref a5, .ref a6, .ref a7, .ref a8, .ref a9, .ref a10, .long wd, .int (nI oc), .int (nI fr), .int (nI tt)], oB 2 q [.int (nI P), .int (nI M), .int (nI R), .int (nI n), .ref qv, .ref qg, .ref qd], aJ G a6 72 f6, aJ G a7 72 f7, aJ G a8 72 f8]
  refine J_iconst F (dcq dc_X0_computeRest_0 0 rfl) ic_0 ?_
  refine J_istore_n F (lv2 := [(1, .int (nI 0)), (0, .ref qD)]) (dcq dc_X0_computeRest_0 1 rfl) rfl (Nat.le_of_ble_eq_true rfl) rfl ?_
  have L2 : ∀ (fu2 : Nat), ∀ (t : Nat) (g8 : Nat → Int64), (t ≤ n) → (∀ j, 0 ≤ j → j < t → g8 j = irr M (f6 j) (f7 j)) → n - t < fu2 → J p l e (cRm 2 50 0 0) s m args below meth c G A 2 (JQ below G A (po_X0_computeRest G qD q a1 a2 a3 a4 a5 a6 a7 a8 a9 a10 oc fr tt wd P M R n qv qg qd f6 f7 f8) args s 0 0) 0 0 2 [(0, .ref qD), (1, .int (nI t))] [] [oB 0 qD [.ref q, .ref a1, .ref a2, .ref a3, .ref a4, .ref a5, .ref a6, .ref a7, .ref a8, .ref a9, .ref a10, .long wd, .int (nI oc), .int (nI fr), .int (nI tt)], oB 2 q [.int (nI P), .int (nI M), .int (nI R), .int (nI n), .ref qv, .ref qg, .ref qd], aJ G a6 72 f6, aJ G a7 72 f7, aJ G a8 72 g8] := by
    intro fu2
    induction fu2 with
    | zero => intro t g8 ht iv hm2; exact absurd hm2 (Nat.not_lt_zero _)
    | succ fu2 ih2 =>
      intro t g8 ht iv hm2
      refine J_iload_n F 1 (dcq dc_X0_computeRest_0 2 rfl) rfl rfl ?_
      refine J_aload_n F 0 (dcq dc_X0_computeRest_0 3 rfl) rfl rfl ?_
      refine J_get F fcX0 0 0 rfl (Nat.le_of_ble_eq_true rfl) tw_1_86 rfl rfl (dcq dc_X0_computeRest_0 4 rfl) ?_
      refine J_get F fcX2 1 3 rfl (Nat.le_of_ble_eq_true rfl) tw_1_37 rfl rfl (dcq dc_X0_computeRest_0 5 rfl) ?_
      refine J_ncmp_ge F 56 (by omega) (by omega) (dcq dc_X0_computeRest_0 6 rfl) (by decide) (fun h_1 => ?_) (fun h_1 => ?_)
      · skip
        exact J_vret F ⟨g8, rfl, rfl, fun j h => iv j (Nat.zero_le _) (by omega)⟩ (Nat.le_of_ble_eq_true rfl) (Nat.le_of_ble_eq_true rfl) (dcq dc_X0_computeRest_0 30 rfl)
      · skip
        refine J_aload_n F 0 (dcq dc_X0_computeRest_0 7 rfl) rfl rfl ?_
        refine J_get F fcX0 0 8 rfl (Nat.le_of_ble_eq_true rfl) tw_1_100 rfl rfl (dcq dc_X0_computeRest_0 8 rfl) ?_
        refine J_iload_n F 1 (dcq dc_X0_computeRest_0 9 rfl) rfl rfl ?_
        refine J_aload_n F 0 (dcq dc_X0_computeRest_0 10 rfl) rfl rfl ?_
        refine J_get F fcX0 0 0 rfl (Nat.le_of_ble_eq_true rfl) tw_1_86 rfl rfl (dcq dc_X0_computeRest_0 11 rfl) ?_
        refine J_get F fcX2 1 1 rfl (Nat.le_of_ble_eq_true rfl) tw_1_32 rfl rfl (dcq dc_X0_computeRest_0 12 rfl) ?_
        refine J_nif_ne F 44 (by omega) (dcq dc_X0_computeRest_0 13 rfl) (by decide) (fun h_2 => ?_) (fun h_2 => ?_)
        · skip
          have hm := h_2
          refine J_aload_n F 0 (dcq dc_X0_computeRest_0 24 rfl) rfl rfl ?_
          refine J_iload_n F 1 (dcq dc_X0_computeRest_0 25 rfl) rfl rfl ?_
          refine J_callV F (wc := [oB 0 qD [.ref q, .ref a1, .ref a2, .ref a3, .ref a4, .ref a5, .ref a6, .ref a7, .ref a8, .ref a9, .ref a10, .long wd, .int (nI oc), .int (nI fr), .int (nI tt)], aJ G a6 72 f6, aJ G a7 72 f7]) (wr := [oB 2 q [.int (nI P), .int (nI M), .int (nI R), .int (nI n), .ref qv, .ref qg, .ref qd], aJ G a8 72 g8]) (rest := [.int (nI t), .ref a8]) (qc := 0) (c_X0_restRatio l hl G qD q a1 a2 a3 a4 a5 a6 a7 a8 a9 a10 oc fr tt wd f6 f7 t (by first | assumption | omega)) cd_X0_restRatio cv_X0_restRatio rfl rfl rfl tw_2_97 [0, 2, 3] [1, 4] rfl rfl rfl rfl (by decide) rfl ⟨(Nat.le_of_ble_eq_true rfl), (Nat.le_of_ble_eq_true rfl), (Nat.le_of_ble_eq_true rfl), (Nat.le_of_ble_eq_true rfl)⟩ (Nat.le_of_ble_eq_true rfl) rfl (dcq dc_X0_computeRest_0 26 rfl) ?_
          rintro _ _ ⟨rq, rfl, rfl, hq⟩
          change J p l e (cRm 2 50 0 0) s m args below meth c G A 2 (JQ below G A (po_X0_computeRest G qD q a1 a2 a3 a4 a5 a6 a7 a8 a9 a10 oc fr tt wd P M R n qv qg qd f6 f7 f8) args s 0 0) 0 0 49 [(0, .ref qD), (1, .int (nI t))] [.long rq, .int (nI t), .ref a8] [oB 2 q [.int (nI P), .int (nI M), .int (nI R), .int (nI n), .ref qv, .ref qg, .ref qd], aJ G a8 72 g8, oB 0 qD [.ref q, .ref a1, .ref a2, .ref a3, .ref a4, .ref a5, .ref a6, .ref a7, .ref a8, .ref a9, .ref a10, .long wd, .int (nI oc), .int (nI fr), .int (nI tt)], aJ G a6 72 f6, aJ G a7 72 f7]
          have hq : rq = if 0 < f7 t then quo (10000 * f6 t) (f7 t) else 10000 := hq
          refine J_world (ws2 := [oB 0 qD [.ref q, .ref a1, .ref a2, .ref a3, .ref a4, .ref a5, .ref a6, .ref a7, .ref a8, .ref a9, .ref a10, .long wd, .int (nI oc), .int (nI fr), .int (nI tt)], oB 2 q [.int (nI P), .int (nI M), .int (nI R), .int (nI n), .ref qv, .ref qg, .ref qd], aJ G a6 72 f6, aJ G a7 72 f7, aJ G a8 72 g8]) [2, 0, 3, 4, 1] rfl rfl ?_
          refine J_last F (ws2 := [oB 0 qD [.ref q, .ref a1, .ref a2, .ref a3, .ref a4, .ref a5, .ref a6, .ref a7, .ref a8, .ref a9, .ref a10, .long wd, .int (nI oc), .int (nI fr), .int (nI tt)], oB 2 q [.int (nI P), .int (nI M), .int (nI R), .int (nI n), .ref qv, .ref qg, .ref qd], aJ G a6 72 f6, aJ G a7 72 f7, aJ G a8 72 (vp_updL g8 t rq)]) 4 rfl (by omega) (Nat.le_of_ble_eq_true rfl) rfl (dcq dc_X0_computeRest_0 27 rfl) ?_
          refine J_iinc F (lv2 := [(1, .int (nI (t + 1))), (0, .ref qD)]) (v := nI (t + 1)) 1 (dcq dc_X0_computeRest_0 28 rfl) rfl (nI_inc _) (Nat.le_of_ble_eq_true rfl) rfl ?_
          refine J_goto F 2 (dcq dc_X0_computeRest_0 29 rfl) (by decide) ?_
          refine J_locs [1, 0] rfl ?_
          exact ih2 (t + 1) (vp_updL g8 t rq) (by omega) (up_l iv (by unfold irr; first | rw [if_pos hm] | rw [if_neg (by omega), hq])) (by omega)
        · skip
          have hm := h_2
          refine J_aload_n F 0 (dcq dc_X0_computeRest_0 14 rfl) rfl rfl ?_
          refine J_get F fcX0 0 6 rfl (Nat.le_of_ble_eq_true rfl) tw_1_96 rfl rfl (dcq dc_X0_computeRest_0 15 rfl) ?_
          refine J_iload_n F 1 (dcq dc_X0_computeRest_0 16 rfl) rfl rfl ?_
          refine J_lald F 2 rfl (by omega) (Nat.le_of_ble_eq_true rfl) (dcq dc_X0_computeRest_0 17 rfl) ?_
          refine J_aload_n F 0 (dcq dc_X0_computeRest_0 18 rfl) rfl rfl ?_
          refine J_get F fcX0 0 7 rfl (Nat.le_of_ble_eq_true rfl) tw_1_98 rfl rfl (dcq dc_X0_computeRest_0 19 rfl) ?_
          refine J_iload_n F 1 (dcq dc_X0_computeRest_0 20 rfl) rfl rfl ?_
          refine J_lald F 3 rfl (by omega) (Nat.le_of_ble_eq_true rfl) (dcq dc_X0_computeRest_0 21 rfl) ?_
          refine J_lsub F (v := (f6 t) - (f7 t)) (dcq dc_X0_computeRest_0 22 rfl) rfl ?_
          refine J_goto F 49 (dcq dc_X0_computeRest_0 23 rfl) (by decide) ?_
          refine J_last F (ws2 := [oB 0 qD [.ref q, .ref a1, .ref a2, .ref a3, .ref a4, .ref a5, .ref a6, .ref a7, .ref a8, .ref a9, .ref a10, .long wd, .int (nI oc), .int (nI fr), .int (nI tt)], oB 2 q [.int (nI P), .int (nI M), .int (nI R), .int (nI n), .ref qv, .ref qg, .ref qd], aJ G a6 72 f6, aJ G a7 72 f7, aJ G a8 72 (vp_updL g8 t ((f6 t) - (f7 t)))]) 4 rfl (by omega) (Nat.le_of_ble_eq_true rfl) rfl (dcq dc_X0_computeRest_0 27 rfl) ?_
          refine J_iinc F (lv2 := [(1, .int (nI (t + 1))), (0, .ref qD)]) (v := nI (t + 1)) 1 (dcq dc_X0_computeRest_0 28 rfl) rfl (nI_inc _) (Nat.le_of_ble_eq_true rfl) rfl ?_
          refine J_goto F 2 (dcq dc_X0_computeRest_0 29 rfl) (by decide) ?_
          refine J_locs [1, 0] rfl ?_
          exact ih2 (t + 1) (vp_updL g8 t ((f6 t) - (f7 t))) (by omega) (up_l iv (by unfold irr; first | rw [if_pos hm] | rw [if_neg (by omega), hq])) (by omega)
  refine J_locs [1, 0] rfl ?_
  exact L2 (n - 0 + 1) 0 f8 (by omega) (fun j h1 h2 => absurd h2 (Nat.not_lt.mpr h1)) (Nat.lt_succ_self _)

abbrev po_X0_isMoreExtreme (G : Gt) (qD q a1 a2 a3 a4 a5 a6 a7 a8 a9 a10 oc fr tt : Nat) (wd : Int64) (f3 : Nat → Int32) (f4 : Nat → Int64) (t u : Nat) : Option Value → va_W → Prop := fun (v9 : Option Value) (w9 : va_W) => ∃ (r : Nat), v9 = some (.int (nI r)) ∧ w9 = [oB 0 qD [.ref q, .ref a1, .ref a2, .ref a3, .ref a4, .ref a5, .ref a6, .ref a7, .ref a8, .ref a9, .ref a10, .long wd, .int (nI oc), .int (nI fr), .int (nI tt)], aI G a3 72 f3, aJ G a4 72 f4] ∧ (r ≤ 1) ∧ (r = 1 ↔ moB f3 f4 t u = true)
set_option maxHeartbeats 4000000 in
set_option maxRecDepth 100000 in
theorem c_X0_isMoreExtreme (l : Launch) (hl : l.stackTraces = false) (G : Gt) (qD q a1 a2 a3 a4 a5 a6 a7 a8 a9 a10 oc fr tt : Nat) (wd : Int64) (f3 : Nat → Int32) (f4 : Nat → Int64) (t u : Nat) (ht : t < 72) (hu : u < 72) : Con l G yX0_isMoreExtreme cX0_isMoreExtreme 3 (some .boolean) 0 0 0 0 [.ref qD, .int (nI t), .int (nI u)] [oB 0 qD [.ref q, .ref a1, .ref a2, .ref a3, .ref a4, .ref a5, .ref a6, .ref a7, .ref a8, .ref a9, .ref a10, .long wd, .int (nI oc), .int (nI fr), .int (nI tt)], aI G a3 72 f3, aJ G a4 72 f4] (po_X0_isMoreExtreme G qD q a1 a2 a3 a4 a5 a6 a7 a8 a9 a10 oc fr tt wd f3 f4 t u) := by
  refine Con.of hl cd_X0_isMoreExtreme (Nat.le_of_ble_eq_true rfl) ?_
  intro p e s m args below meth c A F hin9
  change Fx p l s m args meth c G A "SeasonalAdjuster$Decomposition" cX0_isMoreExtreme 3 (some .boolean) at F
  change J p l e (cRm 0 0 0 0) s m args below meth c G A 3 (JQ below G A (po_X0_isMoreExtreme G qD q a1 a2 a3 a4 a5 a6 a7 a8 a9 a10 oc fr tt wd f3 f4 t u) args s 0 0) 0 0 0 [(0, .ref qD), (1, .int (nI t)), (2, .int (nI u))] [] [oB 0 qD [.ref q, .ref a1, .ref a2, .ref a3, .ref a4, .ref a5, .ref a6, .ref a7, .ref a8, .ref a9, .ref a10, .long wd, .int (nI oc), .int (nI fr), .int (nI tt)], aI G a3 72 f3, aJ G a4 72 f4]
  refine J_aload_n F 0 (dcq dc_X0_isMoreExtreme_0 0 rfl) rfl rfl ?_
  refine J_get F fcX0 0 3 rfl (Nat.le_of_ble_eq_true rfl) tw_1_91 rfl rfl (dcq dc_X0_isMoreExtreme_0 1 rfl) ?_
  refine J_iload_n F 1 (dcq dc_X0_isMoreExtreme_0 2 rfl) rfl rfl ?_
  refine J_iald F 1 rfl (by omega) (Nat.le_of_ble_eq_true rfl) (dcq dc_X0_isMoreExtreme_0 3 rfl) ?_
  refine J_aload_n F 0 (dcq dc_X0_isMoreExtreme_0 4 rfl) rfl rfl ?_
  refine J_get F fcX0 0 3 rfl (Nat.le_of_ble_eq_true rfl) tw_1_91 rfl rfl (dcq dc_X0_isMoreExtreme_0 5 rfl) ?_
  refine J_iload_n F 2 (dcq dc_X0_isMoreExtreme_0 6 rfl) rfl rfl ?_
  refine J_iald F 1 rfl (by omega) (Nat.le_of_ble_eq_true rfl) (dcq dc_X0_isMoreExtreme_0 7 rfl) ?_
  refine J_icmp_eq F 36 (dcq dc_X0_isMoreExtreme_0 8 rfl) (by decide) (fun h_1 => ?_) (fun h_1 => ?_)
  · skip
    have he := h_1
    refine J_aload_n F 0 (dcq dc_X0_isMoreExtreme_0 22 rfl) rfl rfl ?_
    refine J_get F fcX0 0 4 rfl (Nat.le_of_ble_eq_true rfl) tw_1_93 rfl rfl (dcq dc_X0_isMoreExtreme_0 23 rfl) ?_
    refine J_iload_n F 1 (dcq dc_X0_isMoreExtreme_0 24 rfl) rfl rfl ?_
    refine J_lald F 2 rfl (by omega) (Nat.le_of_ble_eq_true rfl) (dcq dc_X0_isMoreExtreme_0 25 rfl) ?_
    refine J_aload_n F 0 (dcq dc_X0_isMoreExtreme_0 26 rfl) rfl rfl ?_
    refine J_get F fcX0 0 4 rfl (Nat.le_of_ble_eq_true rfl) tw_1_93 rfl rfl (dcq dc_X0_isMoreExtreme_0 27 rfl) ?_
    refine J_iload_n F 2 (dcq dc_X0_isMoreExtreme_0 28 rfl) rfl rfl ?_
    refine J_lald F 2 rfl (by omega) (Nat.le_of_ble_eq_true rfl) (dcq dc_X0_isMoreExtreme_0 29 rfl) ?_
    refine J_lcmp_le F 56 (dcq dc_X0_isMoreExtreme_0 30 rfl) (dcq dc_X0_isMoreExtreme_0 31 rfl) (by decide) (fun h_2 => ?_) (fun h_2 => ?_)
    · skip
      have hl2 := h_2
      refine J_iconst F (dcq dc_X0_isMoreExtreme_0 34 rfl) ic_0 ?_
      exact J_zret F (by decide) ⟨0, rfl, rfl, by omega, by unfold moB; rw [if_pos he]; rw [decide_eq_true_eq]; first | exact ⟨fun h => absurd h (by decide), fun h => absurd h (Int64.not_lt.mpr hl2)⟩ | exact ⟨fun _ => Int64.not_le.mp hl2, fun _ => rfl⟩⟩ (Nat.le_of_ble_eq_true rfl) (Nat.le_of_ble_eq_true rfl) (dcq dc_X0_isMoreExtreme_0 35 rfl)
    · skip
      have hl2 := h_2
      refine J_iconst F (dcq dc_X0_isMoreExtreme_0 32 rfl) ic_1 ?_
      refine J_goto F 57 (dcq dc_X0_isMoreExtreme_0 33 rfl) (by decide) ?_
      exact J_zret F (by decide) ⟨1, rfl, rfl, by omega, by unfold moB; rw [if_pos he]; rw [decide_eq_true_eq]; first | exact ⟨fun h => absurd h (by decide), fun h => absurd h (Int64.not_lt.mpr hl2)⟩ | exact ⟨fun _ => Int64.not_le.mp hl2, fun _ => rfl⟩⟩ (Nat.le_of_ble_eq_true rfl) (Nat.le_of_ble_eq_true rfl) (dcq dc_X0_isMoreExtreme_0 35 rfl)
  · skip
    have he := h_1
    refine J_aload_n F 0 (dcq dc_X0_isMoreExtreme_0 9 rfl) rfl rfl ?_
    refine J_get F fcX0 0 3 rfl (Nat.le_of_ble_eq_true rfl) tw_1_91 rfl rfl (dcq dc_X0_isMoreExtreme_0 10 rfl) ?_
    refine J_iload_n F 1 (dcq dc_X0_isMoreExtreme_0 11 rfl) rfl rfl ?_
    refine J_iald F 1 rfl (by omega) (Nat.le_of_ble_eq_true rfl) (dcq dc_X0_isMoreExtreme_0 12 rfl) ?_
    refine J_aload_n F 0 (dcq dc_X0_isMoreExtreme_0 13 rfl) rfl rfl ?_
    refine J_get F fcX0 0 3 rfl (Nat.le_of_ble_eq_true rfl) tw_1_91 rfl rfl (dcq dc_X0_isMoreExtreme_0 14 rfl) ?_
    refine J_iload_n F 2 (dcq dc_X0_isMoreExtreme_0 15 rfl) rfl rfl ?_
    refine J_iald F 1 rfl (by omega) (Nat.le_of_ble_eq_true rfl) (dcq dc_X0_isMoreExtreme_0 16 rfl) ?_
    refine J_icmp_ge F 34 (dcq dc_X0_isMoreExtreme_0 17 rfl) (by decide) (fun h_3 => ?_) (fun h_3 => ?_)
    · skip
      have hl1 := h_3
      refine J_iconst F (dcq dc_X0_isMoreExtreme_0 20 rfl) ic_0 ?_
      exact J_zret F (by decide) ⟨0, rfl, rfl, by omega, by unfold moB; rw [if_neg he]; rw [decide_eq_true_eq]; first | exact ⟨fun h => absurd h (by decide), fun h => absurd h (Int32.not_lt.mpr hl1)⟩ | exact ⟨fun _ => Int32.not_le.mp hl1, fun _ => rfl⟩⟩ (Nat.le_of_ble_eq_true rfl) (Nat.le_of_ble_eq_true rfl) (dcq dc_X0_isMoreExtreme_0 21 rfl)
    · skip
      have hl1 := h_3
      refine J_iconst F (dcq dc_X0_isMoreExtreme_0 18 rfl) ic_1 ?_
      refine J_goto F 35 (dcq dc_X0_isMoreExtreme_0 19 rfl) (by decide) ?_
      exact J_zret F (by decide) ⟨1, rfl, rfl, by omega, by unfold moB; rw [if_neg he]; rw [decide_eq_true_eq]; first | exact ⟨fun h => absurd h (by decide), fun h => absurd h (Int32.not_lt.mpr hl1)⟩ | exact ⟨fun _ => Int32.not_le.mp hl1, fun _ => rfl⟩⟩ (Nat.le_of_ble_eq_true rfl) (Nat.le_of_ble_eq_true rfl) (dcq dc_X0_isMoreExtreme_0 21 rfl)

abbrev po_X0_orderOutliers (G : Gt) (qD q a1 a2 a3 a4 a5 a6 a7 a8 a9 a10 oc fr tt : Nat) (wd : Int64) (f3 : Nat → Int32) (f4 : Nat → Int64) (f9 : Nat → Int32) : Option Value → va_W → Prop := fun (v9 : Option Value) (w9 : va_W) => ∃ (cnt : Nat), ∃ (o9 : Nat → Int32), ∃ (pz : Nat → Nat), v9 = none ∧ w9 = [oB 0 qD [.ref q, .ref a1, .ref a2, .ref a3, .ref a4, .ref a5, .ref a6, .ref a7, .ref a8, .ref a9, .ref a10, .long wd, .int (nI cnt), .int (nI fr), .int (nI tt)], aI G a3 72 f3, aJ G a4 72 f4, aI G a9 72 o9] ∧ (OUT f3 f4 fr tt o9 pz cnt (tt + 1)) ∧ (cnt ≤ 72)
set_option maxHeartbeats 4000000 in
set_option maxRecDepth 100000 in
theorem c_X0_orderOutliers (l : Launch) (hl : l.stackTraces = false) (G : Gt) (qD q a1 a2 a3 a4 a5 a6 a7 a8 a9 a10 oc fr tt : Nat) (wd : Int64) (f3 : Nat → Int32) (f4 : Nat → Int64) (f9 : Nat → Int32) (htt : tt < 72) (hft : fr ≤ tt) : Con l G yX0_orderOutliers cX0_orderOutliers 3 none 1 22 0 0 [.ref qD] [oB 0 qD [.ref q, .ref a1, .ref a2, .ref a3, .ref a4, .ref a5, .ref a6, .ref a7, .ref a8, .ref a9, .ref a10, .long wd, .int (nI oc), .int (nI fr), .int (nI tt)], aI G a3 72 f3, aJ G a4 72 f4, aI G a9 72 f9] (po_X0_orderOutliers G qD q a1 a2 a3 a4 a5 a6 a7 a8 a9 a10 oc fr tt wd f3 f4 f9) := by
  refine Con.of hl cd_X0_orderOutliers (Nat.le_of_ble_eq_true rfl) ?_
  intro p e s m args below meth c A F hin9
  change Fx p l s m args meth c G A "SeasonalAdjuster$Decomposition" cX0_orderOutliers 3 none at F
  change J p l e (cRm 1 22 0 0) s m args below meth c G A 3 (JQ below G A (po_X0_orderOutliers G qD q a1 a2 a3 a4 a5 a6 a7 a8 a9 a10 oc fr tt wd f3 f4 f9) args s 0 0) 0 0 0 [(0, .ref qD)] [] [oB 0 qD [.ref q, .ref a1, .ref a2, .ref a3, .ref a4, .ref a5, .ref a6, .ref a7, .ref a8, .ref a9, .ref a10, .long wd, .int (nI oc), .int (nI fr), .int (nI tt)], aI G a3 72 f3, aJ G a4 72 f4, aI G a9 72 f9]
  refine J_aload_n F 0 (dcq dc_X0_orderOutliers_0 0 rfl) rfl rfl ?_
  refine J_iconst F (dcq dc_X0_orderOutliers_0 1 rfl) ic_0 ?_
  refine J_put F (ws2 := [oB 0 qD [.ref q, .ref a1, .ref a2, .ref a3, .ref a4, .ref a5, .ref a6, .ref a7, .ref a8, .ref a9, .ref a10, .long wd, .int (nI 0), .int (nI fr), .int (nI tt)], aI G a3 72 f3, aJ G a4 72 f4, aI G a9 72 f9]) fcX0 0 12 rfl (Nat.le_of_ble_eq_true rfl) tw_1_108 rfl rfl rfl rfl (Nat.le_of_ble_eq_true rfl) rfl (dcq dc_X0_orderOutliers_0 2 rfl) ?_
  refine J_aload_n F 0 (dcq dc_X0_orderOutliers_0 3 rfl) rfl rfl ?_
  refine J_get F fcX0 0 13 rfl (Nat.le_of_ble_eq_true rfl) tw_1_110 rfl rfl (dcq dc_X0_orderOutliers_0 4 rfl) ?_
  refine J_istore_n F (lv2 := [(1, .int (nI fr)), (0, .ref qD)]) (dcq dc_X0_orderOutliers_0 5 rfl) rfl (Nat.le_of_ble_eq_true rfl) rfl ?_
  have L10 : ∀ (fu10 : Nat), ∀ (t cnt : Nat) (o9 : Nat → Int32) (pz : Nat → Nat), (fr ≤ t) → (t ≤ tt + 1) → (OUT f3 f4 fr tt o9 pz cnt t) → (cnt ≤ t - fr) → tt + 1 - t < fu10 → J p l e (cRm 1 22 0 0) s m args below meth c G A 3 (JQ below G A (po_X0_orderOutliers G qD q a1 a2 a3 a4 a5 a6 a7 a8 a9 a10 oc fr tt wd f3 f4 f9) args s 0 0) 0 0 10 [(0, .ref qD), (1, .int (nI t))] [] [oB 0 qD [.ref q, .ref a1, .ref a2, .ref a3, .ref a4, .ref a5, .ref a6, .ref a7, .ref a8, .ref a9, .ref a10, .long wd, .int (nI cnt), .int (nI fr), .int (nI tt)], aI G a3 72 f3, aJ G a4 72 f4, aI G a9 72 o9] := by
    intro fu10
    induction fu10 with
    | zero => intro t cnt o9 pz ht1 ht2 iv ic hm10; exact absurd hm10 (Nat.not_lt_zero _)
    | succ fu10 ih10 =>
      intro t cnt o9 pz ht1 ht2 iv ic hm10
      refine J_iload_n F 1 (dcq dc_X0_orderOutliers_0 6 rfl) rfl rfl ?_
      refine J_aload_n F 0 (dcq dc_X0_orderOutliers_0 7 rfl) rfl rfl ?_
      refine J_get F fcX0 0 14 rfl (Nat.le_of_ble_eq_true rfl) tw_1_112 rfl rfl (dcq dc_X0_orderOutliers_0 8 rfl) ?_
      refine J_ncmp_gt F 97 (by omega) (by omega) (dcq dc_X0_orderOutliers_0 9 rfl) (by decide) (fun h_1 => ?_) (fun h_1 => ?_)
      · skip
        exact J_vret F ⟨cnt, o9, pz, rfl, rfl, by rw [show tt + 1 = t by omega]; exact iv, by omega⟩ (Nat.le_of_ble_eq_true rfl) (Nat.le_of_ble_eq_true rfl) (dcq dc_X0_orderOutliers_1 8 rfl)
      · skip
        refine J_aload_n F 0 (dcq dc_X0_orderOutliers_0 10 rfl) rfl rfl ?_
        refine J_get F fcX0 0 3 rfl (Nat.le_of_ble_eq_true rfl) tw_1_91 rfl rfl (dcq dc_X0_orderOutliers_0 11 rfl) ?_
        refine J_iload_n F 1 (dcq dc_X0_orderOutliers_0 12 rfl) rfl rfl ?_
        refine J_iald F 1 rfl (by omega) (Nat.le_of_ble_eq_true rfl) (dcq dc_X0_orderOutliers_0 13 rfl) ?_
        refine J_bipush F (dcq dc_X0_orderOutliers_0 14 rfl) bc_100 ?_
        refine J_icmp_ge F 91 (dcq dc_X0_orderOutliers_0 15 rfl) (by decide) (fun h_2 => ?_) (fun h_2 => ?_)
        · skip
          have hw9 := h_2
          refine J_iinc F (lv2 := [(1, .int (nI (t + 1))), (0, .ref qD)]) (v := nI (t + 1)) 1 (dcq dc_X0_orderOutliers_1 6 rfl) rfl (nI_inc _) (Nat.le_of_ble_eq_true rfl) rfl ?_
          refine J_goto F 10 (dcq dc_X0_orderOutliers_1 7 rfl) (by decide) ?_
          refine J_locs [1, 0] rfl ?_
          exact ih10 (t + 1) cnt o9 pz (by omega) (by omega) (OUT_skip iv ht1 hw9) (by omega) (by omega)
        · skip
          have hw9 := h_2
          refine J_aload_n F 0 (dcq dc_X0_orderOutliers_0 16 rfl) rfl rfl ?_
          refine J_get F fcX0 0 12 rfl (Nat.le_of_ble_eq_true rfl) tw_1_108 rfl rfl (dcq dc_X0_orderOutliers_0 17 rfl) ?_
          refine J_istore_n F (lv2 := [(2, .int (nI cnt)), (0, .ref qD), (1, .int (nI t))]) (dcq dc_X0_orderOutliers_0 18 rfl) rfl (Nat.le_of_ble_eq_true rfl) rfl ?_
          have L34 : ∀ (fu34 : Nat), ∀ (p9 : Nat) (o8 : Nat → Int32), (p9 ≤ cnt) → (INS (ahB f3 f4) o8 pz cnt p9 t) → p9 < fu34 → J p l e (cRm 1 22 0 0) s m args below meth c G A 3 (JQ below G A (po_X0_orderOutliers G qD q a1 a2 a3 a4 a5 a6 a7 a8 a9 a10 oc fr tt wd f3 f4 f9) args s 0 0) 0 0 34 [(0, .ref qD), (1, .int (nI t)), (2, .int (nI p9))] [] [oB 0 qD [.ref q, .ref a1, .ref a2, .ref a3, .ref a4, .ref a5, .ref a6, .ref a7, .ref a8, .ref a9, .ref a10, .long wd, .int (nI cnt), .int (nI fr), .int (nI tt)], aI G a3 72 f3, aJ G a4 72 f4, aI G a9 72 o8] := by
            intro fu34
            induction fu34 with
            | zero => intro p9 o8 hp ii hm34; exact absurd hm34 (Nat.not_lt_zero _)
            | succ fu34 ih34 =>
              intro p9 o8 hp ii hm34
              have hb9 : ∀ j, j < cnt → pz j < t := fun j h => (iv.1 j h).2.2.1
              refine J_iload_n F 2 (dcq dc_X0_orderOutliers_0 19 rfl) rfl rfl ?_
              refine J_nif_le F 74 (by omega) (dcq dc_X0_orderOutliers_0 20 rfl) (by decide) (fun h_3 => ?_) (fun h_3 => ?_)
              · skip
                have hp0 := h_3
                refine J_aload_n F 0 (dcq dc_X0_orderOutliers_0 43 rfl) rfl rfl ?_
                refine J_get F fcX0 0 9 rfl (Nat.le_of_ble_eq_true rfl) tw_1_102 rfl rfl (dcq dc_X0_orderOutliers_0 44 rfl) ?_
                refine J_iload_n F 2 (dcq dc_X0_orderOutliers_0 45 rfl) rfl rfl ?_
                refine J_iload_n F 1 (dcq dc_X0_orderOutliers_0 46 rfl) rfl rfl ?_
                refine J_iast F (ws2 := [oB 0 qD [.ref q, .ref a1, .ref a2, .ref a3, .ref a4, .ref a5, .ref a6, .ref a7, .ref a8, .ref a9, .ref a10, .long wd, .int (nI cnt), .int (nI fr), .int (nI tt)], aI G a3 72 f3, aJ G a4 72 f4, aI G a9 72 (upd o8 p9 (nI t))]) 3 rfl (by omega) (Nat.le_of_ble_eq_true rfl) rfl (dcq dc_X0_orderOutliers_0 47 rfl) ?_
                refine J_aload_n F 0 (dcq dc_X0_orderOutliers_1 0 rfl) rfl rfl ?_
                refine J_dup F (dcq dc_X0_orderOutliers_1 1 rfl) rfl ?_
                refine J_get F fcX0 0 12 rfl (Nat.le_of_ble_eq_true rfl) tw_1_108 rfl rfl (dcq dc_X0_orderOutliers_1 2 rfl) ?_
                refine J_iconst F (dcq dc_X0_orderOutliers_1 3 rfl) ic_1 ?_
                refine J_iadd F (v := nI (cnt + 1)) (dcq dc_X0_orderOutliers_1 4 rfl) (nI_add _ _) ?_
                refine J_put F (ws2 := [oB 0 qD [.ref q, .ref a1, .ref a2, .ref a3, .ref a4, .ref a5, .ref a6, .ref a7, .ref a8, .ref a9, .ref a10, .long wd, .int (nI (cnt + 1)), .int (nI fr), .int (nI tt)], aI G a3 72 f3, aJ G a4 72 f4, aI G a9 72 (upd o8 p9 (nI t))]) fcX0 0 12 rfl (Nat.le_of_ble_eq_true rfl) tw_1_108 rfl rfl rfl rfl (Nat.le_of_ble_eq_true rfl) rfl (dcq dc_X0_orderOutliers_1 5 rfl) ?_
                refine J_iinc F (lv2 := [(1, .int (nI (t + 1))), (0, .ref qD), (2, .int (nI p9))]) (v := nI (t + 1)) 1 (dcq dc_X0_orderOutliers_1 6 rfl) rfl (nI_inc _) (Nat.le_of_ble_eq_true rfl) rfl ?_
                refine J_goto F 10 (dcq dc_X0_orderOutliers_1 7 rfl) (by decide) ?_
                refine J_locs [1, 0] rfl ?_
                exact ih10 (t + 1) (cnt + 1) (upd o8 p9 (nI t)) (ins pz p9 t) (by omega) (by omega) (OUT_ins iv ht1 hw9 ii hp (Or.inl hp0)) (by omega) (by omega)
              · skip
                have hp0 := h_3
                refine J_aload_n F 0 (dcq dc_X0_orderOutliers_0 21 rfl) rfl rfl ?_
                refine J_iload_n F 1 (dcq dc_X0_orderOutliers_0 22 rfl) rfl rfl ?_
                refine J_aload_n F 0 (dcq dc_X0_orderOutliers_0 23 rfl) rfl rfl ?_
                refine J_get F fcX0 0 9 rfl (Nat.le_of_ble_eq_true rfl) tw_1_102 rfl rfl (dcq dc_X0_orderOutliers_0 24 rfl) ?_
                refine J_iload_n F 2 (dcq dc_X0_orderOutliers_0 25 rfl) rfl rfl ?_
                refine J_iconst F (dcq dc_X0_orderOutliers_0 26 rfl) ic_1 ?_
                refine J_isub F (v := nI (p9 - 1)) (dcq dc_X0_orderOutliers_0 27 rfl) (pk_sub (by omega)) ?_
                refine J_iald F 3 rfl (by omega) (Nat.le_of_ble_eq_true rfl) (dcq dc_X0_orderOutliers_0 28 rfl) ?_
                refine J_cast rfl (st2 := [.int (nI (pz (p9 - 1))), .int (nI t), .ref qD]) (by rw [ii.1 (p9 - 1) (by omega)]) rfl ?_
                refine J_callV F (wc := [oB 0 qD [.ref q, .ref a1, .ref a2, .ref a3, .ref a4, .ref a5, .ref a6, .ref a7, .ref a8, .ref a9, .ref a10, .long wd, .int (nI cnt), .int (nI fr), .int (nI tt)], aI G a3 72 f3, aJ G a4 72 f4]) (wr := [aI G a9 72 o8]) (rest := []) (qc := 0) (c_X0_isMoreExtreme l hl G qD q a1 a2 a3 a4 a5 a6 a7 a8 a9 a10 cnt fr tt wd f3 f4 t (pz (p9 - 1)) (by first | assumption | omega) (by have := hb9 (p9 - 1) (by omega); omega)) cd_X0_isMoreExtreme cv_X0_isMoreExtreme rfl rfl rfl tw_2_105 [0, 1, 2] [3] rfl rfl rfl rfl (by decide) rfl ⟨(Nat.le_of_ble_eq_true rfl), (Nat.le_of_ble_eq_true rfl), (Nat.le_of_ble_eq_true rfl), (Nat.le_of_ble_eq_true rfl)⟩ (Nat.le_of_ble_eq_true rfl) rfl (dcq dc_X0_orderOutliers_0 29 rfl) ?_
                rintro _ _ ⟨r1, rfl, rfl, hr9, hmo⟩
                change J p l e (cRm 1 22 0 0) s m args below meth c G A 3 (JQ below G A (po_X0_orderOutliers G qD q a1 a2 a3 a4 a5 a6 a7 a8 a9 a10 oc fr tt wd f3 f4 f9) args s 0 0) 0 0 51 [(0, .ref qD), (1, .int (nI t)), (2, .int (nI p9))] [.int (nI r1)] [aI G a9 72 o8, oB 0 qD [.ref q, .ref a1, .ref a2, .ref a3, .ref a4, .ref a5, .ref a6, .ref a7, .ref a8, .ref a9, .ref a10, .long wd, .int (nI cnt), .int (nI fr), .int (nI tt)], aI G a3 72 f3, aJ G a4 72 f4]
                have hr9 : r1 ≤ 1 := hr9
                have hmo : r1 = 1 ↔ moB f3 f4 t (pz (p9 - 1)) = true := hmo
                refine J_world (ws2 := [oB 0 qD [.ref q, .ref a1, .ref a2, .ref a3, .ref a4, .ref a5, .ref a6, .ref a7, .ref a8, .ref a9, .ref a10, .long wd, .int (nI cnt), .int (nI fr), .int (nI tt)], aI G a3 72 f3, aJ G a4 72 f4, aI G a9 72 o8]) [1, 2, 3, 0] rfl rfl ?_
                refine J_nif_eq F 74 (by omega) (dcq dc_X0_orderOutliers_0 30 rfl) (by decide) (fun h_4 => ?_) (fun h_4 => ?_)
                · skip
                  have hr1 : moB f3 f4 t (pz (p9 - 1)) = false := by
                    cases hq : moB f3 f4 t (pz (p9 - 1)) with
                    | false => rfl
                    | true => have := hmo.mpr hq; omega
                  have hr0 := h_4
                  refine J_aload_n F 0 (dcq dc_X0_orderOutliers_0 43 rfl) rfl rfl ?_
                  refine J_get F fcX0 0 9 rfl (Nat.le_of_ble_eq_true rfl) tw_1_102 rfl rfl (dcq dc_X0_orderOutliers_0 44 rfl) ?_
                  refine J_iload_n F 2 (dcq dc_X0_orderOutliers_0 45 rfl) rfl rfl ?_
                  refine J_iload_n F 1 (dcq dc_X0_orderOutliers_0 46 rfl) rfl rfl ?_
                  refine J_iast F (ws2 := [oB 0 qD [.ref q, .ref a1, .ref a2, .ref a3, .ref a4, .ref a5, .ref a6, .ref a7, .ref a8, .ref a9, .ref a10, .long wd, .int (nI cnt), .int (nI fr), .int (nI tt)], aI G a3 72 f3, aJ G a4 72 f4, aI G a9 72 (upd o8 p9 (nI t))]) 3 rfl (by omega) (Nat.le_of_ble_eq_true rfl) rfl (dcq dc_X0_orderOutliers_0 47 rfl) ?_
                  refine J_aload_n F 0 (dcq dc_X0_orderOutliers_1 0 rfl) rfl rfl ?_
                  refine J_dup F (dcq dc_X0_orderOutliers_1 1 rfl) rfl ?_
                  refine J_get F fcX0 0 12 rfl (Nat.le_of_ble_eq_true rfl) tw_1_108 rfl rfl (dcq dc_X0_orderOutliers_1 2 rfl) ?_
                  refine J_iconst F (dcq dc_X0_orderOutliers_1 3 rfl) ic_1 ?_
                  refine J_iadd F (v := nI (cnt + 1)) (dcq dc_X0_orderOutliers_1 4 rfl) (nI_add _ _) ?_
                  refine J_put F (ws2 := [oB 0 qD [.ref q, .ref a1, .ref a2, .ref a3, .ref a4, .ref a5, .ref a6, .ref a7, .ref a8, .ref a9, .ref a10, .long wd, .int (nI (cnt + 1)), .int (nI fr), .int (nI tt)], aI G a3 72 f3, aJ G a4 72 f4, aI G a9 72 (upd o8 p9 (nI t))]) fcX0 0 12 rfl (Nat.le_of_ble_eq_true rfl) tw_1_108 rfl rfl rfl rfl (Nat.le_of_ble_eq_true rfl) rfl (dcq dc_X0_orderOutliers_1 5 rfl) ?_
                  refine J_iinc F (lv2 := [(1, .int (nI (t + 1))), (0, .ref qD), (2, .int (nI p9))]) (v := nI (t + 1)) 1 (dcq dc_X0_orderOutliers_1 6 rfl) rfl (nI_inc _) (Nat.le_of_ble_eq_true rfl) rfl ?_
                  refine J_goto F 10 (dcq dc_X0_orderOutliers_1 7 rfl) (by decide) ?_
                  refine J_locs [1, 0] rfl ?_
                  exact ih10 (t + 1) (cnt + 1) (upd o8 p9 (nI t)) (ins pz p9 t) (by omega) (by omega) (OUT_ins iv ht1 hw9 ii hp (Or.inr (moB_f hr1 (hb9 _ (by omega))))) (by omega) (by omega)
                · skip
                  have hr1 : r1 = 1 := by omega
                  have hr0 := h_4
                  refine J_aload_n F 0 (dcq dc_X0_orderOutliers_0 31 rfl) rfl rfl ?_
                  refine J_get F fcX0 0 9 rfl (Nat.le_of_ble_eq_true rfl) tw_1_102 rfl rfl (dcq dc_X0_orderOutliers_0 32 rfl) ?_
                  refine J_iload_n F 2 (dcq dc_X0_orderOutliers_0 33 rfl) rfl rfl ?_
                  refine J_aload_n F 0 (dcq dc_X0_orderOutliers_0 34 rfl) rfl rfl ?_
                  refine J_get F fcX0 0 9 rfl (Nat.le_of_ble_eq_true rfl) tw_1_102 rfl rfl (dcq dc_X0_orderOutliers_0 35 rfl) ?_
                  refine J_iload_n F 2 (dcq dc_X0_orderOutliers_0 36 rfl) rfl rfl ?_
                  refine J_iconst F (dcq dc_X0_orderOutliers_0 37 rfl) ic_1 ?_
                  refine J_isub F (v := nI (p9 - 1)) (dcq dc_X0_orderOutliers_0 38 rfl) (pk_sub (by omega)) ?_
                  refine J_iald F 3 rfl (by omega) (Nat.le_of_ble_eq_true rfl) (dcq dc_X0_orderOutliers_0 39 rfl) ?_
                  refine J_iast F (ws2 := [oB 0 qD [.ref q, .ref a1, .ref a2, .ref a3, .ref a4, .ref a5, .ref a6, .ref a7, .ref a8, .ref a9, .ref a10, .long wd, .int (nI cnt), .int (nI fr), .int (nI tt)], aI G a3 72 f3, aJ G a4 72 f4, aI G a9 72 (upd o8 p9 (o8 (p9 - 1)))]) 3 rfl (by omega) (Nat.le_of_ble_eq_true rfl) rfl (dcq dc_X0_orderOutliers_0 40 rfl) ?_
                  refine J_iinc F (lv2 := [(2, .int (nI (p9 - 1))), (0, .ref qD), (1, .int (nI t))]) (v := nI (p9 - 1)) 2 (dcq dc_X0_orderOutliers_0 41 rfl) rfl (nI_dec _ (by omega)) (Nat.le_of_ble_eq_true rfl) rfl ?_
                  refine J_goto F 34 (dcq dc_X0_orderOutliers_0 42 rfl) (by decide) ?_
                  refine J_locs [1, 2, 0] rfl ?_
                  exact ih34 (p9 - 1) (upd o8 p9 (o8 (p9 - 1))) (by omega) (INS_step ii (by omega) hp (moB_t (hmo.mp hr1))) (by omega)
          refine J_locs [1, 2, 0] rfl ?_
          exact L34 (cnt + 1) cnt o9 (by omega) (INS_0 (fun j h => (iv.1 j h).1)) (Nat.lt_succ_self _)
  refine J_locs [1, 0] rfl ?_
  exact L10 (tt + 1 - fr + 1) fr 0 f9 (fun _ => 0) (by omega) (by omega) (⟨fun j h => absurd h (Nat.not_lt_zero _), fun i j _ h => absurd h (Nat.not_lt_zero _), fun F => by rw [Nat.sub_self]; rfl⟩) (by omega) (Nat.lt_succ_self _)

abbrev po_X0_orderSeasons (G : Gt) (qD q a1 a2 a3 a4 a5 a6 a7 a8 a9 a10 oc fr tt : Nat) (wd : Int64) (P M R n qv qg qd : Nat) (f5 : Nat → Int64) (f10 : Nat → Int32) : Option Value → va_W → Prop := fun (v9 : Option Value) (w9 : va_W) => ∃ (o9 : Nat → Int32), ∃ (pz : Nat → Nat), v9 = none ∧ w9 = [oB 0 qD [.ref q, .ref a1, .ref a2, .ref a3, .ref a4, .ref a5, .ref a6, .ref a7, .ref a8, .ref a9, .ref a10, .long wd, .int (nI oc), .int (nI fr), .int (nI tt)], oB 2 q [.int (nI P), .int (nI M), .int (nI R), .int (nI n), .ref qv, .ref qg, .ref qd], aJ G a5 12 f5, aI G a10 12 o9] ∧ (SEA f5 o9 pz P)
set_option maxHeartbeats 4000000 in
set_option maxRecDepth 100000 in
theorem c_X0_orderSeasons (l : Launch) (hl : l.stackTraces = false) (G : Gt) (qD q a1 a2 a3 a4 a5 a6 a7 a8 a9 a10 oc fr tt : Nat) (wd : Int64) (P M R n qv qg qd : Nat) (f5 : Nat → Int64) (f10 : Nat → Int32) (hP12 : P ≤ 12) : Con l G yX0_orderSeasons cX0_orderSeasons 3 none 0 0 0 0 [.ref qD] [oB 0 qD [.ref q, .ref a1, .ref a2, .ref a3, .ref a4, .ref a5, .ref a6, .ref a7, .ref a8, .ref a9, .ref a10, .long wd, .int (nI oc), .int (nI fr), .int (nI tt)], oB 2 q [.int (nI P), .int (nI M), .int (nI R), .int (nI n), .ref qv, .ref qg, .ref qd], aJ G a5 12 f5, aI G a10 12 f10] (po_X0_orderSeasons G qD q a1 a2 a3 a4 a5 a6 a7 a8 a9 a10 oc fr tt wd P M R n qv qg qd f5 f10) := by
  refine Con.of hl cd_X0_orderSeasons (Nat.le_of_ble_eq_true rfl) ?_
  intro p e s m args below meth c A F hin9
  change Fx p l s m args meth c G A "SeasonalAdjuster$Decomposition" cX0_orderSeasons 3 none at F
  change J p l e (cRm 0 0 0 0) s m args below meth c G A 3 (JQ below G A (po_X0_orderSeasons G qD q a1 a2 a3 a4 a5 a6 a7 a8 a9 a10 oc fr tt wd P M R n qv qg qd f5 f10) args s 0 0) 0 0 0 [(0, .ref qD)] [] [oB 0 qD [.ref q, .ref a1, .ref a2, .ref a3, .ref a4, .ref a5, .ref a6, .ref a7, .ref a8, .ref a9, .ref a10, .long wd, .int (nI oc), .int (nI fr), .int (nI tt)], oB 2 q [.int (nI P), .int (nI M), .int (nI R), .int (nI n), .ref qv, .ref qg, .ref qd], aJ G a5 12 f5, aI G a10 12 f10]
  refine J_iconst F (dcq dc_X0_orderSeasons_0 0 rfl) ic_0 ?_
  refine J_istore_n F (lv2 := [(1, .int (nI 0)), (0, .ref qD)]) (dcq dc_X0_orderSeasons_0 1 rfl) rfl (Nat.le_of_ble_eq_true rfl) rfl ?_
  have L2 : ∀ (fu2 : Nat), ∀ (t : Nat) (o9 : Nat → Int32) (pz : Nat → Nat), (t ≤ P) → (SEA f5 o9 pz t) → P - t < fu2 → J p l e (cRm 0 0 0 0) s m args below meth c G A 3 (JQ below G A (po_X0_orderSeasons G qD q a1 a2 a3 a4 a5 a6 a7 a8 a9 a10 oc fr tt wd P M R n qv qg qd f5 f10) args s 0 0) 0 0 2 [(0, .ref qD), (1, .int (nI t))] [] [oB 0 qD [.ref q, .ref a1, .ref a2, .ref a3, .ref a4, .ref a5, .ref a6, .ref a7, .ref a8, .ref a9, .ref a10, .long wd, .int (nI oc), .int (nI fr), .int (nI tt)], oB 2 q [.int (nI P), .int (nI M), .int (nI R), .int (nI n), .ref qv, .ref qg, .ref qd], aJ G a5 12 f5, aI G a10 12 o9] := by
    intro fu2
    induction fu2 with
    | zero => intro t o9 pz ht iv hm2; exact absurd hm2 (Nat.not_lt_zero _)
    | succ fu2 ih2 =>
      intro t o9 pz ht iv hm2
      refine J_iload_n F 1 (dcq dc_X0_orderSeasons_0 2 rfl) rfl rfl ?_
      refine J_aload_n F 0 (dcq dc_X0_orderSeasons_0 3 rfl) rfl rfl ?_
      refine J_get F fcX0 0 0 rfl (Nat.le_of_ble_eq_true rfl) tw_1_86 rfl rfl (dcq dc_X0_orderSeasons_0 4 rfl) ?_
      refine J_get F fcX2 1 0 rfl (Nat.le_of_ble_eq_true rfl) tw_1_29 rfl rfl (dcq dc_X0_orderSeasons_0 5 rfl) ?_
      refine J_ncmp_ge F 75 (by omega) (by omega) (dcq dc_X0_orderSeasons_0 6 rfl) (by decide) (fun h_1 => ?_) (fun h_1 => ?_)
      · skip
        exact J_vret F ⟨o9, pz, rfl, rfl, by rw [show P = t by omega]; exact iv⟩ (Nat.le_of_ble_eq_true rfl) (Nat.le_of_ble_eq_true rfl) (dcq dc_X0_orderSeasons_0 45 rfl)
      · skip
        refine J_iload_n F 1 (dcq dc_X0_orderSeasons_0 7 rfl) rfl rfl ?_
        refine J_istore_n F (lv2 := [(2, .int (nI t)), (0, .ref qD), (1, .int (nI t))]) (dcq dc_X0_orderSeasons_0 8 rfl) rfl (Nat.le_of_ble_eq_true rfl) rfl ?_
        have L15 : ∀ (fu15 : Nat), ∀ (p9 : Nat) (o8 : Nat → Int32), (p9 ≤ t) → (INS (fhB f5) o8 pz t p9 t) → p9 < fu15 → J p l e (cRm 0 0 0 0) s m args below meth c G A 3 (JQ below G A (po_X0_orderSeasons G qD q a1 a2 a3 a4 a5 a6 a7 a8 a9 a10 oc fr tt wd P M R n qv qg qd f5 f10) args s 0 0) 0 0 15 [(0, .ref qD), (1, .int (nI t)), (2, .int (nI p9))] [] [oB 0 qD [.ref q, .ref a1, .ref a2, .ref a3, .ref a4, .ref a5, .ref a6, .ref a7, .ref a8, .ref a9, .ref a10, .long wd, .int (nI oc), .int (nI fr), .int (nI tt)], oB 2 q [.int (nI P), .int (nI M), .int (nI R), .int (nI n), .ref qv, .ref qg, .ref qd], aJ G a5 12 f5, aI G a10 12 o8] := by
          intro fu15
          induction fu15 with
          | zero => intro p9 o8 hp ii hm15; exact absurd hm15 (Nat.not_lt_zero _)
          | succ fu15 ih15 =>
            intro p9 o8 hp ii hm15
            have hb9 : ∀ j, j < t → pz j < t := fun j h => (iv.1 j h).2
            refine J_iload_n F 2 (dcq dc_X0_orderSeasons_0 9 rfl) rfl rfl ?_
            refine J_nif_le F 62 (by omega) (dcq dc_X0_orderSeasons_0 10 rfl) (by decide) (fun h_2 => ?_) (fun h_2 => ?_)
            · skip
              have hp0 := h_2
              refine J_aload_n F 0 (dcq dc_X0_orderSeasons_0 38 rfl) rfl rfl ?_
              refine J_get F fcX0 0 10 rfl (Nat.le_of_ble_eq_true rfl) tw_1_104 rfl rfl (dcq dc_X0_orderSeasons_0 39 rfl) ?_
              refine J_iload_n F 2 (dcq dc_X0_orderSeasons_0 40 rfl) rfl rfl ?_
              refine J_iload_n F 1 (dcq dc_X0_orderSeasons_0 41 rfl) rfl rfl ?_
              refine J_iast F (ws2 := [oB 0 qD [.ref q, .ref a1, .ref a2, .ref a3, .ref a4, .ref a5, .ref a6, .ref a7, .ref a8, .ref a9, .ref a10, .long wd, .int (nI oc), .int (nI fr), .int (nI tt)], oB 2 q [.int (nI P), .int (nI M), .int (nI R), .int (nI n), .ref qv, .ref qg, .ref qd], aJ G a5 12 f5, aI G a10 12 (upd o8 p9 (nI t))]) 3 rfl (by omega) (Nat.le_of_ble_eq_true rfl) rfl (dcq dc_X0_orderSeasons_0 42 rfl) ?_
              refine J_iinc F (lv2 := [(1, .int (nI (t + 1))), (0, .ref qD), (2, .int (nI p9))]) (v := nI (t + 1)) 1 (dcq dc_X0_orderSeasons_0 43 rfl) rfl (nI_inc _) (Nat.le_of_ble_eq_true rfl) rfl ?_
              refine J_goto F 2 (dcq dc_X0_orderSeasons_0 44 rfl) (by decide) ?_
              refine J_locs [1, 0] rfl ?_
              exact ih2 (t + 1) (upd o8 p9 (nI t)) (ins pz p9 t) (by omega) (SEA_ins iv ii hp (Or.inl hp0)) (by omega)
            · skip
              have hp0 := h_2
              refine J_aload_n F 0 (dcq dc_X0_orderSeasons_0 11 rfl) rfl rfl ?_
              refine J_get F fcX0 0 5 rfl (Nat.le_of_ble_eq_true rfl) tw_1_94 rfl rfl (dcq dc_X0_orderSeasons_0 12 rfl) ?_
              refine J_iload_n F 1 (dcq dc_X0_orderSeasons_0 13 rfl) rfl rfl ?_
              refine J_lald F 2 rfl (by omega) (Nat.le_of_ble_eq_true rfl) (dcq dc_X0_orderSeasons_0 14 rfl) ?_
              refine J_aload_n F 0 (dcq dc_X0_orderSeasons_0 15 rfl) rfl rfl ?_
              refine J_get F fcX0 0 5 rfl (Nat.le_of_ble_eq_true rfl) tw_1_94 rfl rfl (dcq dc_X0_orderSeasons_0 16 rfl) ?_
              refine J_aload_n F 0 (dcq dc_X0_orderSeasons_0 17 rfl) rfl rfl ?_
              refine J_get F fcX0 0 10 rfl (Nat.le_of_ble_eq_true rfl) tw_1_104 rfl rfl (dcq dc_X0_orderSeasons_0 18 rfl) ?_
              refine J_iload_n F 2 (dcq dc_X0_orderSeasons_0 19 rfl) rfl rfl ?_
              refine J_iconst F (dcq dc_X0_orderSeasons_0 20 rfl) ic_1 ?_
              refine J_isub F (v := nI (p9 - 1)) (dcq dc_X0_orderSeasons_0 21 rfl) (pk_sub (by omega)) ?_
              refine J_iald F 3 rfl (by omega) (Nat.le_of_ble_eq_true rfl) (dcq dc_X0_orderSeasons_0 22 rfl) ?_
              refine J_cast rfl (st2 := [.int (nI (pz (p9 - 1))), .ref a5, .long (f5 t)]) (by rw [ii.1 (p9 - 1) (by omega)]) rfl ?_
              refine J_lald F 2 rfl (by have := hb9 (p9 - 1) (by omega); omega) (Nat.le_of_ble_eq_true rfl) (dcq dc_X0_orderSeasons_0 23 rfl) ?_
              refine J_lcmp_le F 62 (dcq dc_X0_orderSeasons_0 24 rfl) (dcq dc_X0_orderSeasons_0 25 rfl) (by decide) (fun h_3 => ?_) (fun h_3 => ?_)
              · skip
                have hr0 := h_3
                refine J_aload_n F 0 (dcq dc_X0_orderSeasons_0 38 rfl) rfl rfl ?_
                refine J_get F fcX0 0 10 rfl (Nat.le_of_ble_eq_true rfl) tw_1_104 rfl rfl (dcq dc_X0_orderSeasons_0 39 rfl) ?_
                refine J_iload_n F 2 (dcq dc_X0_orderSeasons_0 40 rfl) rfl rfl ?_
                refine J_iload_n F 1 (dcq dc_X0_orderSeasons_0 41 rfl) rfl rfl ?_
                refine J_iast F (ws2 := [oB 0 qD [.ref q, .ref a1, .ref a2, .ref a3, .ref a4, .ref a5, .ref a6, .ref a7, .ref a8, .ref a9, .ref a10, .long wd, .int (nI oc), .int (nI fr), .int (nI tt)], oB 2 q [.int (nI P), .int (nI M), .int (nI R), .int (nI n), .ref qv, .ref qg, .ref qd], aJ G a5 12 f5, aI G a10 12 (upd o8 p9 (nI t))]) 3 rfl (by omega) (Nat.le_of_ble_eq_true rfl) rfl (dcq dc_X0_orderSeasons_0 42 rfl) ?_
                refine J_iinc F (lv2 := [(1, .int (nI (t + 1))), (0, .ref qD), (2, .int (nI p9))]) (v := nI (t + 1)) 1 (dcq dc_X0_orderSeasons_0 43 rfl) rfl (nI_inc _) (Nat.le_of_ble_eq_true rfl) rfl ?_
                refine J_goto F 2 (dcq dc_X0_orderSeasons_0 44 rfl) (by decide) ?_
                refine J_locs [1, 0] rfl ?_
                exact ih2 (t + 1) (upd o8 p9 (nI t)) (ins pz p9 t) (by omega) (SEA_ins iv ii hp (Or.inr (fhB_f hr0 (hb9 _ (by omega))))) (by omega)
              · skip
                have hr0 := h_3
                refine J_aload_n F 0 (dcq dc_X0_orderSeasons_0 26 rfl) rfl rfl ?_
                refine J_get F fcX0 0 10 rfl (Nat.le_of_ble_eq_true rfl) tw_1_104 rfl rfl (dcq dc_X0_orderSeasons_0 27 rfl) ?_
                refine J_iload_n F 2 (dcq dc_X0_orderSeasons_0 28 rfl) rfl rfl ?_
                refine J_aload_n F 0 (dcq dc_X0_orderSeasons_0 29 rfl) rfl rfl ?_
                refine J_get F fcX0 0 10 rfl (Nat.le_of_ble_eq_true rfl) tw_1_104 rfl rfl (dcq dc_X0_orderSeasons_0 30 rfl) ?_
                refine J_iload_n F 2 (dcq dc_X0_orderSeasons_0 31 rfl) rfl rfl ?_
                refine J_iconst F (dcq dc_X0_orderSeasons_0 32 rfl) ic_1 ?_
                refine J_isub F (v := nI (p9 - 1)) (dcq dc_X0_orderSeasons_0 33 rfl) (pk_sub (by omega)) ?_
                refine J_iald F 3 rfl (by omega) (Nat.le_of_ble_eq_true rfl) (dcq dc_X0_orderSeasons_0 34 rfl) ?_
                refine J_iast F (ws2 := [oB 0 qD [.ref q, .ref a1, .ref a2, .ref a3, .ref a4, .ref a5, .ref a6, .ref a7, .ref a8, .ref a9, .ref a10, .long wd, .int (nI oc), .int (nI fr), .int (nI tt)], oB 2 q [.int (nI P), .int (nI M), .int (nI R), .int (nI n), .ref qv, .ref qg, .ref qd], aJ G a5 12 f5, aI G a10 12 (upd o8 p9 (o8 (p9 - 1)))]) 3 rfl (by omega) (Nat.le_of_ble_eq_true rfl) rfl (dcq dc_X0_orderSeasons_0 35 rfl) ?_
                refine J_iinc F (lv2 := [(2, .int (nI (p9 - 1))), (0, .ref qD), (1, .int (nI t))]) (v := nI (p9 - 1)) 2 (dcq dc_X0_orderSeasons_0 36 rfl) rfl (nI_dec _ (by omega)) (Nat.le_of_ble_eq_true rfl) rfl ?_
                refine J_goto F 15 (dcq dc_X0_orderSeasons_0 37 rfl) (by decide) ?_
                refine J_locs [1, 2, 0] rfl ?_
                exact ih15 (p9 - 1) (upd o8 p9 (o8 (p9 - 1))) (by omega) (INS_step ii (by omega) hp (fhB_t hr0)) (by omega)
        refine J_locs [1, 2, 0] rfl ?_
        exact L15 (t + 1) t o9 (by omega) (INS_0 (fun j h => (iv.1 j h).1)) (Nat.lt_succ_self _)
  refine J_locs [1, 0] rfl ?_
  exact L2 (P - 0 + 1) 0 f10 (fun _ => 0) (by omega) (⟨fun j h => absurd h (Nat.not_lt_zero _), fun i j _ h => absurd h (Nat.not_lt_zero _), fun F => rfl⟩) (Nat.lt_succ_self _)

abbrev po_X0_addToHash (G : Gt) (qD q a1 a2 a3 a4 a5 a6 a7 a8 a9 a10 oc fr tt : Nat) (wd : Int64) (P M R n qv qg qd : Nat) (h0 : Int64) (f3 : Nat → Int32) (f5 : Nat → Int64) (f7 : Nat → Int64) (f8 : Nat → Int64) : Option Value → va_W → Prop := fun (v9 : Option Value) (w9 : va_W) => ∃ (r : Int64), v9 = some (.long r) ∧ w9 = [oB 0 qD [.ref q, .ref a1, .ref a2, .ref a3, .ref a4, .ref a5, .ref a6, .ref a7, .ref a8, .ref a9, .ref a10, .long wd, .int (nI oc), .int (nI fr), .int (nI tt)], oB 2 q [.int (nI P), .int (nI M), .int (nI R), .int (nI n), .ref qv, .ref qg, .ref qd], aI G a3 72 f3, aJ G a5 12 f5, aJ G a7 72 f7, aJ G a8 72 f8] ∧ (r = ahs P n fr oc wd f5 f3 f7 f8 h0)
set_option maxHeartbeats 4000000 in
set_option maxRecDepth 100000 in
theorem c_X0_addToHash (l : Launch) (hl : l.stackTraces = false) (G : Gt) (qD q a1 a2 a3 a4 a5 a6 a7 a8 a9 a10 oc fr tt : Nat) (wd : Int64) (P M R n qv qg qd : Nat) (h0 : Int64) (f3 : Nat → Int32) (f5 : Nat → Int64) (f7 : Nat → Int64) (f8 : Nat → Int64) (hn : n ≤ 72) (hP12 : P ≤ 12) (htt : tt + fr + 1 = n) (hft : fr ≤ tt) (hoc : oc ≤ 72) : Con l G yX0_addToHash cX0_addToHash 6 (some .long) 0 0 0 0 [.ref qD, .long h0] [oB 0 qD [.ref q, .ref a1, .ref a2, .ref a3, .ref a4, .ref a5, .ref a6, .ref a7, .ref a8, .ref a9, .ref a10, .long wd, .int (nI oc), .int (nI fr), .int (nI tt)], oB 2 q [.int (nI P), .int (nI M), .int (nI R), .int (nI n), .ref qv, .ref qg, .ref qd], aI G a3 72 f3, aJ G a5 12 f5, aJ G a7 72 f7, aJ G a8 72 f8] (po_X0_addToHash G qD q a1 a2 a3 a4 a5 a6 a7 a8 a9 a10 oc fr tt wd P M R n qv qg qd h0 f3 f5 f7 f8) := by
  refine Con.of hl cd_X0_addToHash (Nat.le_of_ble_eq_true rfl) ?_
  intro p e s m args below meth c A F hin9
  change Fx p l s m args meth c G A "SeasonalAdjuster$Decomposition" cX0_addToHash 6 (some .long) at F
  change J p l e (cRm 0 0 0 0) s m args below meth c G A 6 (JQ below G A (po_X0_addToHash G qD q a1 a2 a3 a4 a5 a6 a7 a8 a9 a10 oc fr tt wd P M R n qv qg qd h0 f3 f5 f7 f8) args s 0 0) 0 0 0 [(0, .ref qD), (1, .long h0)] [] [oB 0 qD [.ref q, .ref a1, .ref a2, .ref a3, .ref a4, .ref a5, .ref a6, .ref a7, .ref a8, .ref a9, .ref a10, .long wd, .int (nI oc), .int (nI fr), .int (nI tt)], oB 2 q [.int (nI P), .int (nI M), .int (nI R), .int (nI n), .ref qv, .ref qg, .ref qd], aI G a3 72 f3, aJ G a5 12 f5, aJ G a7 72 f7, aJ G a8 72 f8]
  refine J_ldc2 F (v2 := (31)) tw_2_117 rfl (dcq dc_X0_addToHash_0 0 rfl) ?_
  refine J_lload_n F 1 (dcq dc_X0_addToHash_0 1 rfl) rfl rfl ?_
  refine J_lmul F (v := 31 * h0) (dcq dc_X0_addToHash_0 2 rfl) rfl ?_
  refine J_aload_n F 0 (dcq dc_X0_addToHash_0 3 rfl) rfl rfl ?_
  refine J_get F fcX0 0 11 rfl (Nat.le_of_ble_eq_true rfl) tw_1_106 rfl rfl (dcq dc_X0_addToHash_0 4 rfl) ?_
  refine J_ladd F (v := (31 * h0) + wd) (dcq dc_X0_addToHash_0 5 rfl) rfl ?_
  refine J_lstore_n F (lv2 := [(3, .long ((31 * h0) + wd)), (0, .ref qD), (1, .long h0)]) (dcq dc_X0_addToHash_0 6 rfl) rfl (Nat.le_of_ble_eq_true rfl) rfl ?_
  refine J_iconst F (dcq dc_X0_addToHash_0 7 rfl) ic_0 ?_
  refine J_istore F (lv2 := [(5, .int (nI 0)), (3, .long ((31 * h0) + wd)), (0, .ref qD), (1, .long h0)]) (dcq dc_X0_addToHash_0 8 rfl) (Nat.le_of_ble_eq_true rfl) rfl ?_
  have L14 : ∀ (fu14 : Nat), ∀ (t : Nat) (x : Int64), (t ≤ P) → (x = hf f5 0 (hx h0 wd) t) → P - t < fu14 → J p l e (cRm 0 0 0 0) s m args below meth c G A 6 (JQ below G A (po_X0_addToHash G qD q a1 a2 a3 a4 a5 a6 a7 a8 a9 a10 oc fr tt wd P M R n qv qg qd h0 f3 f5 f7 f8) args s 0 0) 0 0 14 [(0, .ref qD), (1, .long h0), (3, .long x), (5, .int (nI t))] [] [oB 0 qD [.ref q, .ref a1, .ref a2, .ref a3, .ref a4, .ref a5, .ref a6, .ref a7, .ref a8, .ref a9, .ref a10, .long wd, .int (nI oc), .int (nI fr), .int (nI tt)], oB 2 q [.int (nI P), .int (nI M), .int (nI R), .int (nI n), .ref qv, .ref qg, .ref qd], aI G a3 72 f3, aJ G a5 12 f5, aJ G a7 72 f7, aJ G a8 72 f8] := by
    intro fu14
    induction fu14 with
    | zero => intro t x ht ix hm14; exact absurd hm14 (Nat.not_lt_zero _)
    | succ fu14 ih14 =>
      intro t x ht ix hm14
      refine J_iload F 3 (dcq dc_X0_addToHash_0 9 rfl) rfl ?_
      refine J_aload_n F 0 (dcq dc_X0_addToHash_0 10 rfl) rfl rfl ?_
      refine J_get F fcX0 0 0 rfl (Nat.le_of_ble_eq_true rfl) tw_1_86 rfl rfl (dcq dc_X0_addToHash_0 11 rfl) ?_
      refine J_get F fcX2 1 0 rfl (Nat.le_of_ble_eq_true rfl) tw_1_29 rfl rfl (dcq dc_X0_addToHash_0 12 rfl) ?_
      refine J_ncmp_ge F 46 (by omega) (by omega) (dcq dc_X0_addToHash_0 13 rfl) (by decide) (fun h_1 => ?_) (fun h_1 => ?_)
      · skip
        refine J_ldc2 F (v2 := (31)) tw_2_117 rfl (dcq dc_X0_addToHash_0 25 rfl) ?_
        refine J_lload_n F 2 (dcq dc_X0_addToHash_0 26 rfl) rfl rfl ?_
        refine J_lmul F (v := 31 * x) (dcq dc_X0_addToHash_0 27 rfl) rfl ?_
        refine J_aload_n F 0 (dcq dc_X0_addToHash_0 28 rfl) rfl rfl ?_
        refine J_get F fcX0 0 12 rfl (Nat.le_of_ble_eq_true rfl) tw_1_108 rfl rfl (dcq dc_X0_addToHash_0 29 rfl) ?_
        refine J_i2l F (v := lN oc) (dcq dc_X0_addToHash_0 30 rfl) (nI_l (by omega)) ?_
        refine J_ladd F (v := (31 * x) + (lN oc)) (dcq dc_X0_addToHash_0 31 rfl) rfl ?_
        refine J_lstore_n F (lv2 := [(3, .long ((31 * x) + (lN oc))), (0, .ref qD), (1, .long h0), (5, .int (nI t))]) (dcq dc_X0_addToHash_0 32 rfl) rfl (Nat.le_of_ble_eq_true rfl) rfl ?_
        refine J_aload_n F 1 (dcq dc_X0_addToHash_0 33 rfl) rfl rfl ?_
        refine J_get F fcX0 0 13 rfl (Nat.le_of_ble_eq_true rfl) tw_1_110 rfl rfl (dcq dc_X0_addToHash_0 34 rfl) ?_
        refine J_istore F (lv2 := [(5, .int (nI fr)), (3, .long ((31 * x) + (lN oc))), (0, .ref qD), (1, .long h0)]) (dcq dc_X0_addToHash_0 35 rfl) (Nat.le_of_ble_eq_true rfl) rfl ?_
        have L64 : ∀ (fu64 : Nat), ∀ (t2 : Nat) (x2 : Int64), (fr ≤ t2) → (t2 ≤ tt + 1) → (x2 = hf (xv f3) fr (hx x (lN oc)) (t2 - fr)) → tt + 1 - t2 < fu64 → J p l e (cRm 0 0 0 0) s m args below meth c G A 6 (JQ below G A (po_X0_addToHash G qD q a1 a2 a3 a4 a5 a6 a7 a8 a9 a10 oc fr tt wd P M R n qv qg qd h0 f3 f5 f7 f8) args s 0 0) 0 0 64 [(0, .ref qD), (1, .long h0), (3, .long x2), (5, .int (nI t2))] [] [oB 0 qD [.ref q, .ref a1, .ref a2, .ref a3, .ref a4, .ref a5, .ref a6, .ref a7, .ref a8, .ref a9, .ref a10, .long wd, .int (nI oc), .int (nI fr), .int (nI tt)], oB 2 q [.int (nI P), .int (nI M), .int (nI R), .int (nI n), .ref qv, .ref qg, .ref qd], aI G a3 72 f3, aJ G a5 12 f5, aJ G a7 72 f7, aJ G a8 72 f8] := by
          intro fu64
          induction fu64 with
          | zero => intro t2 x2 ha1 ha2 ix2 hm64; exact absurd hm64 (Nat.not_lt_zero _)
          | succ fu64 ih64 =>
            intro t2 x2 ha1 ha2 ix2 hm64
            refine J_iload F 3 (dcq dc_X0_addToHash_0 36 rfl) rfl ?_
            refine J_aload_n F 0 (dcq dc_X0_addToHash_0 37 rfl) rfl rfl ?_
            refine J_get F fcX0 0 14 rfl (Nat.le_of_ble_eq_true rfl) tw_1_112 rfl rfl (dcq dc_X0_addToHash_0 38 rfl) ?_
            refine J_ncmp_gt F 94 (by omega) (by omega) (dcq dc_X0_addToHash_0 39 rfl) (by decide) (fun h_2 => ?_) (fun h_2 => ?_)
            · skip
              refine J_iconst F (dcq dc_X0_addToHash_1 4 rfl) ic_0 ?_
              refine J_istore F (lv2 := [(5, .int (nI 0)), (0, .ref qD), (1, .long h0), (3, .long x2)]) (dcq dc_X0_addToHash_1 5 rfl) (Nat.le_of_ble_eq_true rfl) rfl ?_
              have L97 : ∀ (fu97 : Nat), ∀ (t3 : Nat) (x3 : Int64), (t3 ≤ n) → (x3 = hf2 f7 f8 x2 t3) → n - t3 < fu97 → J p l e (cRm 0 0 0 0) s m args below meth c G A 6 (JQ below G A (po_X0_addToHash G qD q a1 a2 a3 a4 a5 a6 a7 a8 a9 a10 oc fr tt wd P M R n qv qg qd h0 f3 f5 f7 f8) args s 0 0) 0 0 97 [(0, .ref qD), (1, .long h0), (3, .long x3), (5, .int (nI t3))] [] [oB 0 qD [.ref q, .ref a1, .ref a2, .ref a3, .ref a4, .ref a5, .ref a6, .ref a7, .ref a8, .ref a9, .ref a10, .long wd, .int (nI oc), .int (nI fr), .int (nI tt)], oB 2 q [.int (nI P), .int (nI M), .int (nI R), .int (nI n), .ref qv, .ref qg, .ref qd], aI G a3 72 f3, aJ G a5 12 f5, aJ G a7 72 f7, aJ G a8 72 f8] := by
                intro fu97
                induction fu97 with
                | zero => intro t3 x3 hb1 ix3 hm97; exact absurd hm97 (Nat.not_lt_zero _)
                | succ fu97 ih97 =>
                  intro t3 x3 hb1 ix3 hm97
                  refine J_iload F 3 (dcq dc_X0_addToHash_1 6 rfl) rfl ?_
                  refine J_aload_n F 0 (dcq dc_X0_addToHash_1 7 rfl) rfl rfl ?_
                  refine J_get F fcX0 0 0 rfl (Nat.le_of_ble_eq_true rfl) tw_1_86 rfl rfl (dcq dc_X0_addToHash_1 8 rfl) ?_
                  refine J_get F fcX2 1 3 rfl (Nat.le_of_ble_eq_true rfl) tw_1_37 rfl rfl (dcq dc_X0_addToHash_1 9 rfl) ?_
                  refine J_ncmp_ge F 143 (by omega) (by omega) (dcq dc_X0_addToHash_1 10 rfl) (by decide) (fun h_3 => ?_) (fun h_3 => ?_)
                  · skip
                    refine J_lload_n F 2 (dcq dc_X0_addToHash_1 31 rfl) rfl rfl ?_
                    exact J_lret F ⟨x3, rfl, rfl, by rw [ix3, ix2, ix, show t3 = n by omega, show t2 - fr = n - 2 * fr by omega, show t = P by omega]; rfl⟩ (Nat.le_of_ble_eq_true rfl) (Nat.le_of_ble_eq_true rfl) (dcq dc_X0_addToHash_1 32 rfl)
                  · skip
                    refine J_ldc2 F (v2 := (31)) tw_2_117 rfl (dcq dc_X0_addToHash_1 11 rfl) ?_
                    refine J_lload_n F 2 (dcq dc_X0_addToHash_1 12 rfl) rfl rfl ?_
                    refine J_lmul F (v := 31 * x3) (dcq dc_X0_addToHash_1 13 rfl) rfl ?_
                    refine J_aload_n F 0 (dcq dc_X0_addToHash_1 14 rfl) rfl rfl ?_
                    refine J_get F fcX0 0 7 rfl (Nat.le_of_ble_eq_true rfl) tw_1_98 rfl rfl (dcq dc_X0_addToHash_1 15 rfl) ?_
                    refine J_iload F 3 (dcq dc_X0_addToHash_1 16 rfl) rfl ?_
                    refine J_lald F 4 rfl (by omega) (Nat.le_of_ble_eq_true rfl) (dcq dc_X0_addToHash_1 17 rfl) ?_
                    refine J_ladd F (v := (31 * x3) + (f7 t3)) (dcq dc_X0_addToHash_1 18 rfl) rfl ?_
                    refine J_lstore_n F (lv2 := [(3, .long ((31 * x3) + (f7 t3))), (0, .ref qD), (1, .long h0), (5, .int (nI t3))]) (dcq dc_X0_addToHash_1 19 rfl) rfl (Nat.le_of_ble_eq_true rfl) rfl ?_
                    refine J_ldc2 F (v2 := (31)) tw_2_117 rfl (dcq dc_X0_addToHash_1 20 rfl) ?_
                    refine J_lload_n F 0 (dcq dc_X0_addToHash_1 21 rfl) rfl rfl ?_
                    refine J_lmul F (v := 31 * ((31 * x3) + (f7 t3))) (dcq dc_X0_addToHash_1 22 rfl) rfl ?_
                    refine J_aload_n F 1 (dcq dc_X0_addToHash_1 23 rfl) rfl rfl ?_
                    refine J_get F fcX0 0 8 rfl (Nat.le_of_ble_eq_true rfl) tw_1_100 rfl rfl (dcq dc_X0_addToHash_1 24 rfl) ?_
                    refine J_iload F 3 (dcq dc_X0_addToHash_1 25 rfl) rfl ?_
                    refine J_lald F 5 rfl (by omega) (Nat.le_of_ble_eq_true rfl) (dcq dc_X0_addToHash_1 26 rfl) ?_
                    refine J_ladd F (v := (31 * ((31 * x3) + (f7 t3))) + (f8 t3)) (dcq dc_X0_addToHash_1 27 rfl) rfl ?_
                    refine J_lstore_n F (lv2 := [(3, .long ((31 * ((31 * x3) + (f7 t3))) + (f8 t3))), (0, .ref qD), (1, .long h0), (5, .int (nI t3))]) (dcq dc_X0_addToHash_1 28 rfl) rfl (Nat.le_of_ble_eq_true rfl) rfl ?_
                    refine J_iinc F (lv2 := [(5, .int (nI (t3 + 1))), (3, .long ((31 * ((31 * x3) + (f7 t3))) + (f8 t3))), (0, .ref qD), (1, .long h0)]) (v := nI (t3 + 1)) 3 (dcq dc_X0_addToHash_1 29 rfl) rfl (nI_inc _) (Nat.le_of_ble_eq_true rfl) rfl ?_
                    refine J_goto F 97 (dcq dc_X0_addToHash_1 30 rfl) (by decide) ?_
                    refine J_locs [2, 3, 1, 0] rfl ?_
                    exact ih97 (t3 + 1) ((31 * ((31 * x3) + (f7 t3))) + (f8 t3)) (by omega) (by simp only [hf2, hx]; rw [ix3]) (by omega)
              refine J_locs [1, 2, 3, 0] rfl ?_
              exact L97 (n - 0 + 1) 0 x2 (by omega) (rfl) (Nat.lt_succ_self _)
            · skip
              refine J_ldc2 F (v2 := (31)) tw_2_117 rfl (dcq dc_X0_addToHash_0 40 rfl) ?_
              refine J_lload_n F 2 (dcq dc_X0_addToHash_0 41 rfl) rfl rfl ?_
              refine J_lmul F (v := 31 * x2) (dcq dc_X0_addToHash_0 42 rfl) rfl ?_
              refine J_aload_n F 0 (dcq dc_X0_addToHash_0 43 rfl) rfl rfl ?_
              refine J_get F fcX0 0 3 rfl (Nat.le_of_ble_eq_true rfl) tw_1_91 rfl rfl (dcq dc_X0_addToHash_0 44 rfl) ?_
              refine J_iload F 3 (dcq dc_X0_addToHash_0 45 rfl) rfl ?_
              refine J_iald F 2 rfl (by omega) (Nat.le_of_ble_eq_true rfl) (dcq dc_X0_addToHash_0 46 rfl) ?_
              refine J_i2l F (v := (f3 t2).toInt64) (dcq dc_X0_addToHash_0 47 rfl) rfl ?_
              refine J_ladd F (v := (31 * x2) + ((f3 t2).toInt64)) (dcq dc_X0_addToHash_1 0 rfl) rfl ?_
              refine J_lstore_n F (lv2 := [(3, .long ((31 * x2) + ((f3 t2).toInt64))), (0, .ref qD), (1, .long h0), (5, .int (nI t2))]) (dcq dc_X0_addToHash_1 1 rfl) rfl (Nat.le_of_ble_eq_true rfl) rfl ?_
              refine J_iinc F (lv2 := [(5, .int (nI (t2 + 1))), (3, .long ((31 * x2) + ((f3 t2).toInt64))), (0, .ref qD), (1, .long h0)]) (v := nI (t2 + 1)) 3 (dcq dc_X0_addToHash_1 2 rfl) rfl (nI_inc _) (Nat.le_of_ble_eq_true rfl) rfl ?_
              refine J_goto F 64 (dcq dc_X0_addToHash_1 3 rfl) (by decide) ?_
              refine J_locs [2, 3, 1, 0] rfl ?_
              exact ih64 (t2 + 1) ((31 * x2) + ((f3 t2).toInt64)) (by omega) (by omega) (by rw [hf_step ha1, ix2]; rfl) (by omega)
        refine J_locs [2, 3, 1, 0] rfl ?_
        exact L64 (tt + 1 - fr + 1) fr ((31 * x) + (lN oc)) (by omega) (by omega) (by rw [Nat.sub_self]; rfl) (Nat.lt_succ_self _)
      · skip
        refine J_ldc2 F (v2 := (31)) tw_2_117 rfl (dcq dc_X0_addToHash_0 14 rfl) ?_
        refine J_lload_n F 2 (dcq dc_X0_addToHash_0 15 rfl) rfl rfl ?_
        refine J_lmul F (v := 31 * x) (dcq dc_X0_addToHash_0 16 rfl) rfl ?_
        refine J_aload_n F 0 (dcq dc_X0_addToHash_0 17 rfl) rfl rfl ?_
        refine J_get F fcX0 0 5 rfl (Nat.le_of_ble_eq_true rfl) tw_1_94 rfl rfl (dcq dc_X0_addToHash_0 18 rfl) ?_
        refine J_iload F 3 (dcq dc_X0_addToHash_0 19 rfl) rfl ?_
        refine J_lald F 3 rfl (by omega) (Nat.le_of_ble_eq_true rfl) (dcq dc_X0_addToHash_0 20 rfl) ?_
        refine J_ladd F (v := (31 * x) + (f5 t)) (dcq dc_X0_addToHash_0 21 rfl) rfl ?_
        refine J_lstore_n F (lv2 := [(3, .long ((31 * x) + (f5 t))), (0, .ref qD), (1, .long h0), (5, .int (nI t))]) (dcq dc_X0_addToHash_0 22 rfl) rfl (Nat.le_of_ble_eq_true rfl) rfl ?_
        refine J_iinc F (lv2 := [(5, .int (nI (t + 1))), (3, .long ((31 * x) + (f5 t))), (0, .ref qD), (1, .long h0)]) (v := nI (t + 1)) 3 (dcq dc_X0_addToHash_0 23 rfl) rfl (nI_inc _) (Nat.le_of_ble_eq_true rfl) rfl ?_
        refine J_goto F 14 (dcq dc_X0_addToHash_0 24 rfl) (by decide) ?_
        refine J_locs [2, 3, 1, 0] rfl ?_
        exact ih14 (t + 1) ((31 * x) + (f5 t)) (by omega) (by simp only [hf, hx, Nat.zero_add]; rw [ix]; rfl) (by omega)
  refine J_locs [2, 3, 1, 0] rfl ?_
  exact L14 (P - 0 + 1) 0 ((31 * h0) + wd) (by omega) (rfl) (Nat.lt_succ_self _)
