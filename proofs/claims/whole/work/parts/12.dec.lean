abbrev po_X0_computeFirstTrend (G : Gt) (qD q a1 a2 a3 a4 a5 a6 a7 a8 a9 a10 oc fr tt : Nat) (wd : Int64) (P M R n qv qg qd : Nat) (v : Nat → Int32) (f1 : Nat → Int64) : Option Value → va_W → Prop := fun (v9 : Option Value) (w9 : va_W) => ∃ (g1 : Nat → Int64), v9 = none ∧ w9 = [oB 0 qD [.ref q, .ref a1, .ref a2, .ref a3, .ref a4, .ref a5, .ref a6, .ref a7, .ref a8, .ref a9, .ref a10, .long wd, .int (nI oc), .int (nI fr), .int (nI tt)], oB 2 q [.int (nI P), .int (nI M), .int (nI R), .int (nI n), .ref qv, .ref qg, .ref qd], aI G qv 72 v, aJ G a1 72 g1] ∧ (∀ t, fr ≤ t → t ≤ tt → g1 t = ft P fr v t)
set_option maxHeartbeats 4000000 in
set_option maxRecDepth 100000 in
theorem c_X0_computeFirstTrend (l : Launch) (hl : l.stackTraces = false) (G : Gt) (qD q a1 a2 a3 a4 a5 a6 a7 a8 a9 a10 oc fr tt : Nat) (wd : Int64) (P M R n qv qg qd : Nat) (v : Nat → Int32) (f1 : Nat → Int64) (hn : n ≤ 72) (hP : 2 ≤ P) (hP12 : P ≤ 12) (hfr : fr = P / 2) (htt : tt + fr + 1 = n) (hPn : P + 2 * fr ≤ n) : Con l G yX0_computeFirstTrend cX0_computeFirstTrend 6 none 1 29 0 0 [.ref qD] [oB 0 qD [.ref q, .ref a1, .ref a2, .ref a3, .ref a4, .ref a5, .ref a6, .ref a7, .ref a8, .ref a9, .ref a10, .long wd, .int (nI oc), .int (nI fr), .int (nI tt)], oB 2 q [.int (nI P), .int (nI M), .int (nI R), .int (nI n), .ref qv, .ref qg, .ref qd], aI G qv 72 v, aJ G a1 72 f1] (po_X0_computeFirstTrend G qD q a1 a2 a3 a4 a5 a6 a7 a8 a9 a10 oc fr tt wd P M R n qv qg qd v f1) := by
  refine Con.of hl cd_X0_computeFirstTrend (Nat.le_of_ble_eq_true rfl) ?_
  intro p e s m args below meth c A F hin9
  change Fx p l s m args meth c G A "SeasonalAdjuster$Decomposition" cX0_computeFirstTrend 6 none at F
  change J p l e (cRm 1 29 0 0) s m args below meth c G A 6 (JQ below G A (po_X0_computeFirstTrend G qD q a1 a2 a3 a4 a5 a6 a7 a8 a9 a10 oc fr tt wd P M R n qv qg qd v f1) args s 0 0) 0 0 0 [(0, .ref qD)] [] [oB 0 qD [.ref q, .ref a1, .ref a2, .ref a3, .ref a4, .ref a5, .ref a6, .ref a7, .ref a8, .ref a9, .ref a10, .long wd, .int (nI oc), .int (nI fr), .int (nI tt)], oB 2 q [.int (nI P), .int (nI M), .int (nI R), .int (nI n), .ref qv, .ref qg, .ref qd], aI G qv 72 v, aJ G a1 72 f1]
  refine J_aload_n F 0 (dcq dc_X0_computeFirstTrend_0 0 rfl) rfl rfl ?_
  refine J_get F fcX0 0 13 rfl (Nat.le_of_ble_eq_true rfl) tw_1_110 rfl rfl (dcq dc_X0_computeFirstTrend_0 1 rfl) ?_
  refine J_istore_n F (lv2 := [(1, .int (nI fr)), (0, .ref qD)]) (dcq dc_X0_computeFirstTrend_0 2 rfl) rfl (Nat.le_of_ble_eq_true rfl) rfl ?_
  have L5 : ∀ (fu5 : Nat), ∀ (t : Nat) (g1 : Nat → Int64), (fr ≤ t) → (t ≤ tt + 1) → (∀ j, fr ≤ j → j < t → g1 j = ft P fr v j) → tt + 1 - t < fu5 → J p l e (cRm 1 29 0 0) s m args below meth c G A 6 (JQ below G A (po_X0_computeFirstTrend G qD q a1 a2 a3 a4 a5 a6 a7 a8 a9 a10 oc fr tt wd P M R n qv qg qd v f1) args s 0 0) 0 0 5 [(0, .ref qD), (1, .int (nI t))] [] [oB 0 qD [.ref q, .ref a1, .ref a2, .ref a3, .ref a4, .ref a5, .ref a6, .ref a7, .ref a8, .ref a9, .ref a10, .long wd, .int (nI oc), .int (nI fr), .int (nI tt)], oB 2 q [.int (nI P), .int (nI M), .int (nI R), .int (nI n), .ref qv, .ref qg, .ref qd], aI G qv 72 v, aJ G a1 72 g1] := by
    intro fu5
    induction fu5 with
    | zero => intro t g1 ht1 ht2 iv hm5; exact absurd hm5 (Nat.not_lt_zero _)
    | succ fu5 ih5 =>
      intro t g1 ht1 ht2 iv hm5
      refine J_iload_n F 1 (dcq dc_X0_computeFirstTrend_0 3 rfl) rfl rfl ?_
      refine J_aload_n F 0 (dcq dc_X0_computeFirstTrend_0 4 rfl) rfl rfl ?_
      refine J_get F fcX0 0 14 rfl (Nat.le_of_ble_eq_true rfl) tw_1_112 rfl rfl (dcq dc_X0_computeFirstTrend_0 5 rfl) ?_
      refine J_ncmp_gt F 155 (by omega) (by omega) (dcq dc_X0_computeFirstTrend_0 6 rfl) (by decide) (fun h_1 => ?_) (fun h_1 => ?_)
      · skip
        exact J_vret F ⟨g1, rfl, rfl, fun j h1 h2 => iv j h1 (by omega)⟩ (Nat.le_of_ble_eq_true rfl) (Nat.le_of_ble_eq_true rfl) (dcq dc_X0_computeFirstTrend_1 39 rfl)
      · skip
        refine J_lconst F (dcq dc_X0_computeFirstTrend_0 7 rfl) lc_0 ?_
        refine J_lstore_n F (lv2 := [(2, .long 0), (0, .ref qD), (1, .int (nI t))]) (dcq dc_X0_computeFirstTrend_0 8 rfl) rfl (Nat.le_of_ble_eq_true rfl) rfl ?_
        refine J_iload_n F 2 (dcq dc_X0_computeFirstTrend_0 9 rfl) rfl rfl ?_
        refine J_aload_n F 1 (dcq dc_X0_computeFirstTrend_0 10 rfl) rfl rfl ?_
        refine J_get F fcX0 0 13 rfl (Nat.le_of_ble_eq_true rfl) tw_1_110 rfl rfl (dcq dc_X0_computeFirstTrend_0 11 rfl) ?_
        refine J_isub F (v := nI (t - fr)) (dcq dc_X0_computeFirstTrend_0 12 rfl) (pk_sub (by omega)) ?_
        refine J_iconst F (dcq dc_X0_computeFirstTrend_0 13 rfl) ic_1 ?_
        refine J_iadd F (v := nI ((t - fr) + 1)) (dcq dc_X0_computeFirstTrend_0 14 rfl) (nI_add _ _) ?_
        refine J_istore F (lv2 := [(4, .int (nI ((t - fr) + 1))), (2, .long 0), (0, .ref qD), (1, .int (nI t))]) (dcq dc_X0_computeFirstTrend_0 15 rfl) (Nat.le_of_ble_eq_true rfl) rfl ?_
        have L25 : ∀ (fu25 : Nat), ∀ (i : Nat) (x : Int64), (t - fr + 1 ≤ i) → (i ≤ t + fr) → (x = sm (xv v) (t - fr + 1) (i - (t - fr + 1))) → t + fr - i < fu25 → J p l e (cRm 1 29 0 0) s m args below meth c G A 6 (JQ below G A (po_X0_computeFirstTrend G qD q a1 a2 a3 a4 a5 a6 a7 a8 a9 a10 oc fr tt wd P M R n qv qg qd v f1) args s 0 0) 0 0 25 [(0, .ref qD), (1, .int (nI t)), (2, .long x), (4, .int (nI i))] [] [oB 0 qD [.ref q, .ref a1, .ref a2, .ref a3, .ref a4, .ref a5, .ref a6, .ref a7, .ref a8, .ref a9, .ref a10, .long wd, .int (nI oc), .int (nI fr), .int (nI tt)], oB 2 q [.int (nI P), .int (nI M), .int (nI R), .int (nI n), .ref qv, .ref qg, .ref qd], aI G qv 72 v, aJ G a1 72 g1] := by
          intro fu25
          induction fu25 with
          | zero => intro i x hi1 hi2 hx hm25; exact absurd hm25 (Nat.not_lt_zero _)
          | succ fu25 ih25 =>
            intro i x hi1 hi2 hx hm25
            refine J_iload F 3 (dcq dc_X0_computeFirstTrend_0 16 rfl) rfl ?_
            refine J_iload_n F 1 (dcq dc_X0_computeFirstTrend_0 17 rfl) rfl rfl ?_
            refine J_aload_n F 0 (dcq dc_X0_computeFirstTrend_0 18 rfl) rfl rfl ?_
            refine J_get F fcX0 0 13 rfl (Nat.le_of_ble_eq_true rfl) tw_1_110 rfl rfl (dcq dc_X0_computeFirstTrend_0 19 rfl) ?_
            refine J_iadd F (v := nI (t + fr)) (dcq dc_X0_computeFirstTrend_0 20 rfl) (nI_add _ _) ?_
            refine J_ncmp_ge F 56 (by omega) (by omega) (dcq dc_X0_computeFirstTrend_0 21 rfl) (by decide) (fun h_2 => ?_) (fun h_2 => ?_)
            · skip
              refine J_aload_n F 0 (dcq dc_X0_computeFirstTrend_0 33 rfl) rfl rfl ?_
              refine J_get F fcX0 0 0 rfl (Nat.le_of_ble_eq_true rfl) tw_1_86 rfl rfl (dcq dc_X0_computeFirstTrend_0 34 rfl) ?_
              refine J_get F fcX2 1 4 rfl (Nat.le_of_ble_eq_true rfl) tw_1_40 rfl rfl (dcq dc_X0_computeFirstTrend_0 35 rfl) ?_
              refine J_iload_n F 1 (dcq dc_X0_computeFirstTrend_0 36 rfl) rfl rfl ?_
              refine J_aload_n F 0 (dcq dc_X0_computeFirstTrend_0 37 rfl) rfl rfl ?_
              refine J_get F fcX0 0 13 rfl (Nat.le_of_ble_eq_true rfl) tw_1_110 rfl rfl (dcq dc_X0_computeFirstTrend_0 38 rfl) ?_
              refine J_isub F (v := nI (t - fr)) (dcq dc_X0_computeFirstTrend_0 39 rfl) (pk_sub (by omega)) ?_
              refine J_iald F 2 rfl (by omega) (Nat.le_of_ble_eq_true rfl) (dcq dc_X0_computeFirstTrend_0 40 rfl) ?_
              refine J_i2l F (v := (v (t - fr)).toInt64) (dcq dc_X0_computeFirstTrend_0 41 rfl) rfl ?_
              refine J_aload_n F 0 (dcq dc_X0_computeFirstTrend_0 42 rfl) rfl rfl ?_
              refine J_get F fcX0 0 0 rfl (Nat.le_of_ble_eq_true rfl) tw_1_86 rfl rfl (dcq dc_X0_computeFirstTrend_0 43 rfl) ?_
              refine J_get F fcX2 1 4 rfl (Nat.le_of_ble_eq_true rfl) tw_1_40 rfl rfl (dcq dc_X0_computeFirstTrend_0 44 rfl) ?_
              refine J_iload_n F 1 (dcq dc_X0_computeFirstTrend_0 45 rfl) rfl rfl ?_
              refine J_aload_n F 0 (dcq dc_X0_computeFirstTrend_0 46 rfl) rfl rfl ?_
              refine J_get F fcX0 0 13 rfl (Nat.le_of_ble_eq_true rfl) tw_1_110 rfl rfl (dcq dc_X0_computeFirstTrend_0 47 rfl) ?_
              refine J_iadd F (v := nI (t + fr)) (dcq dc_X0_computeFirstTrend_1 0 rfl) (nI_add _ _) ?_
              refine J_iald F 2 rfl (by omega) (Nat.le_of_ble_eq_true rfl) (dcq dc_X0_computeFirstTrend_1 1 rfl) ?_
              refine J_i2l F (v := (v (t + fr)).toInt64) (dcq dc_X0_computeFirstTrend_1 2 rfl) rfl ?_
              refine J_ladd F (v := ((v (t - fr)).toInt64) + ((v (t + fr)).toInt64)) (dcq dc_X0_computeFirstTrend_1 3 rfl) rfl ?_
              refine J_lstore F (lv2 := [(4, .long (((v (t - fr)).toInt64) + ((v (t + fr)).toInt64))), (0, .ref qD), (1, .int (nI t)), (2, .long x)]) (dcq dc_X0_computeFirstTrend_1 4 rfl) (Nat.le_of_ble_eq_true rfl) rfl ?_
              refine J_aload_n F 1 (dcq dc_X0_computeFirstTrend_1 5 rfl) rfl rfl ?_
              refine J_get F fcX0 0 1 rfl (Nat.le_of_ble_eq_true rfl) tw_1_87 rfl rfl (dcq dc_X0_computeFirstTrend_1 6 rfl) ?_
              refine J_iload_n F 2 (dcq dc_X0_computeFirstTrend_1 7 rfl) rfl rfl ?_
              refine J_aload_n F 1 (dcq dc_X0_computeFirstTrend_1 8 rfl) rfl rfl ?_
              refine J_get F fcX0 0 0 rfl (Nat.le_of_ble_eq_true rfl) tw_1_86 rfl rfl (dcq dc_X0_computeFirstTrend_1 9 rfl) ?_
              refine J_get F fcX2 1 0 rfl (Nat.le_of_ble_eq_true rfl) tw_1_29 rfl rfl (dcq dc_X0_computeFirstTrend_1 10 rfl) ?_
              refine J_iconst F (dcq dc_X0_computeFirstTrend_1 11 rfl) ic_2 ?_
              refine J_irem F (v := nI (P % 2)) (dcq dc_X0_computeFirstTrend_1 12 rfl) (nI_ne0 (by omega) (by omega)) (pk_rem (by omega) (by omega) (by omega)) ?_
              refine J_iconst F (dcq dc_X0_computeFirstTrend_1 13 rfl) ic_1 ?_
              refine J_ncmp_ne F 125 (by omega) (by omega) (dcq dc_X0_computeFirstTrend_1 14 rfl) (by decide) (fun h_3 => ?_) (fun h_3 => ?_)
              · skip
                have hodd := h_3
                refine J_ldc2 F (v2 := (2)) tw_2_29 rfl (dcq dc_X0_computeFirstTrend_1 24 rfl) ?_
                refine J_lload_n F 3 (dcq dc_X0_computeFirstTrend_1 25 rfl) rfl rfl ?_
                refine J_lmul F (v := 2 * x) (dcq dc_X0_computeFirstTrend_1 26 rfl) rfl ?_
                refine J_lload F 0 (dcq dc_X0_computeFirstTrend_1 27 rfl) rfl ?_
                refine J_ladd F (v := (2 * x) + (((v (t - fr)).toInt64) + ((v (t + fr)).toInt64))) (dcq dc_X0_computeFirstTrend_1 28 rfl) rfl ?_
                refine J_ldc2 F (v2 := (2)) tw_2_29 rfl (dcq dc_X0_computeFirstTrend_1 29 rfl) ?_
                refine J_aload_n F 1 (dcq dc_X0_computeFirstTrend_1 30 rfl) rfl rfl ?_
                refine J_get F fcX0 0 0 rfl (Nat.le_of_ble_eq_true rfl) tw_1_86 rfl rfl (dcq dc_X0_computeFirstTrend_1 31 rfl) ?_
                refine J_get F fcX2 1 0 rfl (Nat.le_of_ble_eq_true rfl) tw_1_29 rfl rfl (dcq dc_X0_computeFirstTrend_1 32 rfl) ?_
                refine J_i2l F (v := lN P) (dcq dc_X0_computeFirstTrend_1 33 rfl) (nI_l (by omega)) ?_
                refine J_lmul F (v := 2 * (lN P)) (dcq dc_X0_computeFirstTrend_1 34 rfl) rfl ?_
                refine J_callSN F (wc := []) (wr := [oB 0 qD [.ref q, .ref a1, .ref a2, .ref a3, .ref a4, .ref a5, .ref a6, .ref a7, .ref a8, .ref a9, .ref a10, .long wd, .int (nI oc), .int (nI fr), .int (nI tt)], oB 2 q [.int (nI P), .int (nI M), .int (nI R), .int (nI n), .ref qv, .ref qg, .ref qd], aI G qv 72 v, aJ G a1 72 g1]) (rest := [.int (nI t), .ref a1]) (c_X3_quotient l hl G ((2 * x) + (((v (t - fr)).toInt64) + ((v (t + fr)).toInt64))) (2 * (lN P))) cd_X3_quotient tw_2_27 nt_Decomposition_112 [] [0, 1, 2, 3] rfl rfl rfl rfl (by decide) rfl ⟨(Nat.le_of_ble_eq_true rfl), (Nat.le_of_ble_eq_true rfl), (Nat.le_of_ble_eq_true rfl), (Nat.le_of_ble_eq_true rfl)⟩ (Nat.le_of_ble_eq_true rfl) rfl (dcq dc_X0_computeFirstTrend_1 35 rfl) ?_
                rintro _ _ ⟨rq, rfl, rfl, hq⟩
                change J p l e (cRm 1 29 0 0) s m args below meth c G A 6 (JQ below G A (po_X0_computeFirstTrend G qD q a1 a2 a3 a4 a5 a6 a7 a8 a9 a10 oc fr tt wd P M R n qv qg qd v f1) args s 0 0) 0 0 148 [(4, .long (((v (t - fr)).toInt64) + ((v (t + fr)).toInt64))), (0, .ref qD), (1, .int (nI t)), (2, .long x)] [.long rq, .int (nI t), .ref a1] [oB 0 qD [.ref q, .ref a1, .ref a2, .ref a3, .ref a4, .ref a5, .ref a6, .ref a7, .ref a8, .ref a9, .ref a10, .long wd, .int (nI oc), .int (nI fr), .int (nI tt)], oB 2 q [.int (nI P), .int (nI M), .int (nI R), .int (nI n), .ref qv, .ref qg, .ref qd], aI G qv 72 v, aJ G a1 72 g1]
                have hq : rq = quo ((2 * x) + (((v (t - fr)).toInt64) + ((v (t + fr)).toInt64))) (2 * (lN P)) := hq
                refine J_last F (ws2 := [oB 0 qD [.ref q, .ref a1, .ref a2, .ref a3, .ref a4, .ref a5, .ref a6, .ref a7, .ref a8, .ref a9, .ref a10, .long wd, .int (nI oc), .int (nI fr), .int (nI tt)], oB 2 q [.int (nI P), .int (nI M), .int (nI R), .int (nI n), .ref qv, .ref qg, .ref qd], aI G qv 72 v, aJ G a1 72 (vp_updL g1 t rq)]) 3 rfl (by omega) (Nat.le_of_ble_eq_true rfl) rfl (dcq dc_X0_computeFirstTrend_1 36 rfl) ?_
                refine J_iinc F (lv2 := [(1, .int (nI (t + 1))), (4, .long (((v (t - fr)).toInt64) + ((v (t + fr)).toInt64))), (0, .ref qD), (2, .long x)]) (v := nI (t + 1)) 2 (dcq dc_X0_computeFirstTrend_1 37 rfl) rfl (nI_inc _) (Nat.le_of_ble_eq_true rfl) rfl ?_
                refine J_goto F 5 (dcq dc_X0_computeFirstTrend_1 38 rfl) (by decide) ?_
                refine J_locs [2, 0] rfl ?_
                exact ih5 (t + 1) (vp_updL g1 t rq) (by omega) (by omega) (up_l iv (by unfold ft; first | rw [if_pos hodd, hq, hx, show i - (t - fr + 1) = 2 * fr - 1 by omega]; rfl | rw [if_neg hodd, hq, hx, show i - (t - fr + 1) = 2 * fr - 1 by omega]; rfl)) (by omega)
              · skip
                have hodd := h_3
                refine J_lload_n F 3 (dcq dc_X0_computeFirstTrend_1 15 rfl) rfl rfl ?_
                refine J_lload F 0 (dcq dc_X0_computeFirstTrend_1 16 rfl) rfl ?_
                refine J_ladd F (v := x + (((v (t - fr)).toInt64) + ((v (t + fr)).toInt64))) (dcq dc_X0_computeFirstTrend_1 17 rfl) rfl ?_
                refine J_aload_n F 1 (dcq dc_X0_computeFirstTrend_1 18 rfl) rfl rfl ?_
                refine J_get F fcX0 0 0 rfl (Nat.le_of_ble_eq_true rfl) tw_1_86 rfl rfl (dcq dc_X0_computeFirstTrend_1 19 rfl) ?_
                refine J_get F fcX2 1 0 rfl (Nat.le_of_ble_eq_true rfl) tw_1_29 rfl rfl (dcq dc_X0_computeFirstTrend_1 20 rfl) ?_
                refine J_i2l F (v := lN P) (dcq dc_X0_computeFirstTrend_1 21 rfl) (nI_l (by omega)) ?_
                refine J_callSN F (wc := []) (wr := [oB 0 qD [.ref q, .ref a1, .ref a2, .ref a3, .ref a4, .ref a5, .ref a6, .ref a7, .ref a8, .ref a9, .ref a10, .long wd, .int (nI oc), .int (nI fr), .int (nI tt)], oB 2 q [.int (nI P), .int (nI M), .int (nI R), .int (nI n), .ref qv, .ref qg, .ref qd], aI G qv 72 v, aJ G a1 72 g1]) (rest := [.int (nI t), .ref a1]) (c_X3_quotient l hl G (x + (((v (t - fr)).toInt64) + ((v (t + fr)).toInt64))) (lN P)) cd_X3_quotient tw_2_27 nt_Decomposition_112 [] [0, 1, 2, 3] rfl rfl rfl rfl (by decide) rfl ⟨(Nat.le_of_ble_eq_true rfl), (Nat.le_of_ble_eq_true rfl), (Nat.le_of_ble_eq_true rfl), (Nat.le_of_ble_eq_true rfl)⟩ (Nat.le_of_ble_eq_true rfl) rfl (dcq dc_X0_computeFirstTrend_1 22 rfl) ?_
                rintro _ _ ⟨rq, rfl, rfl, hq⟩
                change J p l e (cRm 1 29 0 0) s m args below meth c G A 6 (JQ below G A (po_X0_computeFirstTrend G qD q a1 a2 a3 a4 a5 a6 a7 a8 a9 a10 oc fr tt wd P M R n qv qg qd v f1) args s 0 0) 0 0 122 [(4, .long (((v (t - fr)).toInt64) + ((v (t + fr)).toInt64))), (0, .ref qD), (1, .int (nI t)), (2, .long x)] [.long rq, .int (nI t), .ref a1] [oB 0 qD [.ref q, .ref a1, .ref a2, .ref a3, .ref a4, .ref a5, .ref a6, .ref a7, .ref a8, .ref a9, .ref a10, .long wd, .int (nI oc), .int (nI fr), .int (nI tt)], oB 2 q [.int (nI P), .int (nI M), .int (nI R), .int (nI n), .ref qv, .ref qg, .ref qd], aI G qv 72 v, aJ G a1 72 g1]
                have hq : rq = quo (x + (((v (t - fr)).toInt64) + ((v (t + fr)).toInt64))) (lN P) := hq
                refine J_goto F 148 (dcq dc_X0_computeFirstTrend_1 23 rfl) (by decide) ?_
                refine J_last F (ws2 := [oB 0 qD [.ref q, .ref a1, .ref a2, .ref a3, .ref a4, .ref a5, .ref a6, .ref a7, .ref a8, .ref a9, .ref a10, .long wd, .int (nI oc), .int (nI fr), .int (nI tt)], oB 2 q [.int (nI P), .int (nI M), .int (nI R), .int (nI n), .ref qv, .ref qg, .ref qd], aI G qv 72 v, aJ G a1 72 (vp_updL g1 t rq)]) 3 rfl (by omega) (Nat.le_of_ble_eq_true rfl) rfl (dcq dc_X0_computeFirstTrend_1 36 rfl) ?_
                refine J_iinc F (lv2 := [(1, .int (nI (t + 1))), (4, .long (((v (t - fr)).toInt64) + ((v (t + fr)).toInt64))), (0, .ref qD), (2, .long x)]) (v := nI (t + 1)) 2 (dcq dc_X0_computeFirstTrend_1 37 rfl) rfl (nI_inc _) (Nat.le_of_ble_eq_true rfl) rfl ?_
                refine J_goto F 5 (dcq dc_X0_computeFirstTrend_1 38 rfl) (by decide) ?_
                refine J_locs [2, 0] rfl ?_
                exact ih5 (t + 1) (vp_updL g1 t rq) (by omega) (by omega) (up_l iv (by unfold ft; first | rw [if_pos hodd, hq, hx, show i - (t - fr + 1) = 2 * fr - 1 by omega]; rfl | rw [if_neg hodd, hq, hx, show i - (t - fr + 1) = 2 * fr - 1 by omega]; rfl)) (by omega)
            · skip
              refine J_lload_n F 2 (dcq dc_X0_computeFirstTrend_0 22 rfl) rfl rfl ?_
              refine J_aload_n F 0 (dcq dc_X0_computeFirstTrend_0 23 rfl) rfl rfl ?_
              refine J_get F fcX0 0 0 rfl (Nat.le_of_ble_eq_true rfl) tw_1_86 rfl rfl (dcq dc_X0_computeFirstTrend_0 24 rfl) ?_
              refine J_get F fcX2 1 4 rfl (Nat.le_of_ble_eq_true rfl) tw_1_40 rfl rfl (dcq dc_X0_computeFirstTrend_0 25 rfl) ?_
              refine J_iload F 3 (dcq dc_X0_computeFirstTrend_0 26 rfl) rfl ?_
              refine J_iald F 2 rfl (by omega) (Nat.le_of_ble_eq_true rfl) (dcq dc_X0_computeFirstTrend_0 27 rfl) ?_
              refine J_i2l F (v := (v i).toInt64) (dcq dc_X0_computeFirstTrend_0 28 rfl) rfl ?_
              refine J_ladd F (v := x + ((v i).toInt64)) (dcq dc_X0_computeFirstTrend_0 29 rfl) rfl ?_
              refine J_lstore_n F (lv2 := [(2, .long (x + ((v i).toInt64))), (0, .ref qD), (1, .int (nI t)), (4, .int (nI i))]) (dcq dc_X0_computeFirstTrend_0 30 rfl) rfl (Nat.le_of_ble_eq_true rfl) rfl ?_
              refine J_iinc F (lv2 := [(4, .int (nI (i + 1))), (2, .long (x + ((v i).toInt64))), (0, .ref qD), (1, .int (nI t))]) (v := nI (i + 1)) 3 (dcq dc_X0_computeFirstTrend_0 31 rfl) rfl (nI_inc _) (Nat.le_of_ble_eq_true rfl) rfl ?_
              refine J_goto F 25 (dcq dc_X0_computeFirstTrend_0 32 rfl) (by decide) ?_
              refine J_locs [2, 3, 1, 0] rfl ?_
              exact ih25 (i + 1) (x + ((v i).toInt64)) (by omega) (by omega) (by rw [sm_step hi1, hx]; rfl) (by omega)
        refine J_locs [2, 3, 1, 0] rfl ?_
        exact L25 (t + fr - ((t - fr) + 1) + 1) ((t - fr) + 1) 0 (by omega) (by omega) (by rw [Nat.sub_self]; rfl) (Nat.lt_succ_self _)
  refine J_locs [1, 0] rfl ?_
  exact L5 (tt + 1 - fr + 1) fr f1 (by omega) (by omega) (fun j h1 h2 => absurd h2 (Nat.not_lt.mpr h1)) (Nat.lt_succ_self _)

abbrev po_X0_computeDeviations (G : Gt) (qD q a1 a2 a3 a4 a5 a6 a7 a8 a9 a10 oc fr tt : Nat) (wd : Int64) (P M R n qv qg qd : Nat) (v : Nat → Int32) (f1 : Nat → Int64) (f2 : Nat → Int64) : Option Value → va_W → Prop := fun (v9 : Option Value) (w9 : va_W) => ∃ (g2 : Nat → Int64), v9 = none ∧ w9 = [oB 0 qD [.ref q, .ref a1, .ref a2, .ref a3, .ref a4, .ref a5, .ref a6, .ref a7, .ref a8, .ref a9, .ref a10, .long wd, .int (nI oc), .int (nI fr), .int (nI tt)], oB 2 q [.int (nI P), .int (nI M), .int (nI R), .int (nI n), .ref qv, .ref qg, .ref qd], aI G qv 72 v, aJ G a1 72 f1, aJ G a2 72 g2] ∧ (∀ t, fr ≤ t → t ≤ tt → g2 t = dv P M fr v t)
set_option maxHeartbeats 4000000 in
set_option maxRecDepth 100000 in
theorem c_X0_computeDeviations (l : Launch) (hl : l.stackTraces = false) (G : Gt) (qD q a1 a2 a3 a4 a5 a6 a7 a8 a9 a10 oc fr tt : Nat) (wd : Int64) (P M R n qv qg qd : Nat) (v : Nat → Int32) (f1 : Nat → Int64) (f2 : Nat → Int64) (htt : tt < 72) (hft : fr ≤ tt) (hf1 : ∀ t, fr ≤ t → t ≤ tt → f1 t = ft P fr v t) (hM : M ≤ 1) : Con l G yX0_computeDeviations cX0_computeDeviations 2 none 1 29 0 0 [.ref qD] [oB 0 qD [.ref q, .ref a1, .ref a2, .ref a3, .ref a4, .ref a5, .ref a6, .ref a7, .ref a8, .ref a9, .ref a10, .long wd, .int (nI oc), .int (nI fr), .int (nI tt)], oB 2 q [.int (nI P), .int (nI M), .int (nI R), .int (nI n), .ref qv, .ref qg, .ref qd], aI G qv 72 v, aJ G a1 72 f1, aJ G a2 72 f2] (po_X0_computeDeviations G qD q a1 a2 a3 a4 a5 a6 a7 a8 a9 a10 oc fr tt wd P M R n qv qg qd v f1 f2) := by
  refine Con.of hl cd_X0_computeDeviations (Nat.le_of_ble_eq_true rfl) ?_
  intro p e s m args below meth c A F hin9
  change Fx p l s m args meth c G A "SeasonalAdjuster$Decomposition" cX0_computeDeviations 2 none at F
  change J p l e (cRm 1 29 0 0) s m args below meth c G A 2 (JQ below G A (po_X0_computeDeviations G qD q a1 a2 a3 a4 a5 a6 a7 a8 a9 a10 oc fr tt wd P M R n qv qg qd v f1 f2) args s 0 0) 0 0 0 [(0, .ref qD)] [] [oB 0 qD [.ref q, .ref a1, .ref a2, .ref a3, .ref a4, .ref a5, .ref a6, .ref a7, .ref a8, .ref a9, .ref a10, .long wd, .int (nI oc), .int (nI fr), .int (nI tt)], oB 2 q [.int (nI P), .int (nI M), .int (nI R), .int (nI n), .ref qv, .ref qg, .ref qd], aI G qv 72 v, aJ G a1 72 f1, aJ G a2 72 f2]
  refine J_aload_n F 0 (dcq dc_X0_computeDeviations_0 0 rfl) rfl rfl ?_
  refine J_get F fcX0 0 13 rfl (Nat.le_of_ble_eq_true rfl) tw_1_110 rfl rfl (dcq dc_X0_computeDeviations_0 1 rfl) ?_
  refine J_istore_n F (lv2 := [(1, .int (nI fr)), (0, .ref qD)]) (dcq dc_X0_computeDeviations_0 2 rfl) rfl (Nat.le_of_ble_eq_true rfl) rfl ?_
  have L5 : ∀ (fu5 : Nat), ∀ (t : Nat) (g2 : Nat → Int64), (fr ≤ t) → (t ≤ tt + 1) → (∀ j, fr ≤ j → j < t → g2 j = dv P M fr v j) → tt + 1 - t < fu5 → J p l e (cRm 1 29 0 0) s m args below meth c G A 2 (JQ below G A (po_X0_computeDeviations G qD q a1 a2 a3 a4 a5 a6 a7 a8 a9 a10 oc fr tt wd P M R n qv qg qd v f1 f2) args s 0 0) 0 0 5 [(0, .ref qD), (1, .int (nI t))] [] [oB 0 qD [.ref q, .ref a1, .ref a2, .ref a3, .ref a4, .ref a5, .ref a6, .ref a7, .ref a8, .ref a9, .ref a10, .long wd, .int (nI oc), .int (nI fr), .int (nI tt)], oB 2 q [.int (nI P), .int (nI M), .int (nI R), .int (nI n), .ref qv, .ref qg, .ref qd], aI G qv 72 v, aJ G a1 72 f1, aJ G a2 72 g2] := by
    intro fu5
    induction fu5 with
    | zero => intro t g2 ht1 ht2 iv hm5; exact absurd hm5 (Nat.not_lt_zero _)
    | succ fu5 ih5 =>
      intro t g2 ht1 ht2 iv hm5
      refine J_iload_n F 1 (dcq dc_X0_computeDeviations_0 3 rfl) rfl rfl ?_
      refine J_aload_n F 0 (dcq dc_X0_computeDeviations_0 4 rfl) rfl rfl ?_
      refine J_get F fcX0 0 14 rfl (Nat.le_of_ble_eq_true rfl) tw_1_112 rfl rfl (dcq dc_X0_computeDeviations_0 5 rfl) ?_
      refine J_ncmp_gt F 78 (by omega) (by omega) (dcq dc_X0_computeDeviations_0 6 rfl) (by decide) (fun h_1 => ?_) (fun h_1 => ?_)
      · skip
        exact J_vret F ⟨g2, rfl, rfl, fun j h1 h2 => iv j h1 (by omega)⟩ (Nat.le_of_ble_eq_true rfl) (Nat.le_of_ble_eq_true rfl) (dcq dc_X0_computeDeviations_0 42 rfl)
      · skip
        refine J_aload_n F 0 (dcq dc_X0_computeDeviations_0 7 rfl) rfl rfl ?_
        refine J_get F fcX0 0 2 rfl (Nat.le_of_ble_eq_true rfl) tw_1_89 rfl rfl (dcq dc_X0_computeDeviations_0 8 rfl) ?_
        refine J_iload_n F 1 (dcq dc_X0_computeDeviations_0 9 rfl) rfl rfl ?_
        refine J_aload_n F 0 (dcq dc_X0_computeDeviations_0 10 rfl) rfl rfl ?_
        refine J_get F fcX0 0 0 rfl (Nat.le_of_ble_eq_true rfl) tw_1_86 rfl rfl (dcq dc_X0_computeDeviations_0 11 rfl) ?_
        refine J_get F fcX2 1 1 rfl (Nat.le_of_ble_eq_true rfl) tw_1_32 rfl rfl (dcq dc_X0_computeDeviations_0 12 rfl) ?_
        refine J_nif_ne F 48 (by omega) (dcq dc_X0_computeDeviations_0 13 rfl) (by decide) (fun h_2 => ?_) (fun h_2 => ?_)
        · skip
          have hm := h_2
          refine J_ldc2 F (v2 := (10000)) tw_2_34 rfl (dcq dc_X0_computeDeviations_0 26 rfl) ?_
          refine J_aload_n F 0 (dcq dc_X0_computeDeviations_0 27 rfl) rfl rfl ?_
          refine J_get F fcX0 0 0 rfl (Nat.le_of_ble_eq_true rfl) tw_1_86 rfl rfl (dcq dc_X0_computeDeviations_0 28 rfl) ?_
          refine J_get F fcX2 1 4 rfl (Nat.le_of_ble_eq_true rfl) tw_1_40 rfl rfl (dcq dc_X0_computeDeviations_0 29 rfl) ?_
          refine J_iload_n F 1 (dcq dc_X0_computeDeviations_0 30 rfl) rfl rfl ?_
          refine J_iald F 2 rfl (by omega) (Nat.le_of_ble_eq_true rfl) (dcq dc_X0_computeDeviations_0 31 rfl) ?_
          refine J_i2l F (v := (v t).toInt64) (dcq dc_X0_computeDeviations_0 32 rfl) rfl ?_
          refine J_lmul F (v := 10000 * ((v t).toInt64)) (dcq dc_X0_computeDeviations_0 33 rfl) rfl ?_
          refine J_aload_n F 0 (dcq dc_X0_computeDeviations_0 34 rfl) rfl rfl ?_
          refine J_get F fcX0 0 1 rfl (Nat.le_of_ble_eq_true rfl) tw_1_87 rfl rfl (dcq dc_X0_computeDeviations_0 35 rfl) ?_
          refine J_iload_n F 1 (dcq dc_X0_computeDeviations_0 36 rfl) rfl rfl ?_
          refine J_lald F 3 rfl (by omega) (Nat.le_of_ble_eq_true rfl) (dcq dc_X0_computeDeviations_0 37 rfl) ?_
          refine J_callSN F (wc := []) (wr := [oB 0 qD [.ref q, .ref a1, .ref a2, .ref a3, .ref a4, .ref a5, .ref a6, .ref a7, .ref a8, .ref a9, .ref a10, .long wd, .int (nI oc), .int (nI fr), .int (nI tt)], oB 2 q [.int (nI P), .int (nI M), .int (nI R), .int (nI n), .ref qv, .ref qg, .ref qd], aI G qv 72 v, aJ G a1 72 f1, aJ G a2 72 g2]) (rest := [.int (nI t), .ref a2]) (c_X3_quotient l hl G (10000 * ((v t).toInt64)) (f1 t)) cd_X3_quotient tw_2_27 nt_Decomposition_112 [] [0, 1, 2, 3, 4] rfl rfl rfl rfl (by decide) rfl ⟨(Nat.le_of_ble_eq_true rfl), (Nat.le_of_ble_eq_true rfl), (Nat.le_of_ble_eq_true rfl), (Nat.le_of_ble_eq_true rfl)⟩ (Nat.le_of_ble_eq_true rfl) rfl (dcq dc_X0_computeDeviations_0 38 rfl) ?_
          rintro _ _ ⟨rq, rfl, rfl, hq⟩
          change J p l e (cRm 1 29 0 0) s m args below meth c G A 2 (JQ below G A (po_X0_computeDeviations G qD q a1 a2 a3 a4 a5 a6 a7 a8 a9 a10 oc fr tt wd P M R n qv qg qd v f1 f2) args s 0 0) 0 0 71 [(0, .ref qD), (1, .int (nI t))] [.long rq, .int (nI t), .ref a2] [oB 0 qD [.ref q, .ref a1, .ref a2, .ref a3, .ref a4, .ref a5, .ref a6, .ref a7, .ref a8, .ref a9, .ref a10, .long wd, .int (nI oc), .int (nI fr), .int (nI tt)], oB 2 q [.int (nI P), .int (nI M), .int (nI R), .int (nI n), .ref qv, .ref qg, .ref qd], aI G qv 72 v, aJ G a1 72 f1, aJ G a2 72 g2]
          have hq : rq = quo (10000 * ((v t).toInt64)) (f1 t) := hq
          refine J_last F (ws2 := [oB 0 qD [.ref q, .ref a1, .ref a2, .ref a3, .ref a4, .ref a5, .ref a6, .ref a7, .ref a8, .ref a9, .ref a10, .long wd, .int (nI oc), .int (nI fr), .int (nI tt)], oB 2 q [.int (nI P), .int (nI M), .int (nI R), .int (nI n), .ref qv, .ref qg, .ref qd], aI G qv 72 v, aJ G a1 72 f1, aJ G a2 72 (vp_updL g2 t rq)]) 4 rfl (by omega) (Nat.le_of_ble_eq_true rfl) rfl (dcq dc_X0_computeDeviations_0 39 rfl) ?_
          refine J_iinc F (lv2 := [(1, .int (nI (t + 1))), (0, .ref qD)]) (v := nI (t + 1)) 1 (dcq dc_X0_computeDeviations_0 40 rfl) rfl (nI_inc _) (Nat.le_of_ble_eq_true rfl) rfl ?_
          refine J_goto F 5 (dcq dc_X0_computeDeviations_0 41 rfl) (by decide) ?_
          refine J_locs [1, 0] rfl ?_
          exact ih5 (t + 1) (vp_updL g2 t rq) (by omega) (by omega) (up_l iv (by unfold dv; first | rw [if_pos hm, hf1 t (by omega) (by omega)]; rfl | rw [if_neg (by omega), hq, hf1 t (by omega) (by omega)]; rfl)) (by omega)
        · skip
          have hm := h_2
          refine J_aload_n F 0 (dcq dc_X0_computeDeviations_0 14 rfl) rfl rfl ?_
          refine J_get F fcX0 0 0 rfl (Nat.le_of_ble_eq_true rfl) tw_1_86 rfl rfl (dcq dc_X0_computeDeviations_0 15 rfl) ?_
          refine J_get F fcX2 1 4 rfl (Nat.le_of_ble_eq_true rfl) tw_1_40 rfl rfl (dcq dc_X0_computeDeviations_0 16 rfl) ?_
          refine J_iload_n F 1 (dcq dc_X0_computeDeviations_0 17 rfl) rfl rfl ?_
          refine J_iald F 2 rfl (by omega) (Nat.le_of_ble_eq_true rfl) (dcq dc_X0_computeDeviations_0 18 rfl) ?_
          refine J_i2l F (v := (v t).toInt64) (dcq dc_X0_computeDeviations_0 19 rfl) rfl ?_
          refine J_aload_n F 0 (dcq dc_X0_computeDeviations_0 20 rfl) rfl rfl ?_
          refine J_get F fcX0 0 1 rfl (Nat.le_of_ble_eq_true rfl) tw_1_87 rfl rfl (dcq dc_X0_computeDeviations_0 21 rfl) ?_
          refine J_iload_n F 1 (dcq dc_X0_computeDeviations_0 22 rfl) rfl rfl ?_
          refine J_lald F 3 rfl (by omega) (Nat.le_of_ble_eq_true rfl) (dcq dc_X0_computeDeviations_0 23 rfl) ?_
          refine J_lsub F (v := ((v t).toInt64) - (f1 t)) (dcq dc_X0_computeDeviations_0 24 rfl) rfl ?_
          refine J_goto F 71 (dcq dc_X0_computeDeviations_0 25 rfl) (by decide) ?_
          refine J_last F (ws2 := [oB 0 qD [.ref q, .ref a1, .ref a2, .ref a3, .ref a4, .ref a5, .ref a6, .ref a7, .ref a8, .ref a9, .ref a10, .long wd, .int (nI oc), .int (nI fr), .int (nI tt)], oB 2 q [.int (nI P), .int (nI M), .int (nI R), .int (nI n), .ref qv, .ref qg, .ref qd], aI G qv 72 v, aJ G a1 72 f1, aJ G a2 72 (vp_updL g2 t (((v t).toInt64) - (f1 t)))]) 4 rfl (by omega) (Nat.le_of_ble_eq_true rfl) rfl (dcq dc_X0_computeDeviations_0 39 rfl) ?_
          refine J_iinc F (lv2 := [(1, .int (nI (t + 1))), (0, .ref qD)]) (v := nI (t + 1)) 1 (dcq dc_X0_computeDeviations_0 40 rfl) rfl (nI_inc _) (Nat.le_of_ble_eq_true rfl) rfl ?_
          refine J_goto F 5 (dcq dc_X0_computeDeviations_0 41 rfl) (by decide) ?_
          refine J_locs [1, 0] rfl ?_
          exact ih5 (t + 1) (vp_updL g2 t (((v t).toInt64) - (f1 t))) (by omega) (by omega) (up_l iv (by unfold dv; first | rw [if_pos hm, hf1 t (by omega) (by omega)]; rfl | rw [if_neg (by omega), hq, hf1 t (by omega) (by omega)]; rfl)) (by omega)
  refine J_locs [1, 0] rfl ?_
  exact L5 (tt + 1 - fr + 1) fr f2 (by omega) (by omega) (fun j h1 h2 => absurd h2 (Nat.not_lt.mpr h1)) (Nat.lt_succ_self _)

abbrev po_X0_giveFullWeights (G : Gt) (qD q a1 a2 a3 a4 a5 a6 a7 a8 a9 a10 oc fr tt : Nat) (wd : Int64) (f3 : Nat → Int32) : Option Value → va_W → Prop := fun (v9 : Option Value) (w9 : va_W) => ∃ (g3 : Nat → Int32), v9 = none ∧ w9 = [oB 0 qD [.ref q, .ref a1, .ref a2, .ref a3, .ref a4, .ref a5, .ref a6, .ref a7, .ref a8, .ref a9, .ref a10, .long wd, .int (nI oc), .int (nI fr), .int (nI tt)], aI G a3 72 g3] ∧ (∀ t, fr ≤ t → t ≤ tt → g3 t = nI 100)
set_option maxHeartbeats 4000000 in
set_option maxRecDepth 100000 in
theorem c_X0_giveFullWeights (l : Launch) (hl : l.stackTraces = false) (G : Gt) (qD q a1 a2 a3 a4 a5 a6 a7 a8 a9 a10 oc fr tt : Nat) (wd : Int64) (f3 : Nat → Int32) (htt : tt < 72) (hft : fr ≤ tt) : Con l G yX0_giveFullWeights cX0_giveFullWeights 2 none 0 0 0 0 [.ref qD] [oB 0 qD [.ref q, .ref a1, .ref a2, .ref a3, .ref a4, .ref a5, .ref a6, .ref a7, .ref a8, .ref a9, .ref a10, .long wd, .int (nI oc), .int (nI fr), .int (nI tt)], aI G a3 72 f3] (po_X0_giveFullWeights G qD q a1 a2 a3 a4 a5 a6 a7 a8 a9 a10 oc fr tt wd f3) := by
  refine Con.of hl cd_X0_giveFullWeights (Nat.le_of_ble_eq_true rfl) ?_
  intro p e s m args below meth c A F hin9
  change Fx p l s m args meth c G A "SeasonalAdjuster$Decomposition" cX0_giveFullWeights 2 none at F
  change J p l e (cRm 0 0 0 0) s m args below meth c G A 2 (JQ below G A (po_X0_giveFullWeights G qD q a1 a2 a3 a4 a5 a6 a7 a8 a9 a10 oc fr tt wd f3) args s 0 0) 0 0 0 [(0, .ref qD)] [] [oB 0 qD [.ref q, .ref a1, .ref a2, .ref a3, .ref a4, .ref a5, .ref a6, .ref a7, .ref a8, .ref a9, .ref a10, .long wd, .int (nI oc), .int (nI fr), .int (nI tt)], aI G a3 72 f3]
  refine J_aload_n F 0 (dcq dc_X0_giveFullWeights_0 0 rfl) rfl rfl ?_
  refine J_get F fcX0 0 13 rfl (Nat.le_of_ble_eq_true rfl) tw_1_110 rfl rfl (dcq dc_X0_giveFullWeights_0 1 rfl) ?_
  refine J_istore_n F (lv2 := [(1, .int (nI fr)), (0, .ref qD)]) (dcq dc_X0_giveFullWeights_0 2 rfl) rfl (Nat.le_of_ble_eq_true rfl) rfl ?_
  have L5 : ∀ (fu5 : Nat), ∀ (t : Nat) (g3 : Nat → Int32), (fr ≤ t) → (t ≤ tt + 1) → (∀ j, fr ≤ j → j < t → g3 j = nI 100) → tt + 1 - t < fu5 → J p l e (cRm 0 0 0 0) s m args below meth c G A 2 (JQ below G A (po_X0_giveFullWeights G qD q a1 a2 a3 a4 a5 a6 a7 a8 a9 a10 oc fr tt wd f3) args s 0 0) 0 0 5 [(0, .ref qD), (1, .int (nI t))] [] [oB 0 qD [.ref q, .ref a1, .ref a2, .ref a3, .ref a4, .ref a5, .ref a6, .ref a7, .ref a8, .ref a9, .ref a10, .long wd, .int (nI oc), .int (nI fr), .int (nI tt)], aI G a3 72 g3] := by
    intro fu5
    induction fu5 with
    | zero => intro t g3 ht1 ht2 iv hm5; exact absurd hm5 (Nat.not_lt_zero _)
    | succ fu5 ih5 =>
      intro t g3 ht1 ht2 iv hm5
      refine J_iload_n F 1 (dcq dc_X0_giveFullWeights_0 3 rfl) rfl rfl ?_
      refine J_aload_n F 0 (dcq dc_X0_giveFullWeights_0 4 rfl) rfl rfl ?_
      refine J_get F fcX0 0 14 rfl (Nat.le_of_ble_eq_true rfl) tw_1_112 rfl rfl (dcq dc_X0_giveFullWeights_0 5 rfl) ?_
      refine J_ncmp_gt F 27 (by omega) (by omega) (dcq dc_X0_giveFullWeights_0 6 rfl) (by decide) (fun h_1 => ?_) (fun h_1 => ?_)
      · skip
        exact J_vret F ⟨g3, rfl, rfl, fun j h1 h2 => iv j h1 (by omega)⟩ (Nat.le_of_ble_eq_true rfl) (Nat.le_of_ble_eq_true rfl) (dcq dc_X0_giveFullWeights_0 14 rfl)
      · skip
        refine J_aload_n F 0 (dcq dc_X0_giveFullWeights_0 7 rfl) rfl rfl ?_
        refine J_get F fcX0 0 3 rfl (Nat.le_of_ble_eq_true rfl) tw_1_91 rfl rfl (dcq dc_X0_giveFullWeights_0 8 rfl) ?_
        refine J_iload_n F 1 (dcq dc_X0_giveFullWeights_0 9 rfl) rfl rfl ?_
        refine J_bipush F (dcq dc_X0_giveFullWeights_0 10 rfl) bc_100 ?_
        refine J_iast F (ws2 := [oB 0 qD [.ref q, .ref a1, .ref a2, .ref a3, .ref a4, .ref a5, .ref a6, .ref a7, .ref a8, .ref a9, .ref a10, .long wd, .int (nI oc), .int (nI fr), .int (nI tt)], aI G a3 72 (upd g3 t (nI 100))]) 1 rfl (by omega) (Nat.le_of_ble_eq_true rfl) rfl (dcq dc_X0_giveFullWeights_0 11 rfl) ?_
        refine J_iinc F (lv2 := [(1, .int (nI (t + 1))), (0, .ref qD)]) (v := nI (t + 1)) 1 (dcq dc_X0_giveFullWeights_0 12 rfl) rfl (nI_inc _) (Nat.le_of_ble_eq_true rfl) rfl ?_
        refine J_goto F 5 (dcq dc_X0_giveFullWeights_0 13 rfl) (by decide) ?_
        refine J_locs [1, 0] rfl ?_
        exact ih5 (t + 1) (upd g3 t (nI 100)) (by omega) (by omega) (up_i (s := fun _ => nI 100) iv rfl) (by omega)
  refine J_locs [1, 0] rfl ?_
  exact L5 (tt + 1 - fr + 1) fr f3 (by omega) (by omega) (fun j h1 h2 => absurd h2 (Nat.not_lt.mpr h1)) (Nat.lt_succ_self _)

abbrev po_X0_rawFactor (G : Gt) (qD q a1 a2 a3 a4 a5 a6 a7 a8 a9 a10 oc fr tt : Nat) (wd : Int64) (P M R n qv qg qd : Nat) (v : Nat → Int32) (f2 : Nat → Int64) (f3 : Nat → Int32) (sn : Nat) : Option Value → va_W → Prop := fun (v9 : Option Value) (w9 : va_W) => ∃ (r : Int64), v9 = some (.long r) ∧ w9 = [oB 0 qD [.ref q, .ref a1, .ref a2, .ref a3, .ref a4, .ref a5, .ref a6, .ref a7, .ref a8, .ref a9, .ref a10, .long wd, .int (nI oc), .int (nI fr), .int (nI tt)], oB 2 q [.int (nI P), .int (nI M), .int (nI R), .int (nI n), .ref qv, .ref qg, .ref qd], aJ G a2 72 f2, aI G a3 72 f3] ∧ (r = raw P M fr n v f3 sn)
set_option maxHeartbeats 4000000 in
set_option maxRecDepth 100000 in
theorem c_X0_rawFactor (l : Launch) (hl : l.stackTraces = false) (G : Gt) (qD q a1 a2 a3 a4 a5 a6 a7 a8 a9 a10 oc fr tt : Nat) (wd : Int64) (P M R n qv qg qd : Nat) (v : Nat → Int32) (f2 : Nat → Int64) (f3 : Nat → Int32) (sn : Nat) (hn : n ≤ 72) (hP : 2 ≤ P) (hP12 : P ≤ 12) (hfr : fr = P / 2) (htt : tt + fr + 1 = n) (hPn : P + 2 * fr ≤ n) (hdv : ∀ t, fr ≤ t → t ≤ tt → f2 t = dv P M fr v t) (hs : sn < P) : Con l G yX0_rawFactor cX0_rawFactor 11 (some .long) 1 29 0 0 [.ref qD, .int (nI sn)] [oB 0 qD [.ref q, .ref a1, .ref a2, .ref a3, .ref a4, .ref a5, .ref a6, .ref a7, .ref a8, .ref a9, .ref a10, .long wd, .int (nI oc), .int (nI fr), .int (nI tt)], oB 2 q [.int (nI P), .int (nI M), .int (nI R), .int (nI n), .ref qv, .ref qg, .ref qd], aJ G a2 72 f2, aI G a3 72 f3] (po_X0_rawFactor G qD q a1 a2 a3 a4 a5 a6 a7 a8 a9 a10 oc fr tt wd P M R n qv qg qd v f2 f3 sn) := by
  refine Con.of hl cd_X0_rawFactor (Nat.le_of_ble_eq_true rfl) ?_
  intro p e s m args below meth c A F hin9
  change Fx p l s m args meth c G A "SeasonalAdjuster$Decomposition" cX0_rawFactor 11 (some .long) at F
  change J p l e (cRm 1 29 0 0) s m args below meth c G A 11 (JQ below G A (po_X0_rawFactor G qD q a1 a2 a3 a4 a5 a6 a7 a8 a9 a10 oc fr tt wd P M R n qv qg qd v f2 f3 sn) args s 0 0) 0 0 0 [(0, .ref qD), (1, .int (nI sn))] [] [oB 0 qD [.ref q, .ref a1, .ref a2, .ref a3, .ref a4, .ref a5, .ref a6, .ref a7, .ref a8, .ref a9, .ref a10, .long wd, .int (nI oc), .int (nI fr), .int (nI tt)], oB 2 q [.int (nI P), .int (nI M), .int (nI R), .int (nI n), .ref qv, .ref qg, .ref qd], aJ G a2 72 f2, aI G a3 72 f3]
  refine J_lconst F (dcq dc_X0_rawFactor_0 0 rfl) lc_0 ?_
  refine J_lstore_n F (lv2 := [(2, .long 0), (0, .ref qD), (1, .int (nI sn))]) (dcq dc_X0_rawFactor_0 1 rfl) rfl (Nat.le_of_ble_eq_true rfl) rfl ?_
  refine J_lconst F (dcq dc_X0_rawFactor_0 2 rfl) lc_0 ?_
  refine J_lstore F (lv2 := [(4, .long 0), (2, .long 0), (0, .ref qD), (1, .int (nI sn))]) (dcq dc_X0_rawFactor_0 3 rfl) (Nat.le_of_ble_eq_true rfl) rfl ?_
  refine J_lconst F (dcq dc_X0_rawFactor_0 4 rfl) lc_0 ?_
  refine J_lstore F (lv2 := [(6, .long 0), (4, .long 0), (2, .long 0), (0, .ref qD), (1, .int (nI sn))]) (dcq dc_X0_rawFactor_0 5 rfl) (Nat.le_of_ble_eq_true rfl) rfl ?_
  refine J_lconst F (dcq dc_X0_rawFactor_0 6 rfl) lc_0 ?_
  refine J_lstore F (lv2 := [(8, .long 0), (6, .long 0), (4, .long 0), (2, .long 0), (0, .ref qD), (1, .int (nI sn))]) (dcq dc_X0_rawFactor_0 7 rfl) (Nat.le_of_ble_eq_true rfl) rfl ?_
  refine J_aload_n F 4 (dcq dc_X0_rawFactor_0 8 rfl) rfl rfl ?_
  refine J_get F fcX0 0 13 rfl (Nat.le_of_ble_eq_true rfl) tw_1_110 rfl rfl (dcq dc_X0_rawFactor_0 9 rfl) ?_
  refine J_istore F (lv2 := [(10, .int (nI fr)), (8, .long 0), (6, .long 0), (4, .long 0), (2, .long 0), (0, .ref qD), (1, .int (nI sn))]) (dcq dc_X0_rawFactor_0 10 rfl) (Nat.le_of_ble_eq_true rfl) rfl ?_
  have L17 : ∀ (fu17 : Nat), ∀ (t : Nat) (xw xp xs xc : Int64), (fr ≤ t) → (t ≤ tt + 1) → (xw = sif P sn (fun j => xv f3 j * dv P M fr v j) fr (t - fr)) → (xp = sif P sn (dv P M fr v) fr (t - fr)) → (xs = sif P sn (xv f3) fr (t - fr)) → (xc = lN (nif P sn fr (t - fr))) → tt + 1 - t < fu17 → J p l e (cRm 1 29 0 0) s m args below meth c G A 11 (JQ below G A (po_X0_rawFactor G qD q a1 a2 a3 a4 a5 a6 a7 a8 a9 a10 oc fr tt wd P M R n qv qg qd v f2 f3 sn) args s 0 0) 0 0 17 [(0, .ref qD), (1, .int (nI sn)), (2, .long xw), (4, .long xp), (6, .long xs), (8, .long xc), (10, .int (nI t))] [] [oB 0 qD [.ref q, .ref a1, .ref a2, .ref a3, .ref a4, .ref a5, .ref a6, .ref a7, .ref a8, .ref a9, .ref a10, .long wd, .int (nI oc), .int (nI fr), .int (nI tt)], oB 2 q [.int (nI P), .int (nI M), .int (nI R), .int (nI n), .ref qv, .ref qg, .ref qd], aJ G a2 72 f2, aI G a3 72 f3] := by
    intro fu17
    induction fu17 with
    | zero => intro t xw xp xs xc ht1 ht2 iw ip is9 ic hm17; exact absurd hm17 (Nat.not_lt_zero _)
    | succ fu17 ih17 =>
      intro t xw xp xs xc ht1 ht2 iw ip is9 ic hm17
      refine J_iload F 6 (dcq dc_X0_rawFactor_0 11 rfl) rfl ?_
      refine J_aload_n F 0 (dcq dc_X0_rawFactor_0 12 rfl) rfl rfl ?_
      refine J_get F fcX0 0 14 rfl (Nat.le_of_ble_eq_true rfl) tw_1_112 rfl rfl (dcq dc_X0_rawFactor_0 13 rfl) ?_
      refine J_ncmp_gt F 95 (by omega) (by omega) (dcq dc_X0_rawFactor_0 14 rfl) (by decide) (fun h_1 => ?_) (fun h_1 => ?_)
      · skip
        have e9 : t - fr = n - 2 * fr := by omega
        rw [e9] at iw ip is9 ic
        refine J_lload F 4 (dcq dc_X0_rawFactor_1 7 rfl) rfl ?_
        refine J_lconst F (dcq dc_X0_rawFactor_1 8 rfl) lc_0 ?_
        refine J_lcmp_ne F 112 (dcq dc_X0_rawFactor_1 9 rfl) (dcq dc_X0_rawFactor_1 10 rfl) (by decide) (fun h_2 => ?_) (fun h_2 => ?_)
        · skip
          have hz := h_2
          refine J_lload_n F 2 (dcq dc_X0_rawFactor_1 15 rfl) rfl rfl ?_
          refine J_lload F 4 (dcq dc_X0_rawFactor_1 16 rfl) rfl ?_
          refine J_callSN F (wc := []) (wr := [oB 0 qD [.ref q, .ref a1, .ref a2, .ref a3, .ref a4, .ref a5, .ref a6, .ref a7, .ref a8, .ref a9, .ref a10, .long wd, .int (nI oc), .int (nI fr), .int (nI tt)], oB 2 q [.int (nI P), .int (nI M), .int (nI R), .int (nI n), .ref qv, .ref qg, .ref qd], aJ G a2 72 f2, aI G a3 72 f3]) (rest := []) (c_X3_quotient l hl G xw xs) cd_X3_quotient tw_2_27 nt_Decomposition_112 [] [0, 1, 2, 3] rfl rfl rfl rfl (by decide) rfl ⟨(Nat.le_of_ble_eq_true rfl), (Nat.le_of_ble_eq_true rfl), (Nat.le_of_ble_eq_true rfl), (Nat.le_of_ble_eq_true rfl)⟩ (Nat.le_of_ble_eq_true rfl) rfl (dcq dc_X0_rawFactor_1 17 rfl) ?_
          rintro _ _ ⟨rq, rfl, rfl, hq⟩
          change J p l e (cRm 1 29 0 0) s m args below meth c G A 11 (JQ below G A (po_X0_rawFactor G qD q a1 a2 a3 a4 a5 a6 a7 a8 a9 a10 oc fr tt wd P M R n qv qg qd v f2 f3 sn) args s 0 0) 0 0 118 [(0, .ref qD), (1, .int (nI sn)), (2, .long xw), (4, .long xp), (6, .long xs), (8, .long xc), (10, .int (nI t))] [.long rq] [oB 0 qD [.ref q, .ref a1, .ref a2, .ref a3, .ref a4, .ref a5, .ref a6, .ref a7, .ref a8, .ref a9, .ref a10, .long wd, .int (nI oc), .int (nI fr), .int (nI tt)], oB 2 q [.int (nI P), .int (nI M), .int (nI R), .int (nI n), .ref qv, .ref qg, .ref qd], aJ G a2 72 f2, aI G a3 72 f3]
          have hq : rq = quo xw xs := hq
          exact J_lret F ⟨rq, rfl, rfl, by unfold raw; first | rw [if_pos (is9.symm.trans hz), hq, ip, ic] | rw [if_neg (fun z => hz (is9.trans z)), hq, iw, is9]⟩ (Nat.le_of_ble_eq_true rfl) (Nat.le_of_ble_eq_true rfl) (dcq dc_X0_rawFactor_1 18 rfl)
        · skip
          have hz := h_2
          refine J_lload F 3 (dcq dc_X0_rawFactor_1 11 rfl) rfl ?_
          refine J_lload F 5 (dcq dc_X0_rawFactor_1 12 rfl) rfl ?_
          refine J_callSN F (wc := []) (wr := [oB 0 qD [.ref q, .ref a1, .ref a2, .ref a3, .ref a4, .ref a5, .ref a6, .ref a7, .ref a8, .ref a9, .ref a10, .long wd, .int (nI oc), .int (nI fr), .int (nI tt)], oB 2 q [.int (nI P), .int (nI M), .int (nI R), .int (nI n), .ref qv, .ref qg, .ref qd], aJ G a2 72 f2, aI G a3 72 f3]) (rest := []) (c_X3_quotient l hl G xp xc) cd_X3_quotient tw_2_27 nt_Decomposition_112 [] [0, 1, 2, 3] rfl rfl rfl rfl (by decide) rfl ⟨(Nat.le_of_ble_eq_true rfl), (Nat.le_of_ble_eq_true rfl), (Nat.le_of_ble_eq_true rfl), (Nat.le_of_ble_eq_true rfl)⟩ (Nat.le_of_ble_eq_true rfl) rfl (dcq dc_X0_rawFactor_1 13 rfl) ?_
          rintro _ _ ⟨rq, rfl, rfl, hq⟩
          change J p l e (cRm 1 29 0 0) s m args below meth c G A 11 (JQ below G A (po_X0_rawFactor G qD q a1 a2 a3 a4 a5 a6 a7 a8 a9 a10 oc fr tt wd P M R n qv qg qd v f2 f3 sn) args s 0 0) 0 0 109 [(0, .ref qD), (1, .int (nI sn)), (2, .long xw), (4, .long xp), (6, .long xs), (8, .long xc), (10, .int (nI t))] [.long rq] [oB 0 qD [.ref q, .ref a1, .ref a2, .ref a3, .ref a4, .ref a5, .ref a6, .ref a7, .ref a8, .ref a9, .ref a10, .long wd, .int (nI oc), .int (nI fr), .int (nI tt)], oB 2 q [.int (nI P), .int (nI M), .int (nI R), .int (nI n), .ref qv, .ref qg, .ref qd], aJ G a2 72 f2, aI G a3 72 f3]
          have hq : rq = quo xp xc := hq
          refine J_goto F 118 (dcq dc_X0_rawFactor_1 14 rfl) (by decide) ?_
          exact J_lret F ⟨rq, rfl, rfl, by unfold raw; first | rw [if_pos (is9.symm.trans hz), hq, ip, ic] | rw [if_neg (fun z => hz (is9.trans z)), hq, iw, is9]⟩ (Nat.le_of_ble_eq_true rfl) (Nat.le_of_ble_eq_true rfl) (dcq dc_X0_rawFactor_1 18 rfl)
      · skip
        refine J_aload_n F 0 (dcq dc_X0_rawFactor_0 15 rfl) rfl rfl ?_
        refine J_get F fcX0 0 0 rfl (Nat.le_of_ble_eq_true rfl) tw_1_86 rfl rfl (dcq dc_X0_rawFactor_0 16 rfl) ?_
        refine J_iload F 6 (dcq dc_X0_rawFactor_0 17 rfl) rfl ?_
        refine J_callV F (wc := [oB 2 q [.int (nI P), .int (nI M), .int (nI R), .int (nI n), .ref qv, .ref qg, .ref qd]]) (wr := [oB 0 qD [.ref q, .ref a1, .ref a2, .ref a3, .ref a4, .ref a5, .ref a6, .ref a7, .ref a8, .ref a9, .ref a10, .long wd, .int (nI oc), .int (nI fr), .int (nI tt)], aJ G a2 72 f2, aI G a3 72 f3]) (rest := []) (qc := 0) (c_X2_seasonOf l hl G q qv qg qd P M R n t (by first | assumption | omega) (by first | assumption | omega) (by first | assumption | omega)) cd_X2_seasonOf cv_X2_seasonOf rfl rfl rfl tw_2_47 [1] [0, 2, 3] rfl rfl rfl rfl (by decide) rfl ⟨(Nat.le_of_ble_eq_true rfl), (Nat.le_of_ble_eq_true rfl), (Nat.le_of_ble_eq_true rfl), (Nat.le_of_ble_eq_true rfl)⟩ (Nat.le_of_ble_eq_true rfl) rfl (dcq dc_X0_rawFactor_0 18 rfl) ?_
        rintro _ _ ⟨rfl, rfl⟩
        change J p l e (cRm 1 29 0 0) s m args below meth c G A 11 (JQ below G A (po_X0_rawFactor G qD q a1 a2 a3 a4 a5 a6 a7 a8 a9 a10 oc fr tt wd P M R n qv qg qd v f2 f3 sn) args s 0 0) 0 0 35 [(0, .ref qD), (1, .int (nI sn)), (2, .long xw), (4, .long xp), (6, .long xs), (8, .long xc), (10, .int (nI t))] [.int (nI (t % P))] [oB 0 qD [.ref q, .ref a1, .ref a2, .ref a3, .ref a4, .ref a5, .ref a6, .ref a7, .ref a8, .ref a9, .ref a10, .long wd, .int (nI oc), .int (nI fr), .int (nI tt)], aJ G a2 72 f2, aI G a3 72 f3, oB 2 q [.int (nI P), .int (nI M), .int (nI R), .int (nI n), .ref qv, .ref qg, .ref qd]]
        refine J_world (ws2 := [oB 0 qD [.ref q, .ref a1, .ref a2, .ref a3, .ref a4, .ref a5, .ref a6, .ref a7, .ref a8, .ref a9, .ref a10, .long wd, .int (nI oc), .int (nI fr), .int (nI tt)], oB 2 q [.int (nI P), .int (nI M), .int (nI R), .int (nI n), .ref qv, .ref qg, .ref qd], aJ G a2 72 f2, aI G a3 72 f3]) [0, 3, 1, 2] rfl rfl ?_
        refine J_iload_n F 1 (dcq dc_X0_rawFactor_0 19 rfl) rfl rfl ?_
        refine J_ncmp_ne F 89 (by have := Nat.mod_lt t (show 0 < P by omega); omega) (by have := Nat.mod_lt t (show 0 < P by omega); omega) (dcq dc_X0_rawFactor_0 20 rfl) (by decide) (fun h_3 => ?_) (fun h_3 => ?_)
        · skip
          have hse := h_3
          refine J_iinc F (lv2 := [(10, .int (nI (t + 1))), (0, .ref qD), (1, .int (nI sn)), (2, .long xw), (4, .long xp), (6, .long xs), (8, .long xc)]) (v := nI (t + 1)) 6 (dcq dc_X0_rawFactor_1 5 rfl) rfl (nI_inc _) (Nat.le_of_ble_eq_true rfl) rfl ?_
          refine J_goto F 17 (dcq dc_X0_rawFactor_1 6 rfl) (by decide) ?_
          refine J_locs [1, 2, 3, 4, 5, 6, 0] rfl ?_
          exact ih17 (t + 1) xw xp xs xc (by omega) (by omega) (by rw [sif_step ht1]; first | rw [if_pos hse, iw, hdv t (by omega) (by omega)]; rfl | rw [if_neg hse, iw]) (by rw [sif_step ht1]; first | rw [if_pos hse, ip, hdv t (by omega) (by omega)] | rw [if_neg hse, ip]) (by rw [sif_step ht1]; first | rw [if_pos hse, is9]; rfl | rw [if_neg hse, is9]) (by rw [nif_step ht1]; first | rw [if_pos hse, ic]; exact lN_1 _ | rw [if_neg hse, ic]) (by omega)
        · skip
          have hse := h_3
          refine J_lload_n F 2 (dcq dc_X0_rawFactor_0 21 rfl) rfl rfl ?_
          refine J_aload_n F 0 (dcq dc_X0_rawFactor_0 22 rfl) rfl rfl ?_
          refine J_get F fcX0 0 3 rfl (Nat.le_of_ble_eq_true rfl) tw_1_91 rfl rfl (dcq dc_X0_rawFactor_0 23 rfl) ?_
          refine J_iload F 6 (dcq dc_X0_rawFactor_0 24 rfl) rfl ?_
          refine J_iald F 3 rfl (by omega) (Nat.le_of_ble_eq_true rfl) (dcq dc_X0_rawFactor_0 25 rfl) ?_
          refine J_i2l F (v := (f3 t).toInt64) (dcq dc_X0_rawFactor_0 26 rfl) rfl ?_
          refine J_aload_n F 0 (dcq dc_X0_rawFactor_0 27 rfl) rfl rfl ?_
          refine J_get F fcX0 0 2 rfl (Nat.le_of_ble_eq_true rfl) tw_1_89 rfl rfl (dcq dc_X0_rawFactor_0 28 rfl) ?_
          refine J_iload F 6 (dcq dc_X0_rawFactor_0 29 rfl) rfl ?_
          refine J_lald F 2 rfl (by omega) (Nat.le_of_ble_eq_true rfl) (dcq dc_X0_rawFactor_0 30 rfl) ?_
          refine J_lmul F (v := ((f3 t).toInt64) * (f2 t)) (dcq dc_X0_rawFactor_0 31 rfl) rfl ?_
          refine J_ladd F (v := xw + (((f3 t).toInt64) * (f2 t))) (dcq dc_X0_rawFactor_0 32 rfl) rfl ?_
          refine J_lstore_n F (lv2 := [(2, .long (xw + (((f3 t).toInt64) * (f2 t)))), (0, .ref qD), (1, .int (nI sn)), (4, .long xp), (6, .long xs), (8, .long xc), (10, .int (nI t))]) (dcq dc_X0_rawFactor_0 33 rfl) rfl (Nat.le_of_ble_eq_true rfl) rfl ?_
          refine J_lload F 3 (dcq dc_X0_rawFactor_0 34 rfl) rfl ?_
          refine J_aload_n F 1 (dcq dc_X0_rawFactor_0 35 rfl) rfl rfl ?_
          refine J_get F fcX0 0 2 rfl (Nat.le_of_ble_eq_true rfl) tw_1_89 rfl rfl (dcq dc_X0_rawFactor_0 36 rfl) ?_
          refine J_iload F 6 (dcq dc_X0_rawFactor_0 37 rfl) rfl ?_
          refine J_lald F 2 rfl (by omega) (Nat.le_of_ble_eq_true rfl) (dcq dc_X0_rawFactor_0 38 rfl) ?_
          refine J_ladd F (v := xp + (f2 t)) (dcq dc_X0_rawFactor_0 39 rfl) rfl ?_
          refine J_lstore F (lv2 := [(4, .long (xp + (f2 t))), (2, .long (xw + (((f3 t).toInt64) * (f2 t)))), (0, .ref qD), (1, .int (nI sn)), (6, .long xs), (8, .long xc), (10, .int (nI t))]) (dcq dc_X0_rawFactor_0 40 rfl) (Nat.le_of_ble_eq_true rfl) rfl ?_
          refine J_lload F 4 (dcq dc_X0_rawFactor_0 41 rfl) rfl ?_
          refine J_aload_n F 2 (dcq dc_X0_rawFactor_0 42 rfl) rfl rfl ?_
          refine J_get F fcX0 0 3 rfl (Nat.le_of_ble_eq_true rfl) tw_1_91 rfl rfl (dcq dc_X0_rawFactor_0 43 rfl) ?_
          refine J_iload F 6 (dcq dc_X0_rawFactor_0 44 rfl) rfl ?_
          refine J_iald F 3 rfl (by omega) (Nat.le_of_ble_eq_true rfl) (dcq dc_X0_rawFactor_0 45 rfl) ?_
          refine J_i2l F (v := (f3 t).toInt64) (dcq dc_X0_rawFactor_0 46 rfl) rfl ?_
          refine J_ladd F (v := xs + ((f3 t).toInt64)) (dcq dc_X0_rawFactor_0 47 rfl) rfl ?_
          refine J_lstore F (lv2 := [(6, .long (xs + ((f3 t).toInt64))), (4, .long (xp + (f2 t))), (2, .long (xw + (((f3 t).toInt64) * (f2 t)))), (0, .ref qD), (1, .int (nI sn)), (8, .long xc), (10, .int (nI t))]) (dcq dc_X0_rawFactor_1 0 rfl) (Nat.le_of_ble_eq_true rfl) rfl ?_
          refine J_lload F 5 (dcq dc_X0_rawFactor_1 1 rfl) rfl ?_
          refine J_lconst F (dcq dc_X0_rawFactor_1 2 rfl) lc_1 ?_
          refine J_ladd F (v := xc + 1) (dcq dc_X0_rawFactor_1 3 rfl) rfl ?_
          refine J_lstore F (lv2 := [(8, .long (xc + 1)), (6, .long (xs + ((f3 t).toInt64))), (4, .long (xp + (f2 t))), (2, .long (xw + (((f3 t).toInt64) * (f2 t)))), (0, .ref qD), (1, .int (nI sn)), (10, .int (nI t))]) (dcq dc_X0_rawFactor_1 4 rfl) (Nat.le_of_ble_eq_true rfl) rfl ?_
          refine J_iinc F (lv2 := [(10, .int (nI (t + 1))), (8, .long (xc + 1)), (6, .long (xs + ((f3 t).toInt64))), (4, .long (xp + (f2 t))), (2, .long (xw + (((f3 t).toInt64) * (f2 t)))), (0, .ref qD), (1, .int (nI sn))]) (v := nI (t + 1)) 6 (dcq dc_X0_rawFactor_1 5 rfl) rfl (nI_inc _) (Nat.le_of_ble_eq_true rfl) rfl ?_
          refine J_goto F 17 (dcq dc_X0_rawFactor_1 6 rfl) (by decide) ?_
          refine J_locs [5, 6, 4, 3, 2, 1, 0] rfl ?_
          exact ih17 (t + 1) (xw + (((f3 t).toInt64) * (f2 t))) (xp + (f2 t)) (xs + ((f3 t).toInt64)) (xc + 1) (by omega) (by omega) (by rw [sif_step ht1]; first | rw [if_pos hse, iw, hdv t (by omega) (by omega)]; rfl | rw [if_neg hse, iw]) (by rw [sif_step ht1]; first | rw [if_pos hse, ip, hdv t (by omega) (by omega)] | rw [if_neg hse, ip]) (by rw [sif_step ht1]; first | rw [if_pos hse, is9]; rfl | rw [if_neg hse, is9]) (by rw [nif_step ht1]; first | rw [if_pos hse, ic]; exact lN_1 _ | rw [if_neg hse, ic]) (by omega)
  refine J_locs [5, 6, 4, 3, 2, 1, 0] rfl ?_
  exact L17 (tt + 1 - fr + 1) fr 0 0 0 0 (by omega) (by omega) (by rw [Nat.sub_self]; rfl) (by rw [Nat.sub_self]; rfl) (by rw [Nat.sub_self]; rfl) (by rw [Nat.sub_self]; rfl) (Nat.lt_succ_self _)

abbrev po_X0_ratioFactor (G : Gt) (qD q a1 a2 a3 a4 a5 a6 a7 a8 a9 a10 oc fr tt : Nat) (wd : Int64) (P M R n qv qg qd : Nat) (x z : Int64) : Option Value → va_W → Prop := fun (v9 : Option Value) (w9 : va_W) => ∃ (r : Int64), v9 = some (.long r) ∧ w9 = [oB 0 qD [.ref q, .ref a1, .ref a2, .ref a3, .ref a4, .ref a5, .ref a6, .ref a7, .ref a8, .ref a9, .ref a10, .long wd, .int (nI oc), .int (nI fr), .int (nI tt)], oB 2 q [.int (nI P), .int (nI M), .int (nI R), .int (nI n), .ref qv, .ref qg, .ref qd]] ∧ (r = rat P x z)
set_option maxHeartbeats 4000000 in
set_option maxRecDepth 100000 in
theorem c_X0_ratioFactor (l : Launch) (hl : l.stackTraces = false) (G : Gt) (qD q a1 a2 a3 a4 a5 a6 a7 a8 a9 a10 oc fr tt : Nat) (wd : Int64) (P M R n qv qg qd : Nat) (x z : Int64) (hP12 : P ≤ 12) : Con l G yX0_ratioFactor cX0_ratioFactor 5 (some .long) 1 29 0 0 [.ref qD, .long x, .long z] [oB 0 qD [.ref q, .ref a1, .ref a2, .ref a3, .ref a4, .ref a5, .ref a6, .ref a7, .ref a8, .ref a9, .ref a10, .long wd, .int (nI oc), .int (nI fr), .int (nI tt)], oB 2 q [.int (nI P), .int (nI M), .int (nI R), .int (nI n), .ref qv, .ref qg, .ref qd]] (po_X0_ratioFactor G qD q a1 a2 a3 a4 a5 a6 a7 a8 a9 a10 oc fr tt wd P M R n qv qg qd x z) := by
  refine Con.of hl cd_X0_ratioFactor (Nat.le_of_ble_eq_true rfl) ?_
  intro p e s m args below meth c A F hin9
  change Fx p l s m args meth c G A "SeasonalAdjuster$Decomposition" cX0_ratioFactor 5 (some .long) at F
  change J p l e (cRm 1 29 0 0) s m args below meth c G A 5 (JQ below G A (po_X0_ratioFactor G qD q a1 a2 a3 a4 a5 a6 a7 a8 a9 a10 oc fr tt wd P M R n qv qg qd x z) args s 0 0) 0 0 0 [(0, .ref qD), (1, .long x), (3, .long z)] [] [oB 0 qD [.ref q, .ref a1, .ref a2, .ref a3, .ref a4, .ref a5, .ref a6, .ref a7, .ref a8, .ref a9, .ref a10, .long wd, .int (nI oc), .int (nI fr), .int (nI tt)], oB 2 q [.int (nI P), .int (nI M), .int (nI R), .int (nI n), .ref qv, .ref qg, .ref qd]]
  refine J_lload_n F 2 (dcq dc_X0_ratioFactor_0 0 rfl) rfl rfl ?_
  refine J_lconst F (dcq dc_X0_ratioFactor_0 1 rfl) lc_0 ?_
  refine J_lcmp_ne F 10 (dcq dc_X0_ratioFactor_0 2 rfl) (dcq dc_X0_ratioFactor_0 3 rfl) (by decide) (fun h_1 => ?_) (fun h_1 => ?_)
  · skip
    have hz := h_1
    refine J_lconst F (dcq dc_X0_ratioFactor_0 6 rfl) lc_1 ?_
    refine J_ldc2 F (v2 := (10000)) tw_2_34 rfl (dcq dc_X0_ratioFactor_0 7 rfl) ?_
    refine J_aload_n F 0 (dcq dc_X0_ratioFactor_0 8 rfl) rfl rfl ?_
    refine J_get F fcX0 0 0 rfl (Nat.le_of_ble_eq_true rfl) tw_1_86 rfl rfl (dcq dc_X0_ratioFactor_0 9 rfl) ?_
    refine J_get F fcX2 1 0 rfl (Nat.le_of_ble_eq_true rfl) tw_1_29 rfl rfl (dcq dc_X0_ratioFactor_0 10 rfl) ?_
    refine J_i2l F (v := lN P) (dcq dc_X0_ratioFactor_0 11 rfl) (nI_l (by omega)) ?_
    refine J_lmul F (v := 10000 * (lN P)) (dcq dc_X0_ratioFactor_0 12 rfl) rfl ?_
    refine J_lload_n F 1 (dcq dc_X0_ratioFactor_0 13 rfl) rfl rfl ?_
    refine J_lmul F (v := (10000 * (lN P)) * x) (dcq dc_X0_ratioFactor_0 14 rfl) rfl ?_
    refine J_lload_n F 2 (dcq dc_X0_ratioFactor_0 15 rfl) rfl rfl ?_
    refine J_callSN F (wc := []) (wr := [oB 0 qD [.ref q, .ref a1, .ref a2, .ref a3, .ref a4, .ref a5, .ref a6, .ref a7, .ref a8, .ref a9, .ref a10, .long wd, .int (nI oc), .int (nI fr), .int (nI tt)], oB 2 q [.int (nI P), .int (nI M), .int (nI R), .int (nI n), .ref qv, .ref qg, .ref qd]]) (rest := [.long 1]) (c_X3_quotient l hl G ((10000 * (lN P)) * x) z) cd_X3_quotient tw_2_27 nt_Decomposition_112 [] [0, 1] rfl rfl rfl rfl (by decide) rfl ⟨(Nat.le_of_ble_eq_true rfl), (Nat.le_of_ble_eq_true rfl), (Nat.le_of_ble_eq_true rfl), (Nat.le_of_ble_eq_true rfl)⟩ (Nat.le_of_ble_eq_true rfl) rfl (dcq dc_X0_ratioFactor_0 16 rfl) ?_
    rintro _ _ ⟨rq, rfl, rfl, hq⟩
    change J p l e (cRm 1 29 0 0) s m args below meth c G A 5 (JQ below G A (po_X0_ratioFactor G qD q a1 a2 a3 a4 a5 a6 a7 a8 a9 a10 oc fr tt wd P M R n qv qg qd x z) args s 0 0) 0 0 29 [(0, .ref qD), (1, .long x), (3, .long z)] [.long rq, .long 1] [oB 0 qD [.ref q, .ref a1, .ref a2, .ref a3, .ref a4, .ref a5, .ref a6, .ref a7, .ref a8, .ref a9, .ref a10, .long wd, .int (nI oc), .int (nI fr), .int (nI tt)], oB 2 q [.int (nI P), .int (nI M), .int (nI R), .int (nI n), .ref qv, .ref qg, .ref qd]]
    have hq : rq = quo ((10000 * (lN P)) * x) z := hq
    refine J_mmaxl F (v := mx1 rq) tw_2_55 tw_2_56 tw_1_12 tw_mmaxl ⟨(Nat.le_of_ble_eq_true rfl), (Nat.le_of_ble_eq_true rfl), (Nat.le_of_ble_eq_true rfl), (Nat.le_of_ble_eq_true rfl)⟩ rfl (dcq dc_X0_ratioFactor_0 17 rfl) ?_
    exact J_lret F ⟨mx1 rq, rfl, rfl, by unfold rat; first | rw [if_pos hz] | rw [if_neg hz, hq]⟩ (Nat.le_of_ble_eq_true rfl) (Nat.le_of_ble_eq_true rfl) (dcq dc_X0_ratioFactor_0 18 rfl)
  · skip
    have hz := h_1
    refine J_lconst F (dcq dc_X0_ratioFactor_0 4 rfl) lc_1 ?_
    refine J_goto F 32 (dcq dc_X0_ratioFactor_0 5 rfl) (by decide) ?_
    exact J_lret F ⟨1, rfl, rfl, by unfold rat; first | rw [if_pos hz] | rw [if_neg hz, hq]⟩ (Nat.le_of_ble_eq_true rfl) (Nat.le_of_ble_eq_true rfl) (dcq dc_X0_ratioFactor_0 18 rfl)

abbrev po_X0_computeFactors (G : Gt) (qD q a1 a2 a3 a4 a5 a6 a7 a8 a9 a10 oc fr tt : Nat) (wd : Int64) (P M R n qv qg qd : Nat) (v : Nat → Int32) (f2 : Nat → Int64) (f3 : Nat → Int32) (f5 : Nat → Int64) : Option Value → va_W → Prop := fun (v9 : Option Value) (w9 : va_W) => ∃ (g5 : Nat → Int64), v9 = none ∧ w9 = [oB 0 qD [.ref q, .ref a1, .ref a2, .ref a3, .ref a4, .ref a5, .ref a6, .ref a7, .ref a8, .ref a9, .ref a10, .long wd, .int (nI oc), .int (nI fr), .int (nI tt)], oB 2 q [.int (nI P), .int (nI M), .int (nI R), .int (nI n), .ref qv, .ref qg, .ref qd], aJ G a2 72 f2, aI G a3 72 f3, aJ G a5 12 g5] ∧ (∀ j, j < P → g5 j = fac P M fr n v f3 j)
set_option maxHeartbeats 4000000 in
set_option maxRecDepth 100000 in
theorem c_X0_computeFactors (l : Launch) (hl : l.stackTraces = false) (G : Gt) (qD q a1 a2 a3 a4 a5 a6 a7 a8 a9 a10 oc fr tt : Nat) (wd : Int64) (P M R n qv qg qd : Nat) (v : Nat → Int32) (f2 : Nat → Int64) (f3 : Nat → Int32) (f5 : Nat → Int64) (hn : n ≤ 72) (hP : 2 ≤ P) (hP12 : P ≤ 12) (hfr : fr = P / 2) (htt : tt + fr + 1 = n) (hPn : P + 2 * fr ≤ n) (hdv : ∀ t, fr ≤ t → t ≤ tt → f2 t = dv P M fr v t) (hM : M ≤ 1) : Con l G yX0_computeFactors cX0_computeFactors 4 none 2 59 0 0 [.ref qD] [oB 0 qD [.ref q, .ref a1, .ref a2, .ref a3, .ref a4, .ref a5, .ref a6, .ref a7, .ref a8, .ref a9, .ref a10, .long wd, .int (nI oc), .int (nI fr), .int (nI tt)], oB 2 q [.int (nI P), .int (nI M), .int (nI R), .int (nI n), .ref qv, .ref qg, .ref qd], aJ G a2 72 f2, aI G a3 72 f3, aJ G a5 12 f5] (po_X0_computeFactors G qD q a1 a2 a3 a4 a5 a6 a7 a8 a9 a10 oc fr tt wd P M R n qv qg qd v f2 f3 f5) := by
  refine Con.of hl cd_X0_computeFactors (Nat.le_of_ble_eq_true rfl) ?_
  intro p e s m args below meth c A F hin9
  change Fx p l s m args meth c G A "SeasonalAdjuster$Decomposition" cX0_computeFactors 4 none at F
  change J p l e (cRm 2 59 0 0) s m args below meth c G A 4 (JQ below G A (po_X0_computeFactors G qD q a1 a2 a3 a4 a5 a6 a7 a8 a9 a10 oc fr tt wd P M R n qv qg qd v f2 f3 f5) args s 0 0) 0 0 0 [(0, .ref qD)] [] [oB 0 qD [.ref q, .ref a1, .ref a2, .ref a3, .ref a4, .ref a5, .ref a6, .ref a7, .ref a8, .ref a9, .ref a10, .long wd, .int (nI oc), .int (nI fr), .int (nI tt)], oB 2 q [.int (nI P), .int (nI M), .int (nI R), .int (nI n), .ref qv, .ref qg, .ref qd], aJ G a2 72 f2, aI G a3 72 f3, aJ G a5 12 f5]
  refine J_lconst F (dcq dc_X0_computeFactors_0 0 rfl) lc_0 ?_
  refine J_lstore_n F (lv2 := [(1, .long 0), (0, .ref qD)]) (dcq dc_X0_computeFactors_0 1 rfl) rfl (Nat.le_of_ble_eq_true rfl) rfl ?_
  refine J_iconst F (dcq dc_X0_computeFactors_0 2 rfl) ic_0 ?_
  refine J_istore_n F (lv2 := [(3, .int (nI 0)), (1, .long 0), (0, .ref qD)]) (dcq dc_X0_computeFactors_0 3 rfl) rfl (Nat.le_of_ble_eq_true rfl) rfl ?_
  have L4 : ∀ (fu4 : Nat), ∀ (t : Nat) (x : Int64) (g5 : Nat → Int64), (t ≤ P) → (x = sm (raw P M fr n v f3) 0 t) → (∀ j, 0 ≤ j → j < t → g5 j = raw P M fr n v f3 j) → P - t < fu4 → J p l e (cRm 2 59 0 0) s m args below meth c G A 4 (JQ below G A (po_X0_computeFactors G qD q a1 a2 a3 a4 a5 a6 a7 a8 a9 a10 oc fr tt wd P M R n qv qg qd v f2 f3 f5) args s 0 0) 0 0 4 [(0, .ref qD), (1, .long x), (3, .int (nI t))] [] [oB 0 qD [.ref q, .ref a1, .ref a2, .ref a3, .ref a4, .ref a5, .ref a6, .ref a7, .ref a8, .ref a9, .ref a10, .long wd, .int (nI oc), .int (nI fr), .int (nI tt)], oB 2 q [.int (nI P), .int (nI M), .int (nI R), .int (nI n), .ref qv, .ref qg, .ref qd], aJ G a2 72 f2, aI G a3 72 f3, aJ G a5 12 g5] := by
    intro fu4
    induction fu4 with
    | zero => intro t x g5 ht ix iv hm4; exact absurd hm4 (Nat.not_lt_zero _)
    | succ fu4 ih4 =>
      intro t x g5 ht ix iv hm4
      refine J_iload_n F 2 (dcq dc_X0_computeFactors_0 4 rfl) rfl rfl ?_
      refine J_aload_n F 0 (dcq dc_X0_computeFactors_0 5 rfl) rfl rfl ?_
      refine J_get F fcX0 0 0 rfl (Nat.le_of_ble_eq_true rfl) tw_1_86 rfl rfl (dcq dc_X0_computeFactors_0 6 rfl) ?_
      refine J_get F fcX2 1 0 rfl (Nat.le_of_ble_eq_true rfl) tw_1_29 rfl rfl (dcq dc_X0_computeFactors_0 7 rfl) ?_
      refine J_ncmp_ge F 41 (by omega) (by omega) (dcq dc_X0_computeFactors_0 8 rfl) (by decide) (fun h_1 => ?_) (fun h_1 => ?_)
      · skip
        have hxz : x = zz P M fr n v f3 := by rw [ix, show t = P by omega]; rfl
        refine J_iconst F (dcq dc_X0_computeFactors_0 25 rfl) ic_0 ?_
        refine J_istore_n F (lv2 := [(3, .int (nI 0)), (0, .ref qD), (1, .long x)]) (dcq dc_X0_computeFactors_0 26 rfl) rfl (Nat.le_of_ble_eq_true rfl) rfl ?_
        have L43 : ∀ (fu43 : Nat), ∀ (t : Nat) (h5 : Nat → Int64), (t ≤ P) → (∀ j, 0 ≤ j → j < t → h5 j = fac P M fr n v f3 j) → (∀ j, t ≤ j → j < P → h5 j = raw P M fr n v f3 j) → P - t < fu43 → J p l e (cRm 2 59 0 0) s m args below meth c G A 4 (JQ below G A (po_X0_computeFactors G qD q a1 a2 a3 a4 a5 a6 a7 a8 a9 a10 oc fr tt wd P M R n qv qg qd v f2 f3 f5) args s 0 0) 0 0 43 [(0, .ref qD), (1, .long x), (3, .int (nI t))] [] [oB 0 qD [.ref q, .ref a1, .ref a2, .ref a3, .ref a4, .ref a5, .ref a6, .ref a7, .ref a8, .ref a9, .ref a10, .long wd, .int (nI oc), .int (nI fr), .int (nI tt)], oB 2 q [.int (nI P), .int (nI M), .int (nI R), .int (nI n), .ref qv, .ref qg, .ref qd], aJ G a2 72 f2, aI G a3 72 f3, aJ G a5 12 h5] := by
          intro fu43
          induction fu43 with
          | zero => intro t h5 ht3 iu iw hm43; exact absurd hm43 (Nat.not_lt_zero _)
          | succ fu43 ih43 =>
            intro t h5 ht3 iu iw hm43
            refine J_iload_n F 2 (dcq dc_X0_computeFactors_0 27 rfl) rfl rfl ?_
            refine J_aload_n F 0 (dcq dc_X0_computeFactors_0 28 rfl) rfl rfl ?_
            refine J_get F fcX0 0 0 rfl (Nat.le_of_ble_eq_true rfl) tw_1_86 rfl rfl (dcq dc_X0_computeFactors_0 29 rfl) ?_
            refine J_get F fcX2 1 0 rfl (Nat.le_of_ble_eq_true rfl) tw_1_29 rfl rfl (dcq dc_X0_computeFactors_0 30 rfl) ?_
            refine J_ncmp_ge F 109 (by omega) (by omega) (dcq dc_X0_computeFactors_0 31 rfl) (by decide) (fun h_2 => ?_) (fun h_2 => ?_)
            · skip
              exact J_vret F ⟨h5, rfl, rfl, fun j h => iu j (Nat.zero_le _) (by omega)⟩ (Nat.le_of_ble_eq_true rfl) (Nat.le_of_ble_eq_true rfl) (dcq dc_X0_computeFactors_1 13 rfl)
            · skip
              refine J_aload_n F 0 (dcq dc_X0_computeFactors_0 32 rfl) rfl rfl ?_
              refine J_get F fcX0 0 5 rfl (Nat.le_of_ble_eq_true rfl) tw_1_94 rfl rfl (dcq dc_X0_computeFactors_0 33 rfl) ?_
              refine J_iload_n F 2 (dcq dc_X0_computeFactors_0 34 rfl) rfl rfl ?_
              refine J_aload_n F 0 (dcq dc_X0_computeFactors_0 35 rfl) rfl rfl ?_
              refine J_get F fcX0 0 0 rfl (Nat.le_of_ble_eq_true rfl) tw_1_86 rfl rfl (dcq dc_X0_computeFactors_0 36 rfl) ?_
              refine J_get F fcX2 1 1 rfl (Nat.le_of_ble_eq_true rfl) tw_1_32 rfl rfl (dcq dc_X0_computeFactors_0 37 rfl) ?_
              refine J_nif_ne F 91 (by omega) (dcq dc_X0_computeFactors_0 38 rfl) (by decide) (fun h_3 => ?_) (fun h_3 => ?_)
              · skip
                have hm := h_3
                refine J_aload_n F 0 (dcq dc_X0_computeFactors_1 3 rfl) rfl rfl ?_
                refine J_aload_n F 0 (dcq dc_X0_computeFactors_1 4 rfl) rfl rfl ?_
                refine J_get F fcX0 0 5 rfl (Nat.le_of_ble_eq_true rfl) tw_1_94 rfl rfl (dcq dc_X0_computeFactors_1 5 rfl) ?_
                refine J_iload_n F 2 (dcq dc_X0_computeFactors_1 6 rfl) rfl rfl ?_
                refine J_lald F 4 rfl (by omega) (Nat.le_of_ble_eq_true rfl) (dcq dc_X0_computeFactors_1 7 rfl) ?_
                refine J_lload_n F 1 (dcq dc_X0_computeFactors_1 8 rfl) rfl rfl ?_
                refine J_callV F (wc := [oB 0 qD [.ref q, .ref a1, .ref a2, .ref a3, .ref a4, .ref a5, .ref a6, .ref a7, .ref a8, .ref a9, .ref a10, .long wd, .int (nI oc), .int (nI fr), .int (nI tt)], oB 2 q [.int (nI P), .int (nI M), .int (nI R), .int (nI n), .ref qv, .ref qg, .ref qd]]) (wr := [aJ G a2 72 f2, aI G a3 72 f3, aJ G a5 12 h5]) (rest := [.int (nI t), .ref a5]) (qc := 0) (c_X0_ratioFactor l hl G qD q a1 a2 a3 a4 a5 a6 a7 a8 a9 a10 oc fr tt wd P M R n qv qg qd (h5 t) x (by first | assumption | omega)) cd_X0_ratioFactor cv_X0_ratioFactor rfl rfl rfl tw_2_51 [0, 1] [2, 3, 4] rfl rfl rfl rfl (by decide) rfl ⟨(Nat.le_of_ble_eq_true rfl), (Nat.le_of_ble_eq_true rfl), (Nat.le_of_ble_eq_true rfl), (Nat.le_of_ble_eq_true rfl)⟩ (Nat.le_of_ble_eq_true rfl) rfl (dcq dc_X0_computeFactors_1 9 rfl) ?_
                rintro _ _ ⟨rq, rfl, rfl, hq⟩
                change J p l e (cRm 2 59 0 0) s m args below meth c G A 4 (JQ below G A (po_X0_computeFactors G qD q a1 a2 a3 a4 a5 a6 a7 a8 a9 a10 oc fr tt wd P M R n qv qg qd v f2 f3 f5) args s 0 0) 0 0 102 [(0, .ref qD), (1, .long x), (3, .int (nI t))] [.long rq, .int (nI t), .ref a5] [aJ G a2 72 f2, aI G a3 72 f3, aJ G a5 12 h5, oB 0 qD [.ref q, .ref a1, .ref a2, .ref a3, .ref a4, .ref a5, .ref a6, .ref a7, .ref a8, .ref a9, .ref a10, .long wd, .int (nI oc), .int (nI fr), .int (nI tt)], oB 2 q [.int (nI P), .int (nI M), .int (nI R), .int (nI n), .ref qv, .ref qg, .ref qd]]
                have hq : rq = rat P (h5 t) x := hq
                refine J_world (ws2 := [oB 0 qD [.ref q, .ref a1, .ref a2, .ref a3, .ref a4, .ref a5, .ref a6, .ref a7, .ref a8, .ref a9, .ref a10, .long wd, .int (nI oc), .int (nI fr), .int (nI tt)], oB 2 q [.int (nI P), .int (nI M), .int (nI R), .int (nI n), .ref qv, .ref qg, .ref qd], aJ G a2 72 f2, aI G a3 72 f3, aJ G a5 12 h5]) [3, 4, 0, 1, 2] rfl rfl ?_
                refine J_last F (ws2 := [oB 0 qD [.ref q, .ref a1, .ref a2, .ref a3, .ref a4, .ref a5, .ref a6, .ref a7, .ref a8, .ref a9, .ref a10, .long wd, .int (nI oc), .int (nI fr), .int (nI tt)], oB 2 q [.int (nI P), .int (nI M), .int (nI R), .int (nI n), .ref qv, .ref qg, .ref qd], aJ G a2 72 f2, aI G a3 72 f3, aJ G a5 12 (vp_updL h5 t rq)]) 4 rfl (by omega) (Nat.le_of_ble_eq_true rfl) rfl (dcq dc_X0_computeFactors_1 10 rfl) ?_
                refine J_iinc F (lv2 := [(3, .int (nI (t + 1))), (0, .ref qD), (1, .long x)]) (v := nI (t + 1)) 2 (dcq dc_X0_computeFactors_1 11 rfl) rfl (nI_inc _) (Nat.le_of_ble_eq_true rfl) rfl ?_
                refine J_goto F 43 (dcq dc_X0_computeFactors_1 12 rfl) (by decide) ?_
                refine J_locs [1, 2, 0] rfl ?_
                exact ih43 (t + 1) (vp_updL h5 t rq) (by omega) (up_l iu (by unfold fac; first | rw [if_pos hm, hq, iw t (Nat.le_refl _) (by omega), hxz] | rw [if_neg (by omega), hq, iw t (Nat.le_refl _) (by omega), hxz])) (fun j h1 h2 => by rw [pk_uLn (by omega)]; exact iw j (by omega) h2) (by omega)
              · skip
                have hm := h_3
                refine J_aload_n F 0 (dcq dc_X0_computeFactors_0 39 rfl) rfl rfl ?_
                refine J_get F fcX0 0 5 rfl (Nat.le_of_ble_eq_true rfl) tw_1_94 rfl rfl (dcq dc_X0_computeFactors_0 40 rfl) ?_
                refine J_iload_n F 2 (dcq dc_X0_computeFactors_0 41 rfl) rfl rfl ?_
                refine J_lald F 4 rfl (by omega) (Nat.le_of_ble_eq_true rfl) (dcq dc_X0_computeFactors_0 42 rfl) ?_
                refine J_lload_n F 1 (dcq dc_X0_computeFactors_0 43 rfl) rfl rfl ?_
                refine J_aload_n F 0 (dcq dc_X0_computeFactors_0 44 rfl) rfl rfl ?_
                refine J_get F fcX0 0 0 rfl (Nat.le_of_ble_eq_true rfl) tw_1_86 rfl rfl (dcq dc_X0_computeFactors_0 45 rfl) ?_
                refine J_get F fcX2 1 0 rfl (Nat.le_of_ble_eq_true rfl) tw_1_29 rfl rfl (dcq dc_X0_computeFactors_0 46 rfl) ?_
                refine J_i2l F (v := lN P) (dcq dc_X0_computeFactors_0 47 rfl) (nI_l (by omega)) ?_
                refine J_callSN F (wc := []) (wr := [oB 0 qD [.ref q, .ref a1, .ref a2, .ref a3, .ref a4, .ref a5, .ref a6, .ref a7, .ref a8, .ref a9, .ref a10, .long wd, .int (nI oc), .int (nI fr), .int (nI tt)], oB 2 q [.int (nI P), .int (nI M), .int (nI R), .int (nI n), .ref qv, .ref qg, .ref qd], aJ G a2 72 f2, aI G a3 72 f3, aJ G a5 12 h5]) (rest := [.long (h5 t), .int (nI t), .ref a5]) (c_X3_quotient l hl G x (lN P)) cd_X3_quotient tw_2_27 nt_Decomposition_112 [] [0, 1, 2, 3, 4] rfl rfl rfl rfl (by decide) rfl ⟨(Nat.le_of_ble_eq_true rfl), (Nat.le_of_ble_eq_true rfl), (Nat.le_of_ble_eq_true rfl), (Nat.le_of_ble_eq_true rfl)⟩ (Nat.le_of_ble_eq_true rfl) rfl (dcq dc_X0_computeFactors_1 0 rfl) ?_
                rintro _ _ ⟨rq, rfl, rfl, hq⟩
                change J p l e (cRm 2 59 0 0) s m args below meth c G A 4 (JQ below G A (po_X0_computeFactors G qD q a1 a2 a3 a4 a5 a6 a7 a8 a9 a10 oc fr tt wd P M R n qv qg qd v f2 f3 f5) args s 0 0) 0 0 87 [(0, .ref qD), (1, .long x), (3, .int (nI t))] [.long rq, .long (h5 t), .int (nI t), .ref a5] [oB 0 qD [.ref q, .ref a1, .ref a2, .ref a3, .ref a4, .ref a5, .ref a6, .ref a7, .ref a8, .ref a9, .ref a10, .long wd, .int (nI oc), .int (nI fr), .int (nI tt)], oB 2 q [.int (nI P), .int (nI M), .int (nI R), .int (nI n), .ref qv, .ref qg, .ref qd], aJ G a2 72 f2, aI G a3 72 f3, aJ G a5 12 h5]
                have hq : rq = quo x (lN P) := hq
                refine J_lsub F (v := (h5 t) - rq) (dcq dc_X0_computeFactors_1 1 rfl) rfl ?_
                refine J_goto F 102 (dcq dc_X0_computeFactors_1 2 rfl) (by decide) ?_
                refine J_last F (ws2 := [oB 0 qD [.ref q, .ref a1, .ref a2, .ref a3, .ref a4, .ref a5, .ref a6, .ref a7, .ref a8, .ref a9, .ref a10, .long wd, .int (nI oc), .int (nI fr), .int (nI tt)], oB 2 q [.int (nI P), .int (nI M), .int (nI R), .int (nI n), .ref qv, .ref qg, .ref qd], aJ G a2 72 f2, aI G a3 72 f3, aJ G a5 12 (vp_updL h5 t ((h5 t) - rq))]) 4 rfl (by omega) (Nat.le_of_ble_eq_true rfl) rfl (dcq dc_X0_computeFactors_1 10 rfl) ?_
                refine J_iinc F (lv2 := [(3, .int (nI (t + 1))), (0, .ref qD), (1, .long x)]) (v := nI (t + 1)) 2 (dcq dc_X0_computeFactors_1 11 rfl) rfl (nI_inc _) (Nat.le_of_ble_eq_true rfl) rfl ?_
                refine J_goto F 43 (dcq dc_X0_computeFactors_1 12 rfl) (by decide) ?_
                refine J_locs [1, 2, 0] rfl ?_
                exact ih43 (t + 1) (vp_updL h5 t ((h5 t) - rq)) (by omega) (up_l iu (by unfold fac; first | rw [if_pos hm, hq, iw t (Nat.le_refl _) (by omega), hxz] | rw [if_neg (by omega), hq, iw t (Nat.le_refl _) (by omega), hxz])) (fun j h1 h2 => by rw [pk_uLn (by omega)]; exact iw j (by omega) h2) (by omega)
        refine J_locs [1, 2, 0] rfl ?_
        exact L43 (P - 0 + 1) 0 g5 (by omega) (fun j h1 h2 => absurd h2 (Nat.not_lt.mpr h1)) (fun j _ h => iv j (Nat.zero_le _) (by omega)) (Nat.lt_succ_self _)
      · skip
        refine J_aload_n F 0 (dcq dc_X0_computeFactors_0 9 rfl) rfl rfl ?_
        refine J_get F fcX0 0 5 rfl (Nat.le_of_ble_eq_true rfl) tw_1_94 rfl rfl (dcq dc_X0_computeFactors_0 10 rfl) ?_
        refine J_iload_n F 2 (dcq dc_X0_computeFactors_0 11 rfl) rfl rfl ?_
        refine J_aload_n F 0 (dcq dc_X0_computeFactors_0 12 rfl) rfl rfl ?_
        refine J_iload_n F 2 (dcq dc_X0_computeFactors_0 13 rfl) rfl rfl ?_
        refine J_callV F (wc := [oB 0 qD [.ref q, .ref a1, .ref a2, .ref a3, .ref a4, .ref a5, .ref a6, .ref a7, .ref a8, .ref a9, .ref a10, .long wd, .int (nI oc), .int (nI fr), .int (nI tt)], oB 2 q [.int (nI P), .int (nI M), .int (nI R), .int (nI n), .ref qv, .ref qg, .ref qd], aJ G a2 72 f2, aI G a3 72 f3]) (wr := [aJ G a5 12 g5]) (rest := [.int (nI t), .ref a5]) (qc := 0) (c_X0_rawFactor l hl G qD q a1 a2 a3 a4 a5 a6 a7 a8 a9 a10 oc fr tt wd P M R n qv qg qd v f2 f3 t (by first | assumption | omega) (by first | assumption | omega) (by first | assumption | omega) (by first | assumption | omega) (by first | assumption | omega) (by first | assumption | omega) (by first | assumption | omega) (by first | assumption | omega)) cd_X0_rawFactor cv_X0_rawFactor rfl rfl rfl tw_2_43 [0, 1, 2, 3] [4] rfl rfl rfl rfl (by decide) rfl ⟨(Nat.le_of_ble_eq_true rfl), (Nat.le_of_ble_eq_true rfl), (Nat.le_of_ble_eq_true rfl), (Nat.le_of_ble_eq_true rfl)⟩ (Nat.le_of_ble_eq_true rfl) rfl (dcq dc_X0_computeFactors_0 14 rfl) ?_
        rintro _ _ ⟨rr, rfl, rfl, hrw⟩
        change J p l e (cRm 2 59 0 0) s m args below meth c G A 4 (JQ below G A (po_X0_computeFactors G qD q a1 a2 a3 a4 a5 a6 a7 a8 a9 a10 oc fr tt wd P M R n qv qg qd v f2 f3 f5) args s 0 0) 0 0 25 [(0, .ref qD), (1, .long x), (3, .int (nI t))] [.long rr, .int (nI t), .ref a5] [aJ G a5 12 g5, oB 0 qD [.ref q, .ref a1, .ref a2, .ref a3, .ref a4, .ref a5, .ref a6, .ref a7, .ref a8, .ref a9, .ref a10, .long wd, .int (nI oc), .int (nI fr), .int (nI tt)], oB 2 q [.int (nI P), .int (nI M), .int (nI R), .int (nI n), .ref qv, .ref qg, .ref qd], aJ G a2 72 f2, aI G a3 72 f3]
        have hrw : rr = raw P M fr n v f3 t := hrw
        refine J_world (ws2 := [oB 0 qD [.ref q, .ref a1, .ref a2, .ref a3, .ref a4, .ref a5, .ref a6, .ref a7, .ref a8, .ref a9, .ref a10, .long wd, .int (nI oc), .int (nI fr), .int (nI tt)], oB 2 q [.int (nI P), .int (nI M), .int (nI R), .int (nI n), .ref qv, .ref qg, .ref qd], aJ G a2 72 f2, aI G a3 72 f3, aJ G a5 12 g5]) [1, 2, 3, 4, 0] rfl rfl ?_
        refine J_last F (ws2 := [oB 0 qD [.ref q, .ref a1, .ref a2, .ref a3, .ref a4, .ref a5, .ref a6, .ref a7, .ref a8, .ref a9, .ref a10, .long wd, .int (nI oc), .int (nI fr), .int (nI tt)], oB 2 q [.int (nI P), .int (nI M), .int (nI R), .int (nI n), .ref qv, .ref qg, .ref qd], aJ G a2 72 f2, aI G a3 72 f3, aJ G a5 12 (vp_updL g5 t rr)]) 4 rfl (by omega) (Nat.le_of_ble_eq_true rfl) rfl (dcq dc_X0_computeFactors_0 15 rfl) ?_
        refine J_lload_n F 1 (dcq dc_X0_computeFactors_0 16 rfl) rfl rfl ?_
        refine J_aload_n F 0 (dcq dc_X0_computeFactors_0 17 rfl) rfl rfl ?_
        refine J_get F fcX0 0 5 rfl (Nat.le_of_ble_eq_true rfl) tw_1_94 rfl rfl (dcq dc_X0_computeFactors_0 18 rfl) ?_
        refine J_iload_n F 2 (dcq dc_X0_computeFactors_0 19 rfl) rfl rfl ?_
        refine J_lald F 4 rfl (by omega) (Nat.le_of_ble_eq_true rfl) (dcq dc_X0_computeFactors_0 20 rfl) ?_
        refine J_ladd F (v := x + ((vp_updL g5 t rr) t)) (dcq dc_X0_computeFactors_0 21 rfl) rfl ?_
        refine J_lstore_n F (lv2 := [(1, .long (x + ((vp_updL g5 t rr) t))), (0, .ref qD), (3, .int (nI t))]) (dcq dc_X0_computeFactors_0 22 rfl) rfl (Nat.le_of_ble_eq_true rfl) rfl ?_
        refine J_iinc F (lv2 := [(3, .int (nI (t + 1))), (1, .long (x + ((vp_updL g5 t rr) t))), (0, .ref qD)]) (v := nI (t + 1)) 2 (dcq dc_X0_computeFactors_0 23 rfl) rfl (nI_inc _) (Nat.le_of_ble_eq_true rfl) rfl ?_
        refine J_goto F 4 (dcq dc_X0_computeFactors_0 24 rfl) (by decide) ?_
        refine J_locs [2, 1, 0] rfl ?_
        exact ih4 (t + 1) (x + ((vp_updL g5 t rr) t)) (vp_updL g5 t rr) (by omega) (by simp only [sm, Nat.zero_add]; rw [ix, pk_uLs, hrw]) (up_l iv hrw) (by omega)
  refine J_locs [2, 1, 0] rfl ?_
  exact L4 (P - 0 + 1) 0 0 f5 (by omega) (rfl) (fun j h1 h2 => absurd h2 (Nat.not_lt.mpr h1)) (Nat.lt_succ_self _)

abbrev po_X0_computeDistances (G : Gt) (qD q a1 a2 a3 a4 a5 a6 a7 a8 a9 a10 oc fr tt : Nat) (wd : Int64) (P M R n qv qg qd : Nat) (v w : Nat → Int32) (f2 : Nat → Int64) (f4 : Nat → Int64) (f5 : Nat → Int64) : Option Value → va_W → Prop := fun (v9 : Option Value) (w9 : va_W) => ∃ (wd2 : Int64), ∃ (g4 : Nat → Int64), v9 = none ∧ w9 = [oB 0 qD [.ref q, .ref a1, .ref a2, .ref a3, .ref a4, .ref a5, .ref a6, .ref a7, .ref a8, .ref a9, .ref a10, .long wd2, .int (nI oc), .int (nI fr), .int (nI tt)], oB 2 q [.int (nI P), .int (nI M), .int (nI R), .int (nI n), .ref qv, .ref qg, .ref qd], aJ G a2 72 f2, aJ G a4 72 g4, aJ G a5 12 f5] ∧ (∀ t, fr ≤ t → t ≤ tt → g4 t = dst P M fr n v w t) ∧ (wd2 = wid P M fr n v w)
set_option maxHeartbeats 4000000 in
set_option maxRecDepth 100000 in
theorem c_X0_computeDistances (l : Launch) (hl : l.stackTraces = false) (G : Gt) (qD q a1 a2 a3 a4 a5 a6 a7 a8 a9 a10 oc fr tt : Nat) (wd : Int64) (P M R n qv qg qd : Nat) (v w : Nat → Int32) (f2 : Nat → Int64) (f4 : Nat → Int64) (f5 : Nat → Int64) (hn : n ≤ 72) (hP : 2 ≤ P) (hP12 : P ≤ 12) (hfr : fr = P / 2) (htt : tt + fr + 1 = n) (hPn : P + 2 * fr ≤ n) (hdv : ∀ t, fr ≤ t → t ≤ tt → f2 t = dv P M fr v t) (hfa : ∀ j, j < P → f5 j = fac P M fr n v w j) : Con l G yX0_computeDistances cX0_computeDistances 4 none 1 29 0 0 [.ref qD] [oB 0 qD [.ref q, .ref a1, .ref a2, .ref a3, .ref a4, .ref a5, .ref a6, .ref a7, .ref a8, .ref a9, .ref a10, .long wd, .int (nI oc), .int (nI fr), .int (nI tt)], oB 2 q [.int (nI P), .int (nI M), .int (nI R), .int (nI n), .ref qv, .ref qg, .ref qd], aJ G a2 72 f2, aJ G a4 72 f4, aJ G a5 12 f5] (po_X0_computeDistances G qD q a1 a2 a3 a4 a5 a6 a7 a8 a9 a10 oc fr tt wd P M R n qv qg qd v w f2 f4 f5) := by
  refine Con.of hl cd_X0_computeDistances (Nat.le_of_ble_eq_true rfl) ?_
  intro p e s m args below meth c A F hin9
  change Fx p l s m args meth c G A "SeasonalAdjuster$Decomposition" cX0_computeDistances 4 none at F
  change J p l e (cRm 1 29 0 0) s m args below meth c G A 4 (JQ below G A (po_X0_computeDistances G qD q a1 a2 a3 a4 a5 a6 a7 a8 a9 a10 oc fr tt wd P M R n qv qg qd v w f2 f4 f5) args s 0 0) 0 0 0 [(0, .ref qD)] [] [oB 0 qD [.ref q, .ref a1, .ref a2, .ref a3, .ref a4, .ref a5, .ref a6, .ref a7, .ref a8, .ref a9, .ref a10, .long wd, .int (nI oc), .int (nI fr), .int (nI tt)], oB 2 q [.int (nI P), .int (nI M), .int (nI R), .int (nI n), .ref qv, .ref qg, .ref qd], aJ G a2 72 f2, aJ G a4 72 f4, aJ G a5 12 f5]
  refine J_lconst F (dcq dc_X0_computeDistances_0 0 rfl) lc_0 ?_
  refine J_lstore_n F (lv2 := [(1, .long 0), (0, .ref qD)]) (dcq dc_X0_computeDistances_0 1 rfl) rfl (Nat.le_of_ble_eq_true rfl) rfl ?_
  refine J_aload_n F 1 (dcq dc_X0_computeDistances_0 2 rfl) rfl rfl ?_
  refine J_get F fcX0 0 13 rfl (Nat.le_of_ble_eq_true rfl) tw_1_110 rfl rfl (dcq dc_X0_computeDistances_0 3 rfl) ?_
  refine J_istore_n F (lv2 := [(3, .int (nI fr)), (1, .long 0), (0, .ref qD)]) (dcq dc_X0_computeDistances_0 4 rfl) rfl (Nat.le_of_ble_eq_true rfl) rfl ?_
  have L7 : ∀ (fu7 : Nat), ∀ (t : Nat) (x : Int64) (g4 : Nat → Int64), (fr ≤ t) → (t ≤ tt + 1) → (x = sm (dst P M fr n v w) fr (t - fr)) → (∀ j, fr ≤ j → j < t → g4 j = dst P M fr n v w j) → tt + 1 - t < fu7 → J p l e (cRm 1 29 0 0) s m args below meth c G A 4 (JQ below G A (po_X0_computeDistances G qD q a1 a2 a3 a4 a5 a6 a7 a8 a9 a10 oc fr tt wd P M R n qv qg qd v w f2 f4 f5) args s 0 0) 0 0 7 [(0, .ref qD), (1, .long x), (3, .int (nI t))] [] [oB 0 qD [.ref q, .ref a1, .ref a2, .ref a3, .ref a4, .ref a5, .ref a6, .ref a7, .ref a8, .ref a9, .ref a10, .long wd, .int (nI oc), .int (nI fr), .int (nI tt)], oB 2 q [.int (nI P), .int (nI M), .int (nI R), .int (nI n), .ref qv, .ref qg, .ref qd], aJ G a2 72 f2, aJ G a4 72 g4, aJ G a5 12 f5] := by
    intro fu7
    induction fu7 with
    | zero => intro t x g4 ht1 ht2 ix iv hm7; exact absurd hm7 (Nat.not_lt_zero _)
    | succ fu7 ih7 =>
      intro t x g4 ht1 ht2 ix iv hm7
      have hml9 := Nat.mod_lt t (show 0 < P by omega)
      have hds : t ≤ tt → absL (f2 t - f5 (t % P)) = dst P M fr n v w t := fun h => by rw [hdv t ht1 h, hfa _ hml9]; rfl
      refine J_iload_n F 2 (dcq dc_X0_computeDistances_0 5 rfl) rfl rfl ?_
      refine J_aload_n F 0 (dcq dc_X0_computeDistances_0 6 rfl) rfl rfl ?_
      refine J_get F fcX0 0 14 rfl (Nat.le_of_ble_eq_true rfl) tw_1_112 rfl rfl (dcq dc_X0_computeDistances_0 7 rfl) ?_
      refine J_ncmp_gt F 59 (by omega) (by omega) (dcq dc_X0_computeDistances_0 8 rfl) (by decide) (fun h_1 => ?_) (fun h_1 => ?_)
      · skip
        refine J_aload_n F 0 (dcq dc_X0_computeDistances_0 35 rfl) rfl rfl ?_
        refine J_ldc2 F (v2 := (5)) tw_2_65 rfl (dcq dc_X0_computeDistances_0 36 rfl) ?_
        refine J_lload_n F 1 (dcq dc_X0_computeDistances_0 37 rfl) rfl rfl ?_
        refine J_lmul F (v := 5 * x) (dcq dc_X0_computeDistances_0 38 rfl) rfl ?_
        refine J_ldc2 F (v2 := (4)) tw_2_66 rfl (dcq dc_X0_computeDistances_0 39 rfl) ?_
        refine J_aload_n F 0 (dcq dc_X0_computeDistances_0 40 rfl) rfl rfl ?_
        refine J_get F fcX0 0 14 rfl (Nat.le_of_ble_eq_true rfl) tw_1_112 rfl rfl (dcq dc_X0_computeDistances_0 41 rfl) ?_
        refine J_aload_n F 0 (dcq dc_X0_computeDistances_0 42 rfl) rfl rfl ?_
        refine J_get F fcX0 0 13 rfl (Nat.le_of_ble_eq_true rfl) tw_1_110 rfl rfl (dcq dc_X0_computeDistances_0 43 rfl) ?_
        refine J_isub F (v := nI (tt - fr)) (dcq dc_X0_computeDistances_0 44 rfl) (pk_sub (by omega)) ?_
        refine J_iconst F (dcq dc_X0_computeDistances_0 45 rfl) ic_1 ?_
        refine J_iadd F (v := nI ((tt - fr) + 1)) (dcq dc_X0_computeDistances_0 46 rfl) (nI_add _ _) ?_
        refine J_i2l F (v := lN ((tt - fr) + 1)) (dcq dc_X0_computeDistances_0 47 rfl) (nI_l (by omega)) ?_
        refine J_lmul F (v := 4 * (lN ((tt - fr) + 1))) (dcq dc_X0_computeDistances_1 0 rfl) rfl ?_
        refine J_callSN F (wc := []) (wr := [oB 0 qD [.ref q, .ref a1, .ref a2, .ref a3, .ref a4, .ref a5, .ref a6, .ref a7, .ref a8, .ref a9, .ref a10, .long wd, .int (nI oc), .int (nI fr), .int (nI tt)], oB 2 q [.int (nI P), .int (nI M), .int (nI R), .int (nI n), .ref qv, .ref qg, .ref qd], aJ G a2 72 f2, aJ G a4 72 g4, aJ G a5 12 f5]) (rest := [.ref qD]) (c_X3_quotient l hl G (5 * x) (4 * (lN ((tt - fr) + 1)))) cd_X3_quotient tw_2_27 nt_Decomposition_112 [] [0, 1, 2, 3, 4] rfl rfl rfl rfl (by decide) rfl ⟨(Nat.le_of_ble_eq_true rfl), (Nat.le_of_ble_eq_true rfl), (Nat.le_of_ble_eq_true rfl), (Nat.le_of_ble_eq_true rfl)⟩ (Nat.le_of_ble_eq_true rfl) rfl (dcq dc_X0_computeDistances_1 1 rfl) ?_
        rintro _ _ ⟨rq, rfl, rfl, hq⟩
        change J p l e (cRm 1 29 0 0) s m args below meth c G A 4 (JQ below G A (po_X0_computeDistances G qD q a1 a2 a3 a4 a5 a6 a7 a8 a9 a10 oc fr tt wd P M R n qv qg qd v w f2 f4 f5) args s 0 0) 0 0 84 [(0, .ref qD), (1, .long x), (3, .int (nI t))] [.long rq, .ref qD] [oB 0 qD [.ref q, .ref a1, .ref a2, .ref a3, .ref a4, .ref a5, .ref a6, .ref a7, .ref a8, .ref a9, .ref a10, .long wd, .int (nI oc), .int (nI fr), .int (nI tt)], oB 2 q [.int (nI P), .int (nI M), .int (nI R), .int (nI n), .ref qv, .ref qg, .ref qd], aJ G a2 72 f2, aJ G a4 72 g4, aJ G a5 12 f5]
        have hq : rq = quo (5 * x) (4 * (lN ((tt - fr) + 1))) := hq
        refine J_put F (ws2 := [oB 0 qD [.ref q, .ref a1, .ref a2, .ref a3, .ref a4, .ref a5, .ref a6, .ref a7, .ref a8, .ref a9, .ref a10, .long rq, .int (nI oc), .int (nI fr), .int (nI tt)], oB 2 q [.int (nI P), .int (nI M), .int (nI R), .int (nI n), .ref qv, .ref qg, .ref qd], aJ G a2 72 f2, aJ G a4 72 g4, aJ G a5 12 f5]) fcX0 0 11 rfl (Nat.le_of_ble_eq_true rfl) tw_1_106 rfl rfl rfl rfl (Nat.le_of_ble_eq_true rfl) rfl (dcq dc_X0_computeDistances_1 2 rfl) ?_
        exact J_vret F ⟨rq, g4, rfl, rfl, fun j h1 h2 => iv j h1 (by omega), by rw [hq, ix, show t - fr = n - 2 * fr by omega, show tt - fr + 1 = n - 2 * fr by omega]; rfl⟩ (Nat.le_of_ble_eq_true rfl) (Nat.le_of_ble_eq_true rfl) (dcq dc_X0_computeDistances_1 3 rfl)
      · skip
        refine J_aload_n F 0 (dcq dc_X0_computeDistances_0 9 rfl) rfl rfl ?_
        refine J_get F fcX0 0 4 rfl (Nat.le_of_ble_eq_true rfl) tw_1_93 rfl rfl (dcq dc_X0_computeDistances_0 10 rfl) ?_
        refine J_iload_n F 2 (dcq dc_X0_computeDistances_0 11 rfl) rfl rfl ?_
        refine J_aload_n F 0 (dcq dc_X0_computeDistances_0 12 rfl) rfl rfl ?_
        refine J_get F fcX0 0 2 rfl (Nat.le_of_ble_eq_true rfl) tw_1_89 rfl rfl (dcq dc_X0_computeDistances_0 13 rfl) ?_
        refine J_iload_n F 2 (dcq dc_X0_computeDistances_0 14 rfl) rfl rfl ?_
        refine J_lald F 2 rfl (by omega) (Nat.le_of_ble_eq_true rfl) (dcq dc_X0_computeDistances_0 15 rfl) ?_
        refine J_aload_n F 0 (dcq dc_X0_computeDistances_0 16 rfl) rfl rfl ?_
        refine J_get F fcX0 0 5 rfl (Nat.le_of_ble_eq_true rfl) tw_1_94 rfl rfl (dcq dc_X0_computeDistances_0 17 rfl) ?_
        refine J_aload_n F 0 (dcq dc_X0_computeDistances_0 18 rfl) rfl rfl ?_
        refine J_get F fcX0 0 0 rfl (Nat.le_of_ble_eq_true rfl) tw_1_86 rfl rfl (dcq dc_X0_computeDistances_0 19 rfl) ?_
        refine J_iload_n F 2 (dcq dc_X0_computeDistances_0 20 rfl) rfl rfl ?_
        refine J_callV F (wc := [oB 2 q [.int (nI P), .int (nI M), .int (nI R), .int (nI n), .ref qv, .ref qg, .ref qd]]) (wr := [oB 0 qD [.ref q, .ref a1, .ref a2, .ref a3, .ref a4, .ref a5, .ref a6, .ref a7, .ref a8, .ref a9, .ref a10, .long wd, .int (nI oc), .int (nI fr), .int (nI tt)], aJ G a2 72 f2, aJ G a4 72 g4, aJ G a5 12 f5]) (rest := [.ref a5, .long (f2 t), .int (nI t), .ref a4]) (qc := 0) (c_X2_seasonOf l hl G q qv qg qd P M R n t (by first | assumption | omega) (by first | assumption | omega) (by first | assumption | omega)) cd_X2_seasonOf cv_X2_seasonOf rfl rfl rfl tw_2_47 [1] [0, 2, 3, 4] rfl rfl rfl rfl (by decide) rfl ⟨(Nat.le_of_ble_eq_true rfl), (Nat.le_of_ble_eq_true rfl), (Nat.le_of_ble_eq_true rfl), (Nat.le_of_ble_eq_true rfl)⟩ (Nat.le_of_ble_eq_true rfl) rfl (dcq dc_X0_computeDistances_0 21 rfl) ?_
        rintro _ _ ⟨rfl, rfl⟩
        change J p l e (cRm 1 29 0 0) s m args below meth c G A 4 (JQ below G A (po_X0_computeDistances G qD q a1 a2 a3 a4 a5 a6 a7 a8 a9 a10 oc fr tt wd P M R n qv qg qd v w f2 f4 f5) args s 0 0) 0 0 38 [(0, .ref qD), (1, .long x), (3, .int (nI t))] [.int (nI (t % P)), .ref a5, .long (f2 t), .int (nI t), .ref a4] [oB 0 qD [.ref q, .ref a1, .ref a2, .ref a3, .ref a4, .ref a5, .ref a6, .ref a7, .ref a8, .ref a9, .ref a10, .long wd, .int (nI oc), .int (nI fr), .int (nI tt)], aJ G a2 72 f2, aJ G a4 72 g4, aJ G a5 12 f5, oB 2 q [.int (nI P), .int (nI M), .int (nI R), .int (nI n), .ref qv, .ref qg, .ref qd]]
        refine J_world (ws2 := [oB 0 qD [.ref q, .ref a1, .ref a2, .ref a3, .ref a4, .ref a5, .ref a6, .ref a7, .ref a8, .ref a9, .ref a10, .long wd, .int (nI oc), .int (nI fr), .int (nI tt)], oB 2 q [.int (nI P), .int (nI M), .int (nI R), .int (nI n), .ref qv, .ref qg, .ref qd], aJ G a2 72 f2, aJ G a4 72 g4, aJ G a5 12 f5]) [0, 4, 1, 2, 3] rfl rfl ?_
        refine J_lald F 4 rfl (by omega) (Nat.le_of_ble_eq_true rfl) (dcq dc_X0_computeDistances_0 22 rfl) ?_
        refine J_lsub F (v := (f2 t) - (f5 (t % P))) (dcq dc_X0_computeDistances_0 23 rfl) rfl ?_
        refine J_mabsl F (v := absL ((f2 t) - (f5 (t % P)))) tw_2_62 tw_2_63 tw_1_12 tw_mabsl ⟨(Nat.le_of_ble_eq_true rfl), (Nat.le_of_ble_eq_true rfl), (Nat.le_of_ble_eq_true rfl), (Nat.le_of_ble_eq_true rfl)⟩ (abs_eq _) (dcq dc_X0_computeDistances_0 24 rfl) ?_
        refine J_last F (ws2 := [oB 0 qD [.ref q, .ref a1, .ref a2, .ref a3, .ref a4, .ref a5, .ref a6, .ref a7, .ref a8, .ref a9, .ref a10, .long wd, .int (nI oc), .int (nI fr), .int (nI tt)], oB 2 q [.int (nI P), .int (nI M), .int (nI R), .int (nI n), .ref qv, .ref qg, .ref qd], aJ G a2 72 f2, aJ G a4 72 (vp_updL g4 t (absL ((f2 t) - (f5 (t % P))))), aJ G a5 12 f5]) 3 rfl (by omega) (Nat.le_of_ble_eq_true rfl) rfl (dcq dc_X0_computeDistances_0 25 rfl) ?_
        refine J_lload_n F 1 (dcq dc_X0_computeDistances_0 26 rfl) rfl rfl ?_
        refine J_aload_n F 0 (dcq dc_X0_computeDistances_0 27 rfl) rfl rfl ?_
        refine J_get F fcX0 0 4 rfl (Nat.le_of_ble_eq_true rfl) tw_1_93 rfl rfl (dcq dc_X0_computeDistances_0 28 rfl) ?_
        refine J_iload_n F 2 (dcq dc_X0_computeDistances_0 29 rfl) rfl rfl ?_
        refine J_lald F 3 rfl (by omega) (Nat.le_of_ble_eq_true rfl) (dcq dc_X0_computeDistances_0 30 rfl) ?_
        refine J_ladd F (v := x + ((vp_updL g4 t (absL ((f2 t) - (f5 (t % P))))) t)) (dcq dc_X0_computeDistances_0 31 rfl) rfl ?_
        refine J_lstore_n F (lv2 := [(1, .long (x + ((vp_updL g4 t (absL ((f2 t) - (f5 (t % P))))) t))), (0, .ref qD), (3, .int (nI t))]) (dcq dc_X0_computeDistances_0 32 rfl) rfl (Nat.le_of_ble_eq_true rfl) rfl ?_
        refine J_iinc F (lv2 := [(3, .int (nI (t + 1))), (1, .long (x + ((vp_updL g4 t (absL ((f2 t) - (f5 (t % P))))) t))), (0, .ref qD)]) (v := nI (t + 1)) 2 (dcq dc_X0_computeDistances_0 33 rfl) rfl (nI_inc _) (Nat.le_of_ble_eq_true rfl) rfl ?_
        refine J_goto F 7 (dcq dc_X0_computeDistances_0 34 rfl) (by decide) ?_
        refine J_locs [2, 1, 0] rfl ?_
        exact ih7 (t + 1) (x + ((vp_updL g4 t (absL ((f2 t) - (f5 (t % P))))) t)) (vp_updL g4 t (absL ((f2 t) - (f5 (t % P))))) (by omega) (by omega) (by rw [sm_step ht1, ix, pk_uLs, hds (by omega)]) (up_l iv (hds (by omega))) (by omega)
  refine J_locs [2, 1, 0] rfl ?_
  exact L7 (tt + 1 - fr + 1) fr 0 f4 (by omega) (by omega) (by rw [Nat.sub_self]; rfl) (fun j h1 h2 => absurd h2 (Nat.not_lt.mpr h1)) (Nat.lt_succ_self _)

abbrev po_X0_weightFor (G : Gt) (qD q a1 a2 a3 a4 a5 a6 a7 a8 a9 a10 oc fr tt : Nat) (wd : Int64) (x : Int64) : Option Value → va_W → Prop := fun (v9 : Option Value) (w9 : va_W) => ∃ (r : Int32), v9 = some (.int r) ∧ w9 = [oB 0 qD [.ref q, .ref a1, .ref a2, .ref a3, .ref a4, .ref a5, .ref a6, .ref a7, .ref a8, .ref a9, .ref a10, .long wd, .int (nI oc), .int (nI fr), .int (nI tt)]] ∧ (r = wfor wd x)
set_option maxHeartbeats 4000000 in
set_option maxRecDepth 100000 in
theorem c_X0_weightFor (l : Launch) (hl : l.stackTraces = false) (G : Gt) (qD q a1 a2 a3 a4 a5 a6 a7 a8 a9 a10 oc fr tt : Nat) (wd : Int64) (x : Int64) : Con l G yX0_weightFor cX0_weightFor 3 (some .int) 1 29 0 0 [.ref qD, .long x] [oB 0 qD [.ref q, .ref a1, .ref a2, .ref a3, .ref a4, .ref a5, .ref a6, .ref a7, .ref a8, .ref a9, .ref a10, .long wd, .int (nI oc), .int (nI fr), .int (nI tt)]] (po_X0_weightFor G qD q a1 a2 a3 a4 a5 a6 a7 a8 a9 a10 oc fr tt wd x) := by
  refine Con.of hl cd_X0_weightFor (Nat.le_of_ble_eq_true rfl) ?_
  intro p e s m args below meth c A F hin9
  change Fx p l s m args meth c G A "SeasonalAdjuster$Decomposition" cX0_weightFor 3 (some .int) at F
  change J p l e (cRm 1 29 0 0) s m args below meth c G A 3 (JQ below G A (po_X0_weightFor G qD q a1 a2 a3 a4 a5 a6 a7 a8 a9 a10 oc fr tt wd x) args s 0 0) 0 0 0 [(0, .ref qD), (1, .long x)] [] [oB 0 qD [.ref q, .ref a1, .ref a2, .ref a3, .ref a4, .ref a5, .ref a6, .ref a7, .ref a8, .ref a9, .ref a10, .long wd, .int (nI oc), .int (nI fr), .int (nI tt)]]
  refine J_lload_n F 1 (dcq dc_X0_weightFor_0 0 rfl) rfl rfl ?_
  refine J_ldc2 F (v2 := (3)) tw_2_75 rfl (dcq dc_X0_weightFor_0 1 rfl) ?_
  refine J_aload_n F 0 (dcq dc_X0_weightFor_0 2 rfl) rfl rfl ?_
  refine J_get F fcX0 0 11 rfl (Nat.le_of_ble_eq_true rfl) tw_1_106 rfl rfl (dcq dc_X0_weightFor_0 3 rfl) ?_
  refine J_lmul F (v := 3 * wd) (dcq dc_X0_weightFor_0 4 rfl) rfl ?_
  refine J_lcmp_gt F 16 (dcq dc_X0_weightFor_0 5 rfl) (dcq dc_X0_weightFor_0 6 rfl) (by decide) (fun h_1 => ?_) (fun h_1 => ?_)
  · skip
    have h3 := h_1
    refine J_lload_n F 1 (dcq dc_X0_weightFor_0 9 rfl) rfl rfl ?_
    refine J_ldc2 F (v2 := (5)) tw_2_65 rfl (dcq dc_X0_weightFor_0 10 rfl) ?_
    refine J_aload_n F 0 (dcq dc_X0_weightFor_0 11 rfl) rfl rfl ?_
    refine J_get F fcX0 0 11 rfl (Nat.le_of_ble_eq_true rfl) tw_1_106 rfl rfl (dcq dc_X0_weightFor_0 12 rfl) ?_
    refine J_lmul F (v := 5 * wd) (dcq dc_X0_weightFor_0 13 rfl) rfl ?_
    refine J_lcmp_lt F 31 (dcq dc_X0_weightFor_0 14 rfl) (dcq dc_X0_weightFor_0 15 rfl) (by decide) (fun h_2 => ?_) (fun h_2 => ?_)
    · skip
      have h5 := h_2
      refine J_ldc2 F (v2 := (100)) tw_2_76 rfl (dcq dc_X0_weightFor_0 18 rfl) ?_
      refine J_ldc2 F (v2 := (5)) tw_2_65 rfl (dcq dc_X0_weightFor_0 19 rfl) ?_
      refine J_aload_n F 0 (dcq dc_X0_weightFor_0 20 rfl) rfl rfl ?_
      refine J_get F fcX0 0 11 rfl (Nat.le_of_ble_eq_true rfl) tw_1_106 rfl rfl (dcq dc_X0_weightFor_0 21 rfl) ?_
      refine J_lmul F (v := 5 * wd) (dcq dc_X0_weightFor_0 22 rfl) rfl ?_
      refine J_lload_n F 1 (dcq dc_X0_weightFor_0 23 rfl) rfl rfl ?_
      refine J_lsub F (v := (5 * wd) - x) (dcq dc_X0_weightFor_0 24 rfl) rfl ?_
      refine J_lmul F (v := 100 * ((5 * wd) - x)) (dcq dc_X0_weightFor_0 25 rfl) rfl ?_
      refine J_ldc2 F (v2 := (2)) tw_2_29 rfl (dcq dc_X0_weightFor_0 26 rfl) ?_
      refine J_aload_n F 0 (dcq dc_X0_weightFor_0 27 rfl) rfl rfl ?_
      refine J_get F fcX0 0 11 rfl (Nat.le_of_ble_eq_true rfl) tw_1_106 rfl rfl (dcq dc_X0_weightFor_0 28 rfl) ?_
      refine J_lmul F (v := 2 * wd) (dcq dc_X0_weightFor_0 29 rfl) rfl ?_
      refine J_callSN F (wc := []) (wr := [oB 0 qD [.ref q, .ref a1, .ref a2, .ref a3, .ref a4, .ref a5, .ref a6, .ref a7, .ref a8, .ref a9, .ref a10, .long wd, .int (nI oc), .int (nI fr), .int (nI tt)]]) (rest := []) (c_X3_quotient l hl G (100 * ((5 * wd) - x)) (2 * wd)) cd_X3_quotient tw_2_27 nt_Decomposition_112 [] [0] rfl rfl rfl rfl (by decide) rfl ⟨(Nat.le_of_ble_eq_true rfl), (Nat.le_of_ble_eq_true rfl), (Nat.le_of_ble_eq_true rfl), (Nat.le_of_ble_eq_true rfl)⟩ (Nat.le_of_ble_eq_true rfl) rfl (dcq dc_X0_weightFor_0 30 rfl) ?_
      rintro _ _ ⟨rq, rfl, rfl, hq⟩
      change J p l e (cRm 1 29 0 0) s m args below meth c G A 3 (JQ below G A (po_X0_weightFor G qD q a1 a2 a3 a4 a5 a6 a7 a8 a9 a10 oc fr tt wd x) args s 0 0) 0 0 56 [(0, .ref qD), (1, .long x)] [.long rq] [oB 0 qD [.ref q, .ref a1, .ref a2, .ref a3, .ref a4, .ref a5, .ref a6, .ref a7, .ref a8, .ref a9, .ref a10, .long wd, .int (nI oc), .int (nI fr), .int (nI tt)]]
      have hq : rq = quo (100 * ((5 * wd) - x)) (2 * wd) := hq
      refine J_l2i F (v := rq.toInt32) (dcq dc_X0_weightFor_0 31 rfl) rfl ?_
      exact J_iret F ⟨rq.toInt32, rfl, rfl, by unfold wfor; first | rw [if_pos (Int64.not_lt.mp h3)] | rw [if_neg (Int64.not_le.mpr h3), if_pos (Int64.not_lt.mp h5)] | rw [if_neg (Int64.not_le.mpr h3), if_neg (Int64.not_le.mpr h5), hq]⟩ (Nat.le_of_ble_eq_true rfl) (Nat.le_of_ble_eq_true rfl) (dcq dc_X0_weightFor_0 32 rfl)
    · skip
      have h5 := h_2
      refine J_iconst F (dcq dc_X0_weightFor_0 16 rfl) ic_0 ?_
      exact J_iret F ⟨nI 0, rfl, rfl, by unfold wfor; first | rw [if_pos (Int64.not_lt.mp h3)] | rw [if_neg (Int64.not_le.mpr h3), if_pos (Int64.not_lt.mp h5)] | rw [if_neg (Int64.not_le.mpr h3), if_neg (Int64.not_le.mpr h5), hq]⟩ (Nat.le_of_ble_eq_true rfl) (Nat.le_of_ble_eq_true rfl) (dcq dc_X0_weightFor_0 17 rfl)
  · skip
    have h3 := h_1
    refine J_bipush F (dcq dc_X0_weightFor_0 7 rfl) bc_100 ?_
    exact J_iret F ⟨nI 100, rfl, rfl, by unfold wfor; first | rw [if_pos (Int64.not_lt.mp h3)] | rw [if_neg (Int64.not_le.mpr h3), if_pos (Int64.not_lt.mp h5)] | rw [if_neg (Int64.not_le.mpr h3), if_neg (Int64.not_le.mpr h5), hq]⟩ (Nat.le_of_ble_eq_true rfl) (Nat.le_of_ble_eq_true rfl) (dcq dc_X0_weightFor_0 8 rfl)

abbrev po_X0_computeWeights (G : Gt) (qD q a1 a2 a3 a4 a5 a6 a7 a8 a9 a10 oc fr tt : Nat) (wd : Int64) (f3 : Nat → Int32) (f4 : Nat → Int64) : Option Value → va_W → Prop := fun (v9 : Option Value) (w9 : va_W) => ∃ (g3 : Nat → Int32), v9 = none ∧ w9 = [oB 0 qD [.ref q, .ref a1, .ref a2, .ref a3, .ref a4, .ref a5, .ref a6, .ref a7, .ref a8, .ref a9, .ref a10, .long wd, .int (nI oc), .int (nI fr), .int (nI tt)], aI G a3 72 g3, aJ G a4 72 f4] ∧ (∀ t, fr ≤ t → t ≤ tt → g3 t = wfor wd (2 * f4 t))
set_option maxHeartbeats 4000000 in
set_option maxRecDepth 100000 in
theorem c_X0_computeWeights (l : Launch) (hl : l.stackTraces = false) (G : Gt) (qD q a1 a2 a3 a4 a5 a6 a7 a8 a9 a10 oc fr tt : Nat) (wd : Int64) (f3 : Nat → Int32) (f4 : Nat → Int64) (htt : tt < 72) (hft : fr ≤ tt) : Con l G yX0_computeWeights cX0_computeWeights 2 none 2 51 0 0 [.ref qD] [oB 0 qD [.ref q, .ref a1, .ref a2, .ref a3, .ref a4, .ref a5, .ref a6, .ref a7, .ref a8, .ref a9, .ref a10, .long wd, .int (nI oc), .int (nI fr), .int (nI tt)], aI G a3 72 f3, aJ G a4 72 f4] (po_X0_computeWeights G qD q a1 a2 a3 a4 a5 a6 a7 a8 a9 a10 oc fr tt wd f3 f4) := by
  refine Con.of hl cd_X0_computeWeights (Nat.le_of_ble_eq_true rfl) ?_
  intro p e s m args below meth c A F hin9
  change Fx p l s m args meth c G A "SeasonalAdjuster$Decomposition" cX0_computeWeights 2 none at F
  change J p l e (cRm 2 51 0 0) s m args below meth c G A 2 (JQ below G A (po_X0_computeWeights G qD q a1 a2 a3 a4 a5 a6 a7 a8 a9 a10 oc fr tt wd f3 f4) args s 0 0) 0 0 0 [(0, .ref qD)] [] [oB 0 qD [.ref q, .ref a1, .ref a2, .ref a3, .ref a4, .ref a5, .ref a6, .ref a7, .ref a8, .ref a9, .ref a10, .long wd, .int (nI oc), .int (nI fr), .int (nI tt)], aI G a3 72 f3, aJ G a4 72 f4]
  refine J_aload_n F 0 (dcq dc_X0_computeWeights_0 0 rfl) rfl rfl ?_
  refine J_get F fcX0 0 13 rfl (Nat.le_of_ble_eq_true rfl) tw_1_110 rfl rfl (dcq dc_X0_computeWeights_0 1 rfl) ?_
  refine J_istore_n F (lv2 := [(1, .int (nI fr)), (0, .ref qD)]) (dcq dc_X0_computeWeights_0 2 rfl) rfl (Nat.le_of_ble_eq_true rfl) rfl ?_
  have L5 : ∀ (fu5 : Nat), ∀ (t : Nat) (g3 : Nat → Int32), (fr ≤ t) → (t ≤ tt + 1) → (∀ j, fr ≤ j → j < t → g3 j = wfor wd (2 * f4 j)) → tt + 1 - t < fu5 → J p l e (cRm 2 51 0 0) s m args below meth c G A 2 (JQ below G A (po_X0_computeWeights G qD q a1 a2 a3 a4 a5 a6 a7 a8 a9 a10 oc fr tt wd f3 f4) args s 0 0) 0 0 5 [(0, .ref qD), (1, .int (nI t))] [] [oB 0 qD [.ref q, .ref a1, .ref a2, .ref a3, .ref a4, .ref a5, .ref a6, .ref a7, .ref a8, .ref a9, .ref a10, .long wd, .int (nI oc), .int (nI fr), .int (nI tt)], aI G a3 72 g3, aJ G a4 72 f4] := by
    intro fu5
    induction fu5 with
    | zero => intro t g3 ht1 ht2 iv hm5; exact absurd hm5 (Nat.not_lt_zero _)
    | succ fu5 ih5 =>
      intro t g3 ht1 ht2 iv hm5
      refine J_iload_n F 1 (dcq dc_X0_computeWeights_0 3 rfl) rfl rfl ?_
      refine J_aload_n F 0 (dcq dc_X0_computeWeights_0 4 rfl) rfl rfl ?_
      refine J_get F fcX0 0 14 rfl (Nat.le_of_ble_eq_true rfl) tw_1_112 rfl rfl (dcq dc_X0_computeWeights_0 5 rfl) ?_
      refine J_ncmp_gt F 39 (by omega) (by omega) (dcq dc_X0_computeWeights_0 6 rfl) (by decide) (fun h_1 => ?_) (fun h_1 => ?_)
      · skip
        exact J_vret F ⟨g3, rfl, rfl, fun j h1 h2 => iv j h1 (by omega)⟩ (Nat.le_of_ble_eq_true rfl) (Nat.le_of_ble_eq_true rfl) (dcq dc_X0_computeWeights_0 21 rfl)
      · skip
        refine J_aload_n F 0 (dcq dc_X0_computeWeights_0 7 rfl) rfl rfl ?_
        refine J_get F fcX0 0 3 rfl (Nat.le_of_ble_eq_true rfl) tw_1_91 rfl rfl (dcq dc_X0_computeWeights_0 8 rfl) ?_
        refine J_iload_n F 1 (dcq dc_X0_computeWeights_0 9 rfl) rfl rfl ?_
        refine J_aload_n F 0 (dcq dc_X0_computeWeights_0 10 rfl) rfl rfl ?_
        refine J_ldc2 F (v2 := (2)) tw_2_29 rfl (dcq dc_X0_computeWeights_0 11 rfl) ?_
        refine J_aload_n F 0 (dcq dc_X0_computeWeights_0 12 rfl) rfl rfl ?_
        refine J_get F fcX0 0 4 rfl (Nat.le_of_ble_eq_true rfl) tw_1_93 rfl rfl (dcq dc_X0_computeWeights_0 13 rfl) ?_
        refine J_iload_n F 1 (dcq dc_X0_computeWeights_0 14 rfl) rfl rfl ?_
        refine J_lald F 2 rfl (by omega) (Nat.le_of_ble_eq_true rfl) (dcq dc_X0_computeWeights_0 15 rfl) ?_
        refine J_lmul F (v := 2 * (f4 t)) (dcq dc_X0_computeWeights_0 16 rfl) rfl ?_
        refine J_callV F (wc := [oB 0 qD [.ref q, .ref a1, .ref a2, .ref a3, .ref a4, .ref a5, .ref a6, .ref a7, .ref a8, .ref a9, .ref a10, .long wd, .int (nI oc), .int (nI fr), .int (nI tt)]]) (wr := [aI G a3 72 g3, aJ G a4 72 f4]) (rest := [.int (nI t), .ref a3]) (qc := 0) (c_X0_weightFor l hl G qD q a1 a2 a3 a4 a5 a6 a7 a8 a9 a10 oc fr tt wd (2 * (f4 t))) cd_X0_weightFor cv_X0_weightFor rfl rfl rfl tw_2_71 [0] [1, 2] rfl rfl rfl rfl (by decide) rfl ⟨(Nat.le_of_ble_eq_true rfl), (Nat.le_of_ble_eq_true rfl), (Nat.le_of_ble_eq_true rfl), (Nat.le_of_ble_eq_true rfl)⟩ (Nat.le_of_ble_eq_true rfl) rfl (dcq dc_X0_computeWeights_0 17 rfl) ?_
        rintro _ _ ⟨rw9, rfl, rfl, hwf⟩
        change J p l e (cRm 2 51 0 0) s m args below meth c G A 2 (JQ below G A (po_X0_computeWeights G qD q a1 a2 a3 a4 a5 a6 a7 a8 a9 a10 oc fr tt wd f3 f4) args s 0 0) 0 0 32 [(0, .ref qD), (1, .int (nI t))] [.int rw9, .int (nI t), .ref a3] [aI G a3 72 g3, aJ G a4 72 f4, oB 0 qD [.ref q, .ref a1, .ref a2, .ref a3, .ref a4, .ref a5, .ref a6, .ref a7, .ref a8, .ref a9, .ref a10, .long wd, .int (nI oc), .int (nI fr), .int (nI tt)]]
        have hwf : rw9 = wfor wd (2 * (f4 t)) := hwf
        refine J_world (ws2 := [oB 0 qD [.ref q, .ref a1, .ref a2, .ref a3, .ref a4, .ref a5, .ref a6, .ref a7, .ref a8, .ref a9, .ref a10, .long wd, .int (nI oc), .int (nI fr), .int (nI tt)], aI G a3 72 g3, aJ G a4 72 f4]) [2, 0, 1] rfl rfl ?_
        refine J_iast F (ws2 := [oB 0 qD [.ref q, .ref a1, .ref a2, .ref a3, .ref a4, .ref a5, .ref a6, .ref a7, .ref a8, .ref a9, .ref a10, .long wd, .int (nI oc), .int (nI fr), .int (nI tt)], aI G a3 72 (upd g3 t rw9), aJ G a4 72 f4]) 1 rfl (by omega) (Nat.le_of_ble_eq_true rfl) rfl (dcq dc_X0_computeWeights_0 18 rfl) ?_
        refine J_iinc F (lv2 := [(1, .int (nI (t + 1))), (0, .ref qD)]) (v := nI (t + 1)) 1 (dcq dc_X0_computeWeights_0 19 rfl) rfl (nI_inc _) (Nat.le_of_ble_eq_true rfl) rfl ?_
        refine J_goto F 5 (dcq dc_X0_computeWeights_0 20 rfl) (by decide) ?_
        refine J_locs [1, 0] rfl ?_
        exact ih5 (t + 1) (upd g3 t rw9) (by omega) (by omega) (up_i iv hwf) (by omega)
  refine J_locs [1, 0] rfl ?_
  exact L5 (tt + 1 - fr + 1) fr f3 (by omega) (by omega) (fun j h1 h2 => absurd h2 (Nat.not_lt.mpr h1)) (Nat.lt_succ_self _)
