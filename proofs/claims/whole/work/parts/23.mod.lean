abbrev po_X4_missingOnes (G : Gt) (qm m0 m1 m2 m3 m4 m5 m6 m7 m8 m9 m10 m11 hc rf : Nat) (sp ha : Int64) (nw : Nat → Int32) (P M R n : Nat) (v g d : Nat → Int32) : Option Value → va_W → Prop := fun (v9 : Option Value) (w9 : va_W) => ∃ (r : Nat), v9 = some (.int (nI r)) ∧ w9 = [oB 4 qm [.ref m0, .ref m1, .int (nI hc), .int (nI rf), .ref m2, .ref m3, .ref m4, .ref m5, .ref m6, .ref m7, .ref m8, .long sp, .ref m9, .ref m10, .ref m11, .long ha], aI G m0 220 nw] ∧ (r = cg g n)
set_option maxHeartbeats 4000000 in
set_option maxRecDepth 100000 in
theorem c_X4_missingOnes (l : Launch) (hl : l.stackTraces = false) (G : Gt) (qm m0 m1 m2 m3 m4 m5 m6 m7 m8 m9 m10 m11 hc rf : Nat) (sp ha : Int64) (nw : Nat → Int32) (P M R n : Nat) (v g d : Nat → Int32) (hRM : RM nw P M R n v g d) (hn : n ≤ 72) (h01 : G01 n g) : Con l G yX4_missingOnes cX4_missingOnes 3 (some .int) 0 0 0 0 [.ref qm] [oB 4 qm [.ref m0, .ref m1, .int (nI hc), .int (nI rf), .ref m2, .ref m3, .ref m4, .ref m5, .ref m6, .ref m7, .ref m8, .long sp, .ref m9, .ref m10, .ref m11, .long ha], aI G m0 220 nw] (po_X4_missingOnes G qm m0 m1 m2 m3 m4 m5 m6 m7 m8 m9 m10 m11 hc rf sp ha nw P M R n v g d) := by
  refine Con.of hl cd_X4_missingOnes (Nat.le_of_ble_eq_true rfl) ?_
  intro p e s m args below meth c A F hin9
  change Fx p l s m args meth c G A "SeasonalAdjusterModel" cX4_missingOnes 3 (some .int) at F
  change J p l e (cRm 0 0 0 0) s m args below meth c G A 3 (JQ below G A (po_X4_missingOnes G qm m0 m1 m2 m3 m4 m5 m6 m7 m8 m9 m10 m11 hc rf sp ha nw P M R n v g d) args s 0 0) 0 0 0 [(0, .ref qm)] [] [oB 4 qm [.ref m0, .ref m1, .int (nI hc), .int (nI rf), .ref m2, .ref m3, .ref m4, .ref m5, .ref m6, .ref m7, .ref m8, .long sp, .ref m9, .ref m10, .ref m11, .long ha], aI G m0 220 nw]
  refine J_iconst F (dcq dc_X4_missingOnes_0 0 rfl) ic_0 ?_
  refine J_istore_n F (lv2 := [(1, .int (nI 0)), (0, .ref qm)]) (dcq dc_X4_missingOnes_0 1 rfl) rfl (Nat.le_of_ble_eq_true rfl) rfl ?_
  refine J_iconst F (dcq dc_X4_missingOnes_0 2 rfl) ic_0 ?_
  refine J_istore_n F (lv2 := [(2, .int (nI 0)), (1, .int (nI 0)), (0, .ref qm)]) (dcq dc_X4_missingOnes_0 3 rfl) rfl (Nat.le_of_ble_eq_true rfl) rfl ?_
  have L4 : ∀ (fu4 : Nat), ∀ (t k : Nat), (t ≤ n) → (k = cg g t) → (k ≤ t) → n - t < fu4 → J p l e (cRm 0 0 0 0) s m args below meth c G A 3 (JQ below G A (po_X4_missingOnes G qm m0 m1 m2 m3 m4 m5 m6 m7 m8 m9 m10 m11 hc rf sp ha nw P M R n v g d) args s 0 0) 0 0 4 [(0, .ref qm), (1, .int (nI k)), (2, .int (nI t))] [] [oB 4 qm [.ref m0, .ref m1, .int (nI hc), .int (nI rf), .ref m2, .ref m3, .ref m4, .ref m5, .ref m6, .ref m7, .ref m8, .long sp, .ref m9, .ref m10, .ref m11, .long ha], aI G m0 220 nw] := by
    intro fu4
    induction fu4 with
    | zero => intro t k ht hk hk2 hm4; exact absurd hm4 (Nat.not_lt_zero _)
    | succ fu4 ih4 =>
      intro t k ht hk hk2 hm4
      refine J_iload_n F 2 (dcq dc_X4_missingOnes_0 4 rfl) rfl rfl ?_
      refine J_aload_n F 0 (dcq dc_X4_missingOnes_0 5 rfl) rfl rfl ?_
      refine J_get F fcX4 0 0 rfl (Nat.le_of_ble_eq_true rfl) tw_3_223 rfl rfl (dcq dc_X4_missingOnes_0 6 rfl) ?_
      refine J_iconst F (dcq dc_X4_missingOnes_0 7 rfl) ic_3 ?_
      refine J_iald F 1 rfl (by omega) (Nat.le_of_ble_eq_true rfl) (dcq dc_X4_missingOnes_0 8 rfl) ?_
      refine J_cast rfl (st2 := [.int (nI n), .int (nI t)]) (by rw [hRM.2.2.2.1]) rfl ?_
      refine J_ncmp_ge F 33 (by omega) (by omega) (dcq dc_X4_missingOnes_0 9 rfl) (by decide) (fun h_1 => ?_) (fun h_1 => ?_)
      · skip
        refine J_iload_n F 1 (dcq dc_X4_missingOnes_0 23 rfl) rfl rfl ?_
        exact J_iret F ⟨k, rfl, rfl, by rw [hk, show t = n by omega]⟩ (Nat.le_of_ble_eq_true rfl) (Nat.le_of_ble_eq_true rfl) (dcq dc_X4_missingOnes_0 24 rfl)
      · skip
        refine J_iload_n F 1 (dcq dc_X4_missingOnes_0 10 rfl) rfl rfl ?_
        refine J_aload_n F 0 (dcq dc_X4_missingOnes_0 11 rfl) rfl rfl ?_
        refine J_get F fcX4 0 0 rfl (Nat.le_of_ble_eq_true rfl) tw_3_223 rfl rfl (dcq dc_X4_missingOnes_0 12 rfl) ?_
        refine J_iconst F (dcq dc_X4_missingOnes_0 13 rfl) ic_4 ?_
        refine J_iconst F (dcq dc_X4_missingOnes_0 14 rfl) ic_3 ?_
        refine J_iload_n F 2 (dcq dc_X4_missingOnes_0 15 rfl) rfl rfl ?_
        refine J_imul F (v := nI (3 * t)) (dcq dc_X4_missingOnes_0 16 rfl) (pk_mul _ _) ?_
        refine J_iadd F (v := nI (4 + 3 * t)) (dcq dc_X4_missingOnes_0 17 rfl) (nI_add _ _) ?_
        refine J_iald F 1 rfl (by omega) (Nat.le_of_ble_eq_true rfl) (dcq dc_X4_missingOnes_0 18 rfl) ?_
        refine J_cast rfl (st2 := [.int (g t), .int (nI k)]) (by rw [(hRM.2.2.2.2 t (by omega)).1]) rfl ?_
        rcases h01 t (by omega) with h9 | h9
        · skip
          refine J_cast (lv2 := [(0, .ref qm), (1, .int (nI k)), (2, .int (nI t))]) (st2 := [.int (nI 0), .int (nI k)]) (ws2 := [oB 4 qm [.ref m0, .ref m1, .int (nI hc), .int (nI rf), .ref m2, .ref m3, .ref m4, .ref m5, .ref m6, .ref m7, .ref m8, .long sp, .ref m9, .ref m10, .ref m11, .long ha], aI G m0 220 nw]) (rfl) (by rw [h9]) (rfl) ?_
          refine J_iadd F (v := nI (k + 0)) (dcq dc_X4_missingOnes_0 19 rfl) (nI_add _ _) ?_
          refine J_istore_n F (lv2 := [(1, .int (nI (k + 0))), (0, .ref qm), (2, .int (nI t))]) (dcq dc_X4_missingOnes_0 20 rfl) rfl (Nat.le_of_ble_eq_true rfl) rfl ?_
          refine J_iinc F (lv2 := [(2, .int (nI (t + 1))), (1, .int (nI (k + 0))), (0, .ref qm)]) (v := nI (t + 1)) 2 (dcq dc_X4_missingOnes_0 21 rfl) rfl (nI_inc _) (Nat.le_of_ble_eq_true rfl) rfl ?_
          refine J_goto F 4 (dcq dc_X4_missingOnes_0 22 rfl) (by decide) ?_
          refine J_locs [2, 1, 0] rfl ?_
          exact ih4 (t + 1) (k + 0) (by omega) (by simp only [cg]; rw [if_pos (by rw [h9]; exact nI_0), hk]) (by omega) (by omega)
        · skip
          refine J_cast (lv2 := [(0, .ref qm), (1, .int (nI k)), (2, .int (nI t))]) (st2 := [.int (nI 1), .int (nI k)]) (ws2 := [oB 4 qm [.ref m0, .ref m1, .int (nI hc), .int (nI rf), .ref m2, .ref m3, .ref m4, .ref m5, .ref m6, .ref m7, .ref m8, .long sp, .ref m9, .ref m10, .ref m11, .long ha], aI G m0 220 nw]) (rfl) (by rw [h9]) (rfl) ?_
          refine J_iadd F (v := nI (k + 1)) (dcq dc_X4_missingOnes_0 19 rfl) (nI_add _ _) ?_
          refine J_istore_n F (lv2 := [(1, .int (nI (k + 1))), (0, .ref qm), (2, .int (nI t))]) (dcq dc_X4_missingOnes_0 20 rfl) rfl (Nat.le_of_ble_eq_true rfl) rfl ?_
          refine J_iinc F (lv2 := [(2, .int (nI (t + 1))), (1, .int (nI (k + 1))), (0, .ref qm)]) (v := nI (t + 1)) 2 (dcq dc_X4_missingOnes_0 21 rfl) rfl (nI_inc _) (Nat.le_of_ble_eq_true rfl) rfl ?_
          refine J_goto F 4 (dcq dc_X4_missingOnes_0 22 rfl) (by decide) ?_
          refine J_locs [2, 1, 0] rfl ?_
          exact ih4 (t + 1) (k + 1) (by omega) (by simp only [cg]; rw [if_neg (by rw [h9]; decide), hk]) (by omega) (by omega)
  refine J_locs [2, 1, 0] rfl ?_
  exact L4 (n - 0 + 1) 0 0 (by omega) (rfl) (by omega) (Nat.lt_succ_self _)

abbrev po_X4_set (G : Gt) (qm m0 m1 m2 m3 m4 m5 m6 m7 m8 m9 m10 m11 hc rf : Nat) (sp ha : Int64) (nw : Nat → Int32) (P M R n : Nat) (v g d : Nat → Int32) (pp : Nat → Int32) (x y : Int32) : Option Value → va_W → Prop := fun (v9 : Option Value) (w9 : va_W) => (∃ (c2 : Nat), ∃ (pp2 : Nat → Int32), ∃ (j r : Nat), v9 = some (.int (nI r)) ∧ w9 = [oB 4 qm [.ref m0, .ref m1, .int (nI c2), .int (nI 0), .ref m2, .ref m3, .ref m4, .ref m5, .ref m6, .ref m7, .ref m8, .long sp, .ref m9, .ref m10, .ref m11, .long ha], aI G m0 220 (upd (upd nw (4 + 3 * j) (nI 0)) (4 + 3 * j + 1) y), aI G m1 880 pp2] ∧ (MSV hc pp nw c2 pp2) ∧ (x = nI j) ∧ (j < n) ∧ ((if M = 1 then nI 1 else -1000000) ≤ y ∧ y ≤ nI 1000000) ∧ (r = cg (upd g j (nI 0)) n)) ∨ (v9 = some (.int (nI 0)) ∧ w9 = [oB 4 qm [.ref m0, .ref m1, .int (nI hc), .int (nI 1), .ref m2, .ref m3, .ref m4, .ref m5, .ref m6, .ref m7, .ref m8, .long sp, .ref m9, .ref m10, .ref m11, .long ha], aI G m0 220 nw, aI G m1 880 pp] ∧ (∀ j, j < n → x ≠ nI j)) ∨ (∃ (j : Nat), v9 = some (.int (nI 0)) ∧ w9 = [oB 4 qm [.ref m0, .ref m1, .int (nI hc), .int (nI 2), .ref m2, .ref m3, .ref m4, .ref m5, .ref m6, .ref m7, .ref m8, .long sp, .ref m9, .ref m10, .ref m11, .long ha], aI G m0 220 nw, aI G m1 880 pp] ∧ (x = nI j) ∧ (j < n) ∧ (¬ ((if M = 1 then nI 1 else -1000000) ≤ y ∧ y ≤ nI 1000000)))
set_option maxHeartbeats 4000000 in
set_option maxRecDepth 100000 in
theorem c_X4_set (l : Launch) (hl : l.stackTraces = false) (G : Gt) (qm m0 m1 m2 m3 m4 m5 m6 m7 m8 m9 m10 m11 hc rf : Nat) (sp ha : Int64) (nw : Nat → Int32) (P M R n : Nat) (v g d : Nat → Int32) (pp : Nat → Int32) (x y : Int32) (hRM : RM nw P M R n v g d) (hhc : hc ≤ 4) (hM : M ≤ 1) (hn : n ≤ 72) (h01 : G01 n g) : Con l G yX4_set cX4_set 3 (some .int) 2 46 0 0 [.ref qm, .int x, .int y] [oB 4 qm [.ref m0, .ref m1, .int (nI hc), .int (nI rf), .ref m2, .ref m3, .ref m4, .ref m5, .ref m6, .ref m7, .ref m8, .long sp, .ref m9, .ref m10, .ref m11, .long ha], aI G m0 220 nw, aI G m1 880 pp] (po_X4_set G qm m0 m1 m2 m3 m4 m5 m6 m7 m8 m9 m10 m11 hc rf sp ha nw P M R n v g d pp x y) := by
  refine Con.of hl cd_X4_set (Nat.le_of_ble_eq_true rfl) ?_
  intro p e s m args below meth c A F hin9
  change Fx p l s m args meth c G A "SeasonalAdjusterModel" cX4_set 3 (some .int) at F
  change J p l e (cRm 2 46 0 0) s m args below meth c G A 3 (JQ below G A (po_X4_set G qm m0 m1 m2 m3 m4 m5 m6 m7 m8 m9 m10 m11 hc rf sp ha nw P M R n v g d pp x y) args s 0 0) 0 0 0 [(0, .ref qm), (1, .int x), (2, .int y)] [] [oB 4 qm [.ref m0, .ref m1, .int (nI hc), .int (nI rf), .ref m2, .ref m3, .ref m4, .ref m5, .ref m6, .ref m7, .ref m8, .long sp, .ref m9, .ref m10, .ref m11, .long ha], aI G m0 220 nw, aI G m1 880 pp]
  refine J_aload_n F 0 (dcq dc_X4_set_0 0 rfl) rfl rfl ?_
  refine J_aload_n F 0 (dcq dc_X4_set_0 1 rfl) rfl rfl ?_
  refine J_iload_n F 1 (dcq dc_X4_set_0 2 rfl) rfl rfl ?_
  refine J_callV F (wc := [oB 4 qm [.ref m0, .ref m1, .int (nI hc), .int (nI rf), .ref m2, .ref m3, .ref m4, .ref m5, .ref m6, .ref m7, .ref m8, .long sp, .ref m9, .ref m10, .ref m11, .long ha], aI G m0 220 nw]) (wr := [aI G m1 880 pp]) (rest := [.ref qm]) (qc := 0) (c_X4_isEntry l hl G qm m0 m1 m2 m3 m4 m5 m6 m7 m8 m9 m10 m11 hc rf sp ha nw P M R n v g d x (by first | assumption | omega) (by first | assumption | omega)) cd_X4_isEntry cv_X4_isEntry rfl rfl rfl tw_4_104 [0, 1] [2] rfl rfl rfl rfl (by decide) rfl ⟨(Nat.le_of_ble_eq_true rfl), (Nat.le_of_ble_eq_true rfl), (Nat.le_of_ble_eq_true rfl), (Nat.le_of_ble_eq_true rfl)⟩ (Nat.le_of_ble_eq_true rfl) rfl (dcq dc_X4_set_0 3 rfl) ?_
  rintro _ _ h9x
  rcases h9x with ⟨j_3, rfl, rfl, hxj_3, hj_3⟩ | ⟨rfl, rfl, hx_3⟩
  · skip
    have hxj_3 : x = nI j_3 := hxj_3
    have hj_3 : j_3 < n := hj_3
    change J p l e (cRm 2 46 0 0) s m args below meth c G A 3 (JQ below G A (po_X4_set G qm m0 m1 m2 m3 m4 m5 m6 m7 m8 m9 m10 m11 hc rf sp ha nw P M R n v g d pp x y) args s 0 0) 0 0 6 [(0, .ref qm), (1, .int x), (2, .int y)] [.int (nI 1), .ref qm] [aI G m1 880 pp, oB 4 qm [.ref m0, .ref m1, .int (nI hc), .int (nI rf), .ref m2, .ref m3, .ref m4, .ref m5, .ref m6, .ref m7, .ref m8, .long sp, .ref m9, .ref m10, .ref m11, .long ha], aI G m0 220 nw]
    refine J_world (ws2 := [oB 4 qm [.ref m0, .ref m1, .int (nI hc), .int (nI rf), .ref m2, .ref m3, .ref m4, .ref m5, .ref m6, .ref m7, .ref m8, .long sp, .ref m9, .ref m10, .ref m11, .long ha], aI G m0 220 nw, aI G m1 880 pp]) [1, 2, 0] rfl rfl ?_
    refine J_cast (lv2 := [(0, .ref qm), (1, .int (nI j_3)), (2, .int y)]) (st2 := [.int (nI 1), .ref qm]) (ws2 := [oB 4 qm [.ref m0, .ref m1, .int (nI hc), .int (nI rf), .ref m2, .ref m3, .ref m4, .ref m5, .ref m6, .ref m7, .ref m8, .long sp, .ref m9, .ref m10, .ref m11, .long ha], aI G m0 220 nw, aI G m1 880 pp]) (by rw [hxj_3]) (rfl) (rfl) ?_
    refine J_if_ne F 13 (dcq dc_X4_set_0 4 rfl) (by decide) (fun _ => ?_) (fun h_1 => absurd h_1 (by decide))
    refine J_aload_n F 0 (dcq dc_X4_set_0 7 rfl) rfl rfl ?_
    refine J_iload_n F 2 (dcq dc_X4_set_0 8 rfl) rfl rfl ?_
    refine J_callV F (wc := [oB 4 qm [.ref m0, .ref m1, .int (nI hc), .int (nI rf), .ref m2, .ref m3, .ref m4, .ref m5, .ref m6, .ref m7, .ref m8, .long sp, .ref m9, .ref m10, .ref m11, .long ha], aI G m0 220 nw]) (wr := [aI G m1 880 pp]) (rest := [.ref qm]) (qc := 0) (c_X4_isValue l hl G qm m0 m1 m2 m3 m4 m5 m6 m7 m8 m9 m10 m11 hc rf sp ha nw P M R n v g d y (by first | assumption | omega) (by first | assumption | omega)) cd_X4_isValue cv_X4_isValue rfl rfl rfl tw_4_86 [0, 1] [2] rfl rfl rfl rfl (by decide) rfl ⟨(Nat.le_of_ble_eq_true rfl), (Nat.le_of_ble_eq_true rfl), (Nat.le_of_ble_eq_true rfl), (Nat.le_of_ble_eq_true rfl)⟩ (Nat.le_of_ble_eq_true rfl) rfl (dcq dc_X4_set_0 9 rfl) ?_
    rintro _ _ h9x
    rcases h9x with ⟨rfl, rfl, hv_15⟩ | ⟨rfl, rfl, hv_15⟩
    · skip
      have hv_15 : (if M = 1 then nI 1 else -1000000) ≤ y ∧ y ≤ nI 1000000 := hv_15
      change J p l e (cRm 2 46 0 0) s m args below meth c G A 3 (JQ below G A (po_X4_set G qm m0 m1 m2 m3 m4 m5 m6 m7 m8 m9 m10 m11 hc rf sp ha nw P M R n v g d pp x y) args s 0 0) 0 0 18 [(0, .ref qm), (1, .int (nI j_3)), (2, .int y)] [.int (nI 1), .ref qm] [aI G m1 880 pp, oB 4 qm [.ref m0, .ref m1, .int (nI hc), .int (nI rf), .ref m2, .ref m3, .ref m4, .ref m5, .ref m6, .ref m7, .ref m8, .long sp, .ref m9, .ref m10, .ref m11, .long ha], aI G m0 220 nw]
      refine J_world (ws2 := [oB 4 qm [.ref m0, .ref m1, .int (nI hc), .int (nI rf), .ref m2, .ref m3, .ref m4, .ref m5, .ref m6, .ref m7, .ref m8, .long sp, .ref m9, .ref m10, .ref m11, .long ha], aI G m0 220 nw, aI G m1 880 pp]) [1, 2, 0] rfl rfl ?_
      refine J_if_eq F 25 (dcq dc_X4_set_0 10 rfl) (by decide) (fun h_2 => absurd h_2 (by decide)) (fun _ => ?_)
      refine J_iconst F (dcq dc_X4_set_0 11 rfl) ic_0 ?_
      refine J_goto F 26 (dcq dc_X4_set_0 12 rfl) (by decide) ?_
      refine J_callV F (wc := [oB 4 qm [.ref m0, .ref m1, .int (nI hc), .int (nI rf), .ref m2, .ref m3, .ref m4, .ref m5, .ref m6, .ref m7, .ref m8, .long sp, .ref m9, .ref m10, .ref m11, .long ha]]) (wr := [aI G m0 220 nw, aI G m1 880 pp]) (rest := []) (qc := 0) (c_X4_refused_0 l hl G qm m0 m1 m2 m3 m4 m5 m6 m7 m8 m9 m10 m11 hc rf sp ha) cd_X4_refused cv_X4_refused rfl rfl rfl tw_4_40 [0] [1, 2] rfl rfl rfl rfl (by decide) rfl ⟨(Nat.le_of_ble_eq_true rfl), (Nat.le_of_ble_eq_true rfl), (Nat.le_of_ble_eq_true rfl), (Nat.le_of_ble_eq_true rfl)⟩ (Nat.le_of_ble_eq_true rfl) rfl (dcq dc_X4_set_0 14 rfl) ?_
      rintro _ _ ⟨rfl, rfl⟩
      change J p l e (cRm 2 46 0 0) s m args below meth c G A 3 (JQ below G A (po_X4_set G qm m0 m1 m2 m3 m4 m5 m6 m7 m8 m9 m10 m11 hc rf sp ha nw P M R n v g d pp x y) args s 0 0) 0 0 29 [(0, .ref qm), (1, .int (nI j_3)), (2, .int y)] [.int (nI 0)] [aI G m0 220 nw, aI G m1 880 pp, oB 4 qm [.ref m0, .ref m1, .int (nI hc), .int (nI 0), .ref m2, .ref m3, .ref m4, .ref m5, .ref m6, .ref m7, .ref m8, .long sp, .ref m9, .ref m10, .ref m11, .long ha]]
      refine J_world (ws2 := [oB 4 qm [.ref m0, .ref m1, .int (nI hc), .int (nI 0), .ref m2, .ref m3, .ref m4, .ref m5, .ref m6, .ref m7, .ref m8, .long sp, .ref m9, .ref m10, .ref m11, .long ha], aI G m0 220 nw, aI G m1 880 pp]) [2, 0, 1] rfl rfl ?_
      refine J_if_eq F 34 (dcq dc_X4_set_0 15 rfl) (by decide) (fun _ => ?_) (fun h_3 => absurd h_3 (by decide))
      refine J_aload_n F 0 (dcq dc_X4_set_0 18 rfl) rfl rfl ?_
      refine J_callV F (wc := [oB 4 qm [.ref m0, .ref m1, .int (nI hc), .int (nI 0), .ref m2, .ref m3, .ref m4, .ref m5, .ref m6, .ref m7, .ref m8, .long sp, .ref m9, .ref m10, .ref m11, .long ha], aI G m0 220 nw, aI G m1 880 pp]) (wr := []) (rest := []) (qc := 0) (c_X4_saves l hl G qm m0 m1 m2 m3 m4 m5 m6 m7 m8 m9 m10 m11 hc 0 sp ha nw pp (by first | assumption | omega)) cd_X4_saves cv_X4_saves rfl rfl rfl tw_4_57 [0, 1, 2] [] rfl rfl rfl rfl (by decide) rfl ⟨(Nat.le_of_ble_eq_true rfl), (Nat.le_of_ble_eq_true rfl), (Nat.le_of_ble_eq_true rfl), (Nat.le_of_ble_eq_true rfl)⟩ (Nat.le_of_ble_eq_true rfl) rfl (dcq dc_X4_set_0 19 rfl) ?_
      rintro _ _ ⟨c2, pp2, rfl, rfl, hms⟩
      change J p l e (cRm 2 46 0 0) s m args below meth c G A 3 (JQ below G A (po_X4_set G qm m0 m1 m2 m3 m4 m5 m6 m7 m8 m9 m10 m11 hc rf sp ha nw P M R n v g d pp x y) args s 0 0) 0 0 38 [(0, .ref qm), (1, .int (nI j_3)), (2, .int y)] [] [oB 4 qm [.ref m0, .ref m1, .int (nI c2), .int (nI 0), .ref m2, .ref m3, .ref m4, .ref m5, .ref m6, .ref m7, .ref m8, .long sp, .ref m9, .ref m10, .ref m11, .long ha], aI G m0 220 nw, aI G m1 880 pp2]
      have hms : MSV hc pp nw c2 pp2 := hms
      refine J_aload_n F 0 (dcq dc_X4_set_0 20 rfl) rfl rfl ?_
      refine J_get F fcX4 0 0 rfl (Nat.le_of_ble_eq_true rfl) tw_3_223 rfl rfl (dcq dc_X4_set_0 21 rfl) ?_
      refine J_iconst F (dcq dc_X4_set_0 22 rfl) ic_4 ?_
      refine J_iconst F (dcq dc_X4_set_0 23 rfl) ic_3 ?_
      refine J_iload_n F 1 (dcq dc_X4_set_0 24 rfl) rfl rfl ?_
      refine J_imul F (v := nI (3 * j_3)) (dcq dc_X4_set_0 25 rfl) (pk_mul _ _) ?_
      refine J_iadd F (v := nI (4 + 3 * j_3)) (dcq dc_X4_set_0 26 rfl) (nI_add _ _) ?_
      refine J_iconst F (dcq dc_X4_set_0 27 rfl) ic_0 ?_
      refine J_iast F (ws2 := [oB 4 qm [.ref m0, .ref m1, .int (nI c2), .int (nI 0), .ref m2, .ref m3, .ref m4, .ref m5, .ref m6, .ref m7, .ref m8, .long sp, .ref m9, .ref m10, .ref m11, .long ha], aI G m0 220 (upd nw (4 + 3 * j_3) (nI 0)), aI G m1 880 pp2]) 1 rfl (by omega) (Nat.le_of_ble_eq_true rfl) rfl (dcq dc_X4_set_0 28 rfl) ?_
      refine J_aload_n F 0 (dcq dc_X4_set_0 29 rfl) rfl rfl ?_
      refine J_get F fcX4 0 0 rfl (Nat.le_of_ble_eq_true rfl) tw_3_223 rfl rfl (dcq dc_X4_set_0 30 rfl) ?_
      refine J_iconst F (dcq dc_X4_set_0 31 rfl) ic_4 ?_
      refine J_iconst F (dcq dc_X4_set_0 32 rfl) ic_3 ?_
      refine J_iload_n F 1 (dcq dc_X4_set_0 33 rfl) rfl rfl ?_
      refine J_imul F (v := nI (3 * j_3)) (dcq dc_X4_set_0 34 rfl) (pk_mul _ _) ?_
      refine J_iadd F (v := nI (4 + 3 * j_3)) (dcq dc_X4_set_0 35 rfl) (nI_add _ _) ?_
      refine J_iconst F (dcq dc_X4_set_0 36 rfl) ic_1 ?_
      refine J_iadd F (v := nI (4 + 3 * j_3 + 1)) (dcq dc_X4_set_0 37 rfl) (nI_add _ _) ?_
      refine J_iload_n F 2 (dcq dc_X4_set_0 38 rfl) rfl rfl ?_
      refine J_iast F (ws2 := [oB 4 qm [.ref m0, .ref m1, .int (nI c2), .int (nI 0), .ref m2, .ref m3, .ref m4, .ref m5, .ref m6, .ref m7, .ref m8, .long sp, .ref m9, .ref m10, .ref m11, .long ha], aI G m0 220 (upd (upd nw (4 + 3 * j_3) (nI 0)) (4 + 3 * j_3 + 1) y), aI G m1 880 pp2]) 1 rfl (by omega) (Nat.le_of_ble_eq_true rfl) rfl (dcq dc_X4_set_0 39 rfl) ?_
      refine J_aload_n F 0 (dcq dc_X4_set_0 40 rfl) rfl rfl ?_
      refine J_callV F (wc := [oB 4 qm [.ref m0, .ref m1, .int (nI c2), .int (nI 0), .ref m2, .ref m3, .ref m4, .ref m5, .ref m6, .ref m7, .ref m8, .long sp, .ref m9, .ref m10, .ref m11, .long ha], aI G m0 220 (upd (upd nw (4 + 3 * j_3) (nI 0)) (4 + 3 * j_3 + 1) y)]) (wr := [aI G m1 880 pp2]) (rest := []) (qc := 0) (c_X4_missingOnes l hl G qm m0 m1 m2 m3 m4 m5 m6 m7 m8 m9 m10 m11 c2 0 sp ha (upd (upd nw (4 + 3 * j_3) (nI 0)) (4 + 3 * j_3 + 1) y) P M R n (upd v j_3 y) (upd g j_3 (nI 0)) d (RM_v (RM_g hRM j_3 (nI 0)) j_3 y) (by first | assumption | omega) (G01_upd h01 j_3 (Or.inl rfl))) cd_X4_missingOnes cv_X4_missingOnes rfl rfl rfl tw_4_108 [0, 1] [2] rfl rfl rfl rfl (by decide) rfl ⟨(Nat.le_of_ble_eq_true rfl), (Nat.le_of_ble_eq_true rfl), (Nat.le_of_ble_eq_true rfl), (Nat.le_of_ble_eq_true rfl)⟩ (Nat.le_of_ble_eq_true rfl) rfl (dcq dc_X4_set_0 41 rfl) ?_
      rintro _ _ ⟨rc, rfl, rfl, hrc⟩
      change J p l e (cRm 2 46 0 0) s m args below meth c G A 3 (JQ below G A (po_X4_set G qm m0 m1 m2 m3 m4 m5 m6 m7 m8 m9 m10 m11 hc rf sp ha nw P M R n v g d pp x y) args s 0 0) 0 0 66 [(0, .ref qm), (1, .int (nI j_3)), (2, .int y)] [.int (nI rc)] [aI G m1 880 pp2, oB 4 qm [.ref m0, .ref m1, .int (nI c2), .int (nI 0), .ref m2, .ref m3, .ref m4, .ref m5, .ref m6, .ref m7, .ref m8, .long sp, .ref m9, .ref m10, .ref m11, .long ha], aI G m0 220 (upd (upd nw (4 + 3 * j_3) (nI 0)) (4 + 3 * j_3 + 1) y)]
      have hrc : rc = cg (upd g j_3 (nI 0)) n := hrc
      refine J_world (ws2 := [oB 4 qm [.ref m0, .ref m1, .int (nI c2), .int (nI 0), .ref m2, .ref m3, .ref m4, .ref m5, .ref m6, .ref m7, .ref m8, .long sp, .ref m9, .ref m10, .ref m11, .long ha], aI G m0 220 (upd (upd nw (4 + 3 * j_3) (nI 0)) (4 + 3 * j_3 + 1) y), aI G m1 880 pp2]) [1, 2, 0] rfl rfl ?_
      exact J_iret F (Or.inl ⟨c2, pp2, j_3, rc, rfl, rfl, by first | assumption | omega, hxj_3, hj_3, hv_15, hrc⟩) (Nat.le_of_ble_eq_true rfl) (Nat.le_of_ble_eq_true rfl) (dcq dc_X4_set_0 42 rfl)
    · skip
      have hv_15 : ¬ ((if M = 1 then nI 1 else -1000000) ≤ y ∧ y ≤ nI 1000000) := hv_15
      change J p l e (cRm 2 46 0 0) s m args below meth c G A 3 (JQ below G A (po_X4_set G qm m0 m1 m2 m3 m4 m5 m6 m7 m8 m9 m10 m11 hc rf sp ha nw P M R n v g d pp x y) args s 0 0) 0 0 18 [(0, .ref qm), (1, .int (nI j_3)), (2, .int y)] [.int (nI 0), .ref qm] [aI G m1 880 pp, oB 4 qm [.ref m0, .ref m1, .int (nI hc), .int (nI rf), .ref m2, .ref m3, .ref m4, .ref m5, .ref m6, .ref m7, .ref m8, .long sp, .ref m9, .ref m10, .ref m11, .long ha], aI G m0 220 nw]
      refine J_world (ws2 := [oB 4 qm [.ref m0, .ref m1, .int (nI hc), .int (nI rf), .ref m2, .ref m3, .ref m4, .ref m5, .ref m6, .ref m7, .ref m8, .long sp, .ref m9, .ref m10, .ref m11, .long ha], aI G m0 220 nw, aI G m1 880 pp]) [1, 2, 0] rfl rfl ?_
      refine J_if_eq F 25 (dcq dc_X4_set_0 10 rfl) (by decide) (fun _ => ?_) (fun h_4 => absurd h_4 (by decide))
      refine J_iconst F (dcq dc_X4_set_0 13 rfl) ic_2 ?_
      refine J_callV F (wc := [oB 4 qm [.ref m0, .ref m1, .int (nI hc), .int (nI rf), .ref m2, .ref m3, .ref m4, .ref m5, .ref m6, .ref m7, .ref m8, .long sp, .ref m9, .ref m10, .ref m11, .long ha]]) (wr := [aI G m0 220 nw, aI G m1 880 pp]) (rest := []) (qc := 0) (c_X4_refused_2 l hl G qm m0 m1 m2 m3 m4 m5 m6 m7 m8 m9 m10 m11 hc rf sp ha) cd_X4_refused cv_X4_refused rfl rfl rfl tw_4_40 [0] [1, 2] rfl rfl rfl rfl (by decide) rfl ⟨(Nat.le_of_ble_eq_true rfl), (Nat.le_of_ble_eq_true rfl), (Nat.le_of_ble_eq_true rfl), (Nat.le_of_ble_eq_true rfl)⟩ (Nat.le_of_ble_eq_true rfl) rfl (dcq dc_X4_set_0 14 rfl) ?_
      rintro _ _ ⟨rfl, rfl⟩
      change J p l e (cRm 2 46 0 0) s m args below meth c G A 3 (JQ below G A (po_X4_set G qm m0 m1 m2 m3 m4 m5 m6 m7 m8 m9 m10 m11 hc rf sp ha nw P M R n v g d pp x y) args s 0 0) 0 0 29 [(0, .ref qm), (1, .int (nI j_3)), (2, .int y)] [.int (nI 1)] [aI G m0 220 nw, aI G m1 880 pp, oB 4 qm [.ref m0, .ref m1, .int (nI hc), .int (nI 2), .ref m2, .ref m3, .ref m4, .ref m5, .ref m6, .ref m7, .ref m8, .long sp, .ref m9, .ref m10, .ref m11, .long ha]]
      refine J_world (ws2 := [oB 4 qm [.ref m0, .ref m1, .int (nI hc), .int (nI 2), .ref m2, .ref m3, .ref m4, .ref m5, .ref m6, .ref m7, .ref m8, .long sp, .ref m9, .ref m10, .ref m11, .long ha], aI G m0 220 nw, aI G m1 880 pp]) [2, 0, 1] rfl rfl ?_
      refine J_if_eq F 34 (dcq dc_X4_set_0 15 rfl) (by decide) (fun h_5 => absurd h_5 (by decide)) (fun _ => ?_)
      refine J_iconst F (dcq dc_X4_set_0 16 rfl) ic_0 ?_
      exact J_iret F (Or.inr (Or.inr (⟨j_3, rfl, rfl, hxj_3, hj_3, hv_15⟩))) (Nat.le_of_ble_eq_true rfl) (Nat.le_of_ble_eq_true rfl) (dcq dc_X4_set_0 17 rfl)
  · skip
    have hx_3 : ∀ j, j < n → x ≠ nI j := hx_3
    change J p l e (cRm 2 46 0 0) s m args below meth c G A 3 (JQ below G A (po_X4_set G qm m0 m1 m2 m3 m4 m5 m6 m7 m8 m9 m10 m11 hc rf sp ha nw P M R n v g d pp x y) args s 0 0) 0 0 6 [(0, .ref qm), (1, .int x), (2, .int y)] [.int (nI 0), .ref qm] [aI G m1 880 pp, oB 4 qm [.ref m0, .ref m1, .int (nI hc), .int (nI rf), .ref m2, .ref m3, .ref m4, .ref m5, .ref m6, .ref m7, .ref m8, .long sp, .ref m9, .ref m10, .ref m11, .long ha], aI G m0 220 nw]
    refine J_world (ws2 := [oB 4 qm [.ref m0, .ref m1, .int (nI hc), .int (nI rf), .ref m2, .ref m3, .ref m4, .ref m5, .ref m6, .ref m7, .ref m8, .long sp, .ref m9, .ref m10, .ref m11, .long ha], aI G m0 220 nw, aI G m1 880 pp]) [1, 2, 0] rfl rfl ?_
    refine J_if_ne F 13 (dcq dc_X4_set_0 4 rfl) (by decide) (fun h_6 => absurd h_6 (by decide)) (fun _ => ?_)
    refine J_iconst F (dcq dc_X4_set_0 5 rfl) ic_1 ?_
    refine J_goto F 26 (dcq dc_X4_set_0 6 rfl) (by decide) ?_
    refine J_callV F (wc := [oB 4 qm [.ref m0, .ref m1, .int (nI hc), .int (nI rf), .ref m2, .ref m3, .ref m4, .ref m5, .ref m6, .ref m7, .ref m8, .long sp, .ref m9, .ref m10, .ref m11, .long ha]]) (wr := [aI G m0 220 nw, aI G m1 880 pp]) (rest := []) (qc := 0) (c_X4_refused_1 l hl G qm m0 m1 m2 m3 m4 m5 m6 m7 m8 m9 m10 m11 hc rf sp ha) cd_X4_refused cv_X4_refused rfl rfl rfl tw_4_40 [0] [1, 2] rfl rfl rfl rfl (by decide) rfl ⟨(Nat.le_of_ble_eq_true rfl), (Nat.le_of_ble_eq_true rfl), (Nat.le_of_ble_eq_true rfl), (Nat.le_of_ble_eq_true rfl)⟩ (Nat.le_of_ble_eq_true rfl) rfl (dcq dc_X4_set_0 14 rfl) ?_
    rintro _ _ ⟨rfl, rfl⟩
    change J p l e (cRm 2 46 0 0) s m args below meth c G A 3 (JQ below G A (po_X4_set G qm m0 m1 m2 m3 m4 m5 m6 m7 m8 m9 m10 m11 hc rf sp ha nw P M R n v g d pp x y) args s 0 0) 0 0 29 [(0, .ref qm), (1, .int x), (2, .int y)] [.int (nI 1)] [aI G m0 220 nw, aI G m1 880 pp, oB 4 qm [.ref m0, .ref m1, .int (nI hc), .int (nI 1), .ref m2, .ref m3, .ref m4, .ref m5, .ref m6, .ref m7, .ref m8, .long sp, .ref m9, .ref m10, .ref m11, .long ha]]
    refine J_world (ws2 := [oB 4 qm [.ref m0, .ref m1, .int (nI hc), .int (nI 1), .ref m2, .ref m3, .ref m4, .ref m5, .ref m6, .ref m7, .ref m8, .long sp, .ref m9, .ref m10, .ref m11, .long ha], aI G m0 220 nw, aI G m1 880 pp]) [2, 0, 1] rfl rfl ?_
    refine J_if_eq F 34 (dcq dc_X4_set_0 15 rfl) (by decide) (fun h_7 => absurd h_7 (by decide)) (fun _ => ?_)
    refine J_iconst F (dcq dc_X4_set_0 16 rfl) ic_0 ?_
    exact J_iret F (Or.inr (Or.inl ⟨rfl, rfl, hx_3⟩)) (Nat.le_of_ble_eq_true rfl) (Nat.le_of_ble_eq_true rfl) (dcq dc_X4_set_0 17 rfl)

abbrev po_X4_setMissing (G : Gt) (qm m0 m1 m2 m3 m4 m5 m6 m7 m8 m9 m10 m11 hc rf : Nat) (sp ha : Int64) (nw : Nat → Int32) (P M R n : Nat) (v g d : Nat → Int32) (pp : Nat → Int32) (x : Int32) : Option Value → va_W → Prop := fun (v9 : Option Value) (w9 : va_W) => (∃ (c2 : Nat), ∃ (pp2 : Nat → Int32), ∃ (j : Nat), v9 = some (.int (v j)) ∧ w9 = [oB 4 qm [.ref m0, .ref m1, .int (nI c2), .int (nI 0), .ref m2, .ref m3, .ref m4, .ref m5, .ref m6, .ref m7, .ref m8, .long sp, .ref m9, .ref m10, .ref m11, .long ha], aI G m0 220 (upd (upd nw (4 + 3 * j) (nI 1)) (4 + 3 * j + 1) (nI 0)), aI G m1 880 pp2] ∧ (MSV hc pp nw c2 pp2) ∧ (x = nI j) ∧ (j < n) ∧ (g j = 0)) ∨ (v9 = some (.int (nI 0)) ∧ w9 = [oB 4 qm [.ref m0, .ref m1, .int (nI hc), .int (nI 1), .ref m2, .ref m3, .ref m4, .ref m5, .ref m6, .ref m7, .ref m8, .long sp, .ref m9, .ref m10, .ref m11, .long ha], aI G m0 220 nw, aI G m1 880 pp] ∧ (∀ j, j < n → x ≠ nI j)) ∨ (∃ (j : Nat), v9 = some (.int (nI 0)) ∧ w9 = [oB 4 qm [.ref m0, .ref m1, .int (nI hc), .int (nI 2), .ref m2, .ref m3, .ref m4, .ref m5, .ref m6, .ref m7, .ref m8, .long sp, .ref m9, .ref m10, .ref m11, .long ha], aI G m0 220 nw, aI G m1 880 pp] ∧ (x = nI j) ∧ (j < n) ∧ (¬ g j = 0))
set_option maxHeartbeats 4000000 in
set_option maxRecDepth 100000 in
theorem c_X4_setMissing (l : Launch) (hl : l.stackTraces = false) (G : Gt) (qm m0 m1 m2 m3 m4 m5 m6 m7 m8 m9 m10 m11 hc rf : Nat) (sp ha : Int64) (nw : Nat → Int32) (P M R n : Nat) (v g d : Nat → Int32) (pp : Nat → Int32) (x : Int32) (hRM : RM nw P M R n v g d) (hhc : hc ≤ 4) (hn : n ≤ 72) (h01 : G01 n g) : Con l G yX4_setMissing cX4_setMissing 3 (some .int) 2 46 0 0 [.ref qm, .int x] [oB 4 qm [.ref m0, .ref m1, .int (nI hc), .int (nI rf), .ref m2, .ref m3, .ref m4, .ref m5, .ref m6, .ref m7, .ref m8, .long sp, .ref m9, .ref m10, .ref m11, .long ha], aI G m0 220 nw, aI G m1 880 pp] (po_X4_setMissing G qm m0 m1 m2 m3 m4 m5 m6 m7 m8 m9 m10 m11 hc rf sp ha nw P M R n v g d pp x) := by
  refine Con.of hl cd_X4_setMissing (Nat.le_of_ble_eq_true rfl) ?_
  intro p e s m args below meth c A F hin9
  change Fx p l s m args meth c G A "SeasonalAdjusterModel" cX4_setMissing 3 (some .int) at F
  change J p l e (cRm 2 46 0 0) s m args below meth c G A 3 (JQ below G A (po_X4_setMissing G qm m0 m1 m2 m3 m4 m5 m6 m7 m8 m9 m10 m11 hc rf sp ha nw P M R n v g d pp x) args s 0 0) 0 0 0 [(0, .ref qm), (1, .int x)] [] [oB 4 qm [.ref m0, .ref m1, .int (nI hc), .int (nI rf), .ref m2, .ref m3, .ref m4, .ref m5, .ref m6, .ref m7, .ref m8, .long sp, .ref m9, .ref m10, .ref m11, .long ha], aI G m0 220 nw, aI G m1 880 pp]
  refine J_aload_n F 0 (dcq dc_X4_setMissing_0 0 rfl) rfl rfl ?_
  refine J_aload_n F 0 (dcq dc_X4_setMissing_0 1 rfl) rfl rfl ?_
  refine J_iload_n F 1 (dcq dc_X4_setMissing_0 2 rfl) rfl rfl ?_
  refine J_callV F (wc := [oB 4 qm [.ref m0, .ref m1, .int (nI hc), .int (nI rf), .ref m2, .ref m3, .ref m4, .ref m5, .ref m6, .ref m7, .ref m8, .long sp, .ref m9, .ref m10, .ref m11, .long ha], aI G m0 220 nw]) (wr := [aI G m1 880 pp]) (rest := [.ref qm]) (qc := 0) (c_X4_isEntry l hl G qm m0 m1 m2 m3 m4 m5 m6 m7 m8 m9 m10 m11 hc rf sp ha nw P M R n v g d x (by first | assumption | omega) (by first | assumption | omega)) cd_X4_isEntry cv_X4_isEntry rfl rfl rfl tw_4_104 [0, 1] [2] rfl rfl rfl rfl (by decide) rfl ⟨(Nat.le_of_ble_eq_true rfl), (Nat.le_of_ble_eq_true rfl), (Nat.le_of_ble_eq_true rfl), (Nat.le_of_ble_eq_true rfl)⟩ (Nat.le_of_ble_eq_true rfl) rfl (dcq dc_X4_setMissing_0 3 rfl) ?_
  rintro _ _ h9x
  rcases h9x with ⟨j_3, rfl, rfl, hxj_3, hj_3⟩ | ⟨rfl, rfl, hx_3⟩
  · skip
    have hxj_3 : x = nI j_3 := hxj_3
    have hj_3 : j_3 < n := hj_3
    change J p l e (cRm 2 46 0 0) s m args below meth c G A 3 (JQ below G A (po_X4_setMissing G qm m0 m1 m2 m3 m4 m5 m6 m7 m8 m9 m10 m11 hc rf sp ha nw P M R n v g d pp x) args s 0 0) 0 0 6 [(0, .ref qm), (1, .int x)] [.int (nI 1), .ref qm] [aI G m1 880 pp, oB 4 qm [.ref m0, .ref m1, .int (nI hc), .int (nI rf), .ref m2, .ref m3, .ref m4, .ref m5, .ref m6, .ref m7, .ref m8, .long sp, .ref m9, .ref m10, .ref m11, .long ha], aI G m0 220 nw]
    refine J_world (ws2 := [oB 4 qm [.ref m0, .ref m1, .int (nI hc), .int (nI rf), .ref m2, .ref m3, .ref m4, .ref m5, .ref m6, .ref m7, .ref m8, .long sp, .ref m9, .ref m10, .ref m11, .long ha], aI G m0 220 nw, aI G m1 880 pp]) [1, 2, 0] rfl rfl ?_
    refine J_cast (lv2 := [(0, .ref qm), (1, .int (nI j_3))]) (st2 := [.int (nI 1), .ref qm]) (ws2 := [oB 4 qm [.ref m0, .ref m1, .int (nI hc), .int (nI rf), .ref m2, .ref m3, .ref m4, .ref m5, .ref m6, .ref m7, .ref m8, .long sp, .ref m9, .ref m10, .ref m11, .long ha], aI G m0 220 nw, aI G m1 880 pp]) (by rw [hxj_3]) (rfl) (rfl) ?_
    refine J_if_ne F 13 (dcq dc_X4_setMissing_0 4 rfl) (by decide) (fun _ => ?_) (fun h_1 => absurd h_1 (by decide))
    refine J_aload_n F 0 (dcq dc_X4_setMissing_0 7 rfl) rfl rfl ?_
    refine J_iload_n F 1 (dcq dc_X4_setMissing_0 8 rfl) rfl rfl ?_
    refine J_callV F (wc := [oB 4 qm [.ref m0, .ref m1, .int (nI hc), .int (nI rf), .ref m2, .ref m3, .ref m4, .ref m5, .ref m6, .ref m7, .ref m8, .long sp, .ref m9, .ref m10, .ref m11, .long ha], aI G m0 220 nw]) (wr := [aI G m1 880 pp]) (rest := [.ref qm]) (qc := 0) (c_X4_isMissing l hl G qm m0 m1 m2 m3 m4 m5 m6 m7 m8 m9 m10 m11 hc rf sp ha nw P M R n v g d j_3 (by first | assumption | omega) (by first | assumption | omega) (by first | assumption | omega) (by first | assumption | omega)) cd_X4_isMissing cv_X4_isMissing rfl rfl rfl tw_4_69 [0, 1] [2] rfl rfl rfl rfl (by decide) rfl ⟨(Nat.le_of_ble_eq_true rfl), (Nat.le_of_ble_eq_true rfl), (Nat.le_of_ble_eq_true rfl), (Nat.le_of_ble_eq_true rfl)⟩ (Nat.le_of_ble_eq_true rfl) rfl (dcq dc_X4_setMissing_0 9 rfl) ?_
    rintro _ _ h9x
    rcases h9x with ⟨rfl, rfl, hg_15⟩ | ⟨rfl, rfl, hg_15⟩
    · skip
      have hg_15 : ¬ g j_3 = 0 := hg_15
      change J p l e (cRm 2 46 0 0) s m args below meth c G A 3 (JQ below G A (po_X4_setMissing G qm m0 m1 m2 m3 m4 m5 m6 m7 m8 m9 m10 m11 hc rf sp ha nw P M R n v g d pp x) args s 0 0) 0 0 18 [(0, .ref qm), (1, .int (nI j_3))] [.int (nI 1), .ref qm] [aI G m1 880 pp, oB 4 qm [.ref m0, .ref m1, .int (nI hc), .int (nI rf), .ref m2, .ref m3, .ref m4, .ref m5, .ref m6, .ref m7, .ref m8, .long sp, .ref m9, .ref m10, .ref m11, .long ha], aI G m0 220 nw]
      refine J_world (ws2 := [oB 4 qm [.ref m0, .ref m1, .int (nI hc), .int (nI rf), .ref m2, .ref m3, .ref m4, .ref m5, .ref m6, .ref m7, .ref m8, .long sp, .ref m9, .ref m10, .ref m11, .long ha], aI G m0 220 nw, aI G m1 880 pp]) [1, 2, 0] rfl rfl ?_
      refine J_if_eq F 25 (dcq dc_X4_setMissing_0 10 rfl) (by decide) (fun h_2 => absurd h_2 (by decide)) (fun _ => ?_)
      refine J_iconst F (dcq dc_X4_setMissing_0 11 rfl) ic_2 ?_
      refine J_goto F 26 (dcq dc_X4_setMissing_0 12 rfl) (by decide) ?_
      refine J_callV F (wc := [oB 4 qm [.ref m0, .ref m1, .int (nI hc), .int (nI rf), .ref m2, .ref m3, .ref m4, .ref m5, .ref m6, .ref m7, .ref m8, .long sp, .ref m9, .ref m10, .ref m11, .long ha]]) (wr := [aI G m0 220 nw, aI G m1 880 pp]) (rest := []) (qc := 0) (c_X4_refused_2 l hl G qm m0 m1 m2 m3 m4 m5 m6 m7 m8 m9 m10 m11 hc rf sp ha) cd_X4_refused cv_X4_refused rfl rfl rfl tw_4_40 [0] [1, 2] rfl rfl rfl rfl (by decide) rfl ⟨(Nat.le_of_ble_eq_true rfl), (Nat.le_of_ble_eq_true rfl), (Nat.le_of_ble_eq_true rfl), (Nat.le_of_ble_eq_true rfl)⟩ (Nat.le_of_ble_eq_true rfl) rfl (dcq dc_X4_setMissing_0 14 rfl) ?_
      rintro _ _ ⟨rfl, rfl⟩
      change J p l e (cRm 2 46 0 0) s m args below meth c G A 3 (JQ below G A (po_X4_setMissing G qm m0 m1 m2 m3 m4 m5 m6 m7 m8 m9 m10 m11 hc rf sp ha nw P M R n v g d pp x) args s 0 0) 0 0 29 [(0, .ref qm), (1, .int (nI j_3))] [.int (nI 1)] [aI G m0 220 nw, aI G m1 880 pp, oB 4 qm [.ref m0, .ref m1, .int (nI hc), .int (nI 2), .ref m2, .ref m3, .ref m4, .ref m5, .ref m6, .ref m7, .ref m8, .long sp, .ref m9, .ref m10, .ref m11, .long ha]]
      refine J_world (ws2 := [oB 4 qm [.ref m0, .ref m1, .int (nI hc), .int (nI 2), .ref m2, .ref m3, .ref m4, .ref m5, .ref m6, .ref m7, .ref m8, .long sp, .ref m9, .ref m10, .ref m11, .long ha], aI G m0 220 nw, aI G m1 880 pp]) [2, 0, 1] rfl rfl ?_
      refine J_if_eq F 34 (dcq dc_X4_setMissing_0 15 rfl) (by decide) (fun h_3 => absurd h_3 (by decide)) (fun _ => ?_)
      refine J_iconst F (dcq dc_X4_setMissing_0 16 rfl) ic_0 ?_
      exact J_iret F (Or.inr (Or.inr (⟨j_3, rfl, rfl, hxj_3, hj_3, hg_15⟩))) (Nat.le_of_ble_eq_true rfl) (Nat.le_of_ble_eq_true rfl) (dcq dc_X4_setMissing_0 17 rfl)
    · skip
      have hg_15 : g j_3 = 0 := hg_15
      change J p l e (cRm 2 46 0 0) s m args below meth c G A 3 (JQ below G A (po_X4_setMissing G qm m0 m1 m2 m3 m4 m5 m6 m7 m8 m9 m10 m11 hc rf sp ha nw P M R n v g d pp x) args s 0 0) 0 0 18 [(0, .ref qm), (1, .int (nI j_3))] [.int (nI 0), .ref qm] [aI G m1 880 pp, oB 4 qm [.ref m0, .ref m1, .int (nI hc), .int (nI rf), .ref m2, .ref m3, .ref m4, .ref m5, .ref m6, .ref m7, .ref m8, .long sp, .ref m9, .ref m10, .ref m11, .long ha], aI G m0 220 nw]
      refine J_world (ws2 := [oB 4 qm [.ref m0, .ref m1, .int (nI hc), .int (nI rf), .ref m2, .ref m3, .ref m4, .ref m5, .ref m6, .ref m7, .ref m8, .long sp, .ref m9, .ref m10, .ref m11, .long ha], aI G m0 220 nw, aI G m1 880 pp]) [1, 2, 0] rfl rfl ?_
      refine J_if_eq F 25 (dcq dc_X4_setMissing_0 10 rfl) (by decide) (fun _ => ?_) (fun h_4 => absurd h_4 (by decide))
      refine J_iconst F (dcq dc_X4_setMissing_0 13 rfl) ic_0 ?_
      refine J_callV F (wc := [oB 4 qm [.ref m0, .ref m1, .int (nI hc), .int (nI rf), .ref m2, .ref m3, .ref m4, .ref m5, .ref m6, .ref m7, .ref m8, .long sp, .ref m9, .ref m10, .ref m11, .long ha]]) (wr := [aI G m0 220 nw, aI G m1 880 pp]) (rest := []) (qc := 0) (c_X4_refused_0 l hl G qm m0 m1 m2 m3 m4 m5 m6 m7 m8 m9 m10 m11 hc rf sp ha) cd_X4_refused cv_X4_refused rfl rfl rfl tw_4_40 [0] [1, 2] rfl rfl rfl rfl (by decide) rfl ⟨(Nat.le_of_ble_eq_true rfl), (Nat.le_of_ble_eq_true rfl), (Nat.le_of_ble_eq_true rfl), (Nat.le_of_ble_eq_true rfl)⟩ (Nat.le_of_ble_eq_true rfl) rfl (dcq dc_X4_setMissing_0 14 rfl) ?_
      rintro _ _ ⟨rfl, rfl⟩
      change J p l e (cRm 2 46 0 0) s m args below meth c G A 3 (JQ below G A (po_X4_setMissing G qm m0 m1 m2 m3 m4 m5 m6 m7 m8 m9 m10 m11 hc rf sp ha nw P M R n v g d pp x) args s 0 0) 0 0 29 [(0, .ref qm), (1, .int (nI j_3))] [.int (nI 0)] [aI G m0 220 nw, aI G m1 880 pp, oB 4 qm [.ref m0, .ref m1, .int (nI hc), .int (nI 0), .ref m2, .ref m3, .ref m4, .ref m5, .ref m6, .ref m7, .ref m8, .long sp, .ref m9, .ref m10, .ref m11, .long ha]]
      refine J_world (ws2 := [oB 4 qm [.ref m0, .ref m1, .int (nI hc), .int (nI 0), .ref m2, .ref m3, .ref m4, .ref m5, .ref m6, .ref m7, .ref m8, .long sp, .ref m9, .ref m10, .ref m11, .long ha], aI G m0 220 nw, aI G m1 880 pp]) [2, 0, 1] rfl rfl ?_
      refine J_if_eq F 34 (dcq dc_X4_setMissing_0 15 rfl) (by decide) (fun _ => ?_) (fun h_5 => absurd h_5 (by decide))
      refine J_aload_n F 0 (dcq dc_X4_setMissing_0 18 rfl) rfl rfl ?_
      refine J_callV F (wc := [oB 4 qm [.ref m0, .ref m1, .int (nI hc), .int (nI 0), .ref m2, .ref m3, .ref m4, .ref m5, .ref m6, .ref m7, .ref m8, .long sp, .ref m9, .ref m10, .ref m11, .long ha], aI G m0 220 nw, aI G m1 880 pp]) (wr := []) (rest := []) (qc := 0) (c_X4_saves l hl G qm m0 m1 m2 m3 m4 m5 m6 m7 m8 m9 m10 m11 hc 0 sp ha nw pp (by first | assumption | omega)) cd_X4_saves cv_X4_saves rfl rfl rfl tw_4_57 [0, 1, 2] [] rfl rfl rfl rfl (by decide) rfl ⟨(Nat.le_of_ble_eq_true rfl), (Nat.le_of_ble_eq_true rfl), (Nat.le_of_ble_eq_true rfl), (Nat.le_of_ble_eq_true rfl)⟩ (Nat.le_of_ble_eq_true rfl) rfl (dcq dc_X4_setMissing_0 19 rfl) ?_
      rintro _ _ ⟨c2, pp2, rfl, rfl, hms⟩
      change J p l e (cRm 2 46 0 0) s m args below meth c G A 3 (JQ below G A (po_X4_setMissing G qm m0 m1 m2 m3 m4 m5 m6 m7 m8 m9 m10 m11 hc rf sp ha nw P M R n v g d pp x) args s 0 0) 0 0 38 [(0, .ref qm), (1, .int (nI j_3))] [] [oB 4 qm [.ref m0, .ref m1, .int (nI c2), .int (nI 0), .ref m2, .ref m3, .ref m4, .ref m5, .ref m6, .ref m7, .ref m8, .long sp, .ref m9, .ref m10, .ref m11, .long ha], aI G m0 220 nw, aI G m1 880 pp2]
      have hms : MSV hc pp nw c2 pp2 := hms
      refine J_aload_n F 0 (dcq dc_X4_setMissing_0 20 rfl) rfl rfl ?_
      refine J_iload_n F 1 (dcq dc_X4_setMissing_0 21 rfl) rfl rfl ?_
      refine J_callV F (wc := [oB 4 qm [.ref m0, .ref m1, .int (nI c2), .int (nI 0), .ref m2, .ref m3, .ref m4, .ref m5, .ref m6, .ref m7, .ref m8, .long sp, .ref m9, .ref m10, .ref m11, .long ha], aI G m0 220 nw]) (wr := [aI G m1 880 pp2]) (rest := []) (qc := 0) (c_X4_valueAt l hl G qm m0 m1 m2 m3 m4 m5 m6 m7 m8 m9 m10 m11 c2 0 sp ha nw P M R n v g d j_3 (by first | assumption | omega) (by first | assumption | omega) (by first | assumption | omega)) cd_X4_valueAt cv_X4_valueAt rfl rfl rfl tw_4_73 [0, 1] [2] rfl rfl rfl rfl (by decide) rfl ⟨(Nat.le_of_ble_eq_true rfl), (Nat.le_of_ble_eq_true rfl), (Nat.le_of_ble_eq_true rfl), (Nat.le_of_ble_eq_true rfl)⟩ (Nat.le_of_ble_eq_true rfl) rfl (dcq dc_X4_setMissing_0 22 rfl) ?_
      rintro _ _ ⟨rfl, rfl⟩
      change J p l e (cRm 2 46 0 0) s m args below meth c G A 3 (JQ below G A (po_X4_setMissing G qm m0 m1 m2 m3 m4 m5 m6 m7 m8 m9 m10 m11 hc rf sp ha nw P M R n v g d pp x) args s 0 0) 0 0 43 [(0, .ref qm), (1, .int (nI j_3))] [.int (v j_3)] [aI G m1 880 pp2, oB 4 qm [.ref m0, .ref m1, .int (nI c2), .int (nI 0), .ref m2, .ref m3, .ref m4, .ref m5, .ref m6, .ref m7, .ref m8, .long sp, .ref m9, .ref m10, .ref m11, .long ha], aI G m0 220 nw]
      refine J_world (ws2 := [oB 4 qm [.ref m0, .ref m1, .int (nI c2), .int (nI 0), .ref m2, .ref m3, .ref m4, .ref m5, .ref m6, .ref m7, .ref m8, .long sp, .ref m9, .ref m10, .ref m11, .long ha], aI G m0 220 nw, aI G m1 880 pp2]) [1, 2, 0] rfl rfl ?_
      refine J_istore_n F (lv2 := [(2, .int (v j_3)), (0, .ref qm), (1, .int (nI j_3))]) (dcq dc_X4_setMissing_0 23 rfl) rfl (Nat.le_of_ble_eq_true rfl) rfl ?_
      refine J_aload_n F 1 (dcq dc_X4_setMissing_0 24 rfl) rfl rfl ?_
      refine J_get F fcX4 0 0 rfl (Nat.le_of_ble_eq_true rfl) tw_3_223 rfl rfl (dcq dc_X4_setMissing_0 25 rfl) ?_
      refine J_iconst F (dcq dc_X4_setMissing_0 26 rfl) ic_4 ?_
      refine J_iconst F (dcq dc_X4_setMissing_0 27 rfl) ic_3 ?_
      refine J_iload_n F 2 (dcq dc_X4_setMissing_0 28 rfl) rfl rfl ?_
      refine J_imul F (v := nI (3 * j_3)) (dcq dc_X4_setMissing_0 29 rfl) (pk_mul _ _) ?_
      refine J_iadd F (v := nI (4 + 3 * j_3)) (dcq dc_X4_setMissing_0 30 rfl) (nI_add _ _) ?_
      refine J_iconst F (dcq dc_X4_setMissing_0 31 rfl) ic_1 ?_
      refine J_iast F (ws2 := [oB 4 qm [.ref m0, .ref m1, .int (nI c2), .int (nI 0), .ref m2, .ref m3, .ref m4, .ref m5, .ref m6, .ref m7, .ref m8, .long sp, .ref m9, .ref m10, .ref m11, .long ha], aI G m0 220 (upd nw (4 + 3 * j_3) (nI 1)), aI G m1 880 pp2]) 1 rfl (by omega) (Nat.le_of_ble_eq_true rfl) rfl (dcq dc_X4_setMissing_0 32 rfl) ?_
      refine J_aload_n F 1 (dcq dc_X4_setMissing_0 33 rfl) rfl rfl ?_
      refine J_get F fcX4 0 0 rfl (Nat.le_of_ble_eq_true rfl) tw_3_223 rfl rfl (dcq dc_X4_setMissing_0 34 rfl) ?_
      refine J_iconst F (dcq dc_X4_setMissing_0 35 rfl) ic_4 ?_
      refine J_iconst F (dcq dc_X4_setMissing_0 36 rfl) ic_3 ?_
      refine J_iload_n F 2 (dcq dc_X4_setMissing_0 37 rfl) rfl rfl ?_
      refine J_imul F (v := nI (3 * j_3)) (dcq dc_X4_setMissing_0 38 rfl) (pk_mul _ _) ?_
      refine J_iadd F (v := nI (4 + 3 * j_3)) (dcq dc_X4_setMissing_0 39 rfl) (nI_add _ _) ?_
      refine J_iconst F (dcq dc_X4_setMissing_0 40 rfl) ic_1 ?_
      refine J_iadd F (v := nI (4 + 3 * j_3 + 1)) (dcq dc_X4_setMissing_0 41 rfl) (nI_add _ _) ?_
      refine J_iconst F (dcq dc_X4_setMissing_0 42 rfl) ic_0 ?_
      refine J_iast F (ws2 := [oB 4 qm [.ref m0, .ref m1, .int (nI c2), .int (nI 0), .ref m2, .ref m3, .ref m4, .ref m5, .ref m6, .ref m7, .ref m8, .long sp, .ref m9, .ref m10, .ref m11, .long ha], aI G m0 220 (upd (upd nw (4 + 3 * j_3) (nI 1)) (4 + 3 * j_3 + 1) (nI 0)), aI G m1 880 pp2]) 1 rfl (by omega) (Nat.le_of_ble_eq_true rfl) rfl (dcq dc_X4_setMissing_0 43 rfl) ?_
      refine J_iload_n F 0 (dcq dc_X4_setMissing_0 44 rfl) rfl rfl ?_
      exact J_iret F (Or.inl ⟨c2, pp2, j_3, rfl, rfl, by first | assumption | omega, hxj_3, hj_3, hg_15⟩) (Nat.le_of_ble_eq_true rfl) (Nat.le_of_ble_eq_true rfl) (dcq dc_X4_setMissing_0 45 rfl)
  · skip
    have hx_3 : ∀ j, j < n → x ≠ nI j := hx_3
    change J p l e (cRm 2 46 0 0) s m args below meth c G A 3 (JQ below G A (po_X4_setMissing G qm m0 m1 m2 m3 m4 m5 m6 m7 m8 m9 m10 m11 hc rf sp ha nw P M R n v g d pp x) args s 0 0) 0 0 6 [(0, .ref qm), (1, .int x)] [.int (nI 0), .ref qm] [aI G m1 880 pp, oB 4 qm [.ref m0, .ref m1, .int (nI hc), .int (nI rf), .ref m2, .ref m3, .ref m4, .ref m5, .ref m6, .ref m7, .ref m8, .long sp, .ref m9, .ref m10, .ref m11, .long ha], aI G m0 220 nw]
    refine J_world (ws2 := [oB 4 qm [.ref m0, .ref m1, .int (nI hc), .int (nI rf), .ref m2, .ref m3, .ref m4, .ref m5, .ref m6, .ref m7, .ref m8, .long sp, .ref m9, .ref m10, .ref m11, .long ha], aI G m0 220 nw, aI G m1 880 pp]) [1, 2, 0] rfl rfl ?_
    refine J_if_ne F 13 (dcq dc_X4_setMissing_0 4 rfl) (by decide) (fun h_6 => absurd h_6 (by decide)) (fun _ => ?_)
    refine J_iconst F (dcq dc_X4_setMissing_0 5 rfl) ic_1 ?_
    refine J_goto F 26 (dcq dc_X4_setMissing_0 6 rfl) (by decide) ?_
    refine J_callV F (wc := [oB 4 qm [.ref m0, .ref m1, .int (nI hc), .int (nI rf), .ref m2, .ref m3, .ref m4, .ref m5, .ref m6, .ref m7, .ref m8, .long sp, .ref m9, .ref m10, .ref m11, .long ha]]) (wr := [aI G m0 220 nw, aI G m1 880 pp]) (rest := []) (qc := 0) (c_X4_refused_1 l hl G qm m0 m1 m2 m3 m4 m5 m6 m7 m8 m9 m10 m11 hc rf sp ha) cd_X4_refused cv_X4_refused rfl rfl rfl tw_4_40 [0] [1, 2] rfl rfl rfl rfl (by decide) rfl ⟨(Nat.le_of_ble_eq_true rfl), (Nat.le_of_ble_eq_true rfl), (Nat.le_of_ble_eq_true rfl), (Nat.le_of_ble_eq_true rfl)⟩ (Nat.le_of_ble_eq_true rfl) rfl (dcq dc_X4_setMissing_0 14 rfl) ?_
    rintro _ _ ⟨rfl, rfl⟩
    change J p l e (cRm 2 46 0 0) s m args below meth c G A 3 (JQ below G A (po_X4_setMissing G qm m0 m1 m2 m3 m4 m5 m6 m7 m8 m9 m10 m11 hc rf sp ha nw P M R n v g d pp x) args s 0 0) 0 0 29 [(0, .ref qm), (1, .int x)] [.int (nI 1)] [aI G m0 220 nw, aI G m1 880 pp, oB 4 qm [.ref m0, .ref m1, .int (nI hc), .int (nI 1), .ref m2, .ref m3, .ref m4, .ref m5, .ref m6, .ref m7, .ref m8, .long sp, .ref m9, .ref m10, .ref m11, .long ha]]
    refine J_world (ws2 := [oB 4 qm [.ref m0, .ref m1, .int (nI hc), .int (nI 1), .ref m2, .ref m3, .ref m4, .ref m5, .ref m6, .ref m7, .ref m8, .long sp, .ref m9, .ref m10, .ref m11, .long ha], aI G m0 220 nw, aI G m1 880 pp]) [2, 0, 1] rfl rfl ?_
    refine J_if_eq F 34 (dcq dc_X4_setMissing_0 15 rfl) (by decide) (fun h_7 => absurd h_7 (by decide)) (fun _ => ?_)
    refine J_iconst F (dcq dc_X4_setMissing_0 16 rfl) ic_0 ?_
    exact J_iret F (Or.inr (Or.inl ⟨rfl, rfl, hx_3⟩)) (Nat.le_of_ble_eq_true rfl) (Nat.le_of_ble_eq_true rfl) (dcq dc_X4_setMissing_0 17 rfl)

abbrev po_X4_setDays (G : Gt) (qm m0 m1 m2 m3 m4 m5 m6 m7 m8 m9 m10 m11 hc rf : Nat) (sp ha : Int64) (nw : Nat → Int32) (P M R n : Nat) (v g d : Nat → Int32) (pp : Nat → Int32) (x y : Int32) : Option Value → va_W → Prop := fun (v9 : Option Value) (w9 : va_W) => (∃ (c2 : Nat), ∃ (pp2 : Nat → Int32), ∃ (j : Nat), v9 = some (.int (d j)) ∧ w9 = [oB 4 qm [.ref m0, .ref m1, .int (nI c2), .int (nI 0), .ref m2, .ref m3, .ref m4, .ref m5, .ref m6, .ref m7, .ref m8, .long sp, .ref m9, .ref m10, .ref m11, .long ha], aI G m0 220 (upd nw (4 + 3 * j + 2) y), aI G m1 880 pp2] ∧ (MSV hc pp nw c2 pp2) ∧ (x = nI j) ∧ (j < n) ∧ (nI 0 ≤ y ∧ y ≤ nI 31)) ∨ (v9 = some (.int (nI 0)) ∧ w9 = [oB 4 qm [.ref m0, .ref m1, .int (nI hc), .int (nI 1), .ref m2, .ref m3, .ref m4, .ref m5, .ref m6, .ref m7, .ref m8, .long sp, .ref m9, .ref m10, .ref m11, .long ha], aI G m0 220 nw, aI G m1 880 pp] ∧ (∀ j, j < n → x ≠ nI j)) ∨ (∃ (j : Nat), v9 = some (.int (nI 0)) ∧ w9 = [oB 4 qm [.ref m0, .ref m1, .int (nI hc), .int (nI 2), .ref m2, .ref m3, .ref m4, .ref m5, .ref m6, .ref m7, .ref m8, .long sp, .ref m9, .ref m10, .ref m11, .long ha], aI G m0 220 nw, aI G m1 880 pp] ∧ (x = nI j) ∧ (j < n) ∧ (¬ (nI 0 ≤ y ∧ y ≤ nI 31)))
set_option maxHeartbeats 4000000 in
set_option maxRecDepth 100000 in
theorem c_X4_setDays (l : Launch) (hl : l.stackTraces = false) (G : Gt) (qm m0 m1 m2 m3 m4 m5 m6 m7 m8 m9 m10 m11 hc rf : Nat) (sp ha : Int64) (nw : Nat → Int32) (P M R n : Nat) (v g d : Nat → Int32) (pp : Nat → Int32) (x y : Int32) (hRM : RM nw P M R n v g d) (hhc : hc ≤ 4) (hn : n ≤ 72) : Con l G yX4_setDays cX4_setDays 3 (some .int) 2 46 0 0 [.ref qm, .int x, .int y] [oB 4 qm [.ref m0, .ref m1, .int (nI hc), .int (nI rf), .ref m2, .ref m3, .ref m4, .ref m5, .ref m6, .ref m7, .ref m8, .long sp, .ref m9, .ref m10, .ref m11, .long ha], aI G m0 220 nw, aI G m1 880 pp] (po_X4_setDays G qm m0 m1 m2 m3 m4 m5 m6 m7 m8 m9 m10 m11 hc rf sp ha nw P M R n v g d pp x y) := by
  refine Con.of hl cd_X4_setDays (Nat.le_of_ble_eq_true rfl) ?_
  intro p e s m args below meth c A F hin9
  change Fx p l s m args meth c G A "SeasonalAdjusterModel" cX4_setDays 3 (some .int) at F
  change J p l e (cRm 2 46 0 0) s m args below meth c G A 3 (JQ below G A (po_X4_setDays G qm m0 m1 m2 m3 m4 m5 m6 m7 m8 m9 m10 m11 hc rf sp ha nw P M R n v g d pp x y) args s 0 0) 0 0 0 [(0, .ref qm), (1, .int x), (2, .int y)] [] [oB 4 qm [.ref m0, .ref m1, .int (nI hc), .int (nI rf), .ref m2, .ref m3, .ref m4, .ref m5, .ref m6, .ref m7, .ref m8, .long sp, .ref m9, .ref m10, .ref m11, .long ha], aI G m0 220 nw, aI G m1 880 pp]
  refine J_aload_n F 0 (dcq dc_X4_setDays_0 0 rfl) rfl rfl ?_
  refine J_aload_n F 0 (dcq dc_X4_setDays_0 1 rfl) rfl rfl ?_
  refine J_iload_n F 1 (dcq dc_X4_setDays_0 2 rfl) rfl rfl ?_
  refine J_callV F (wc := [oB 4 qm [.ref m0, .ref m1, .int (nI hc), .int (nI rf), .ref m2, .ref m3, .ref m4, .ref m5, .ref m6, .ref m7, .ref m8, .long sp, .ref m9, .ref m10, .ref m11, .long ha], aI G m0 220 nw]) (wr := [aI G m1 880 pp]) (rest := [.ref qm]) (qc := 0) (c_X4_isEntry l hl G qm m0 m1 m2 m3 m4 m5 m6 m7 m8 m9 m10 m11 hc rf sp ha nw P M R n v g d x (by first | assumption | omega) (by first | assumption | omega)) cd_X4_isEntry cv_X4_isEntry rfl rfl rfl tw_4_104 [0, 1] [2] rfl rfl rfl rfl (by decide) rfl ⟨(Nat.le_of_ble_eq_true rfl), (Nat.le_of_ble_eq_true rfl), (Nat.le_of_ble_eq_true rfl), (Nat.le_of_ble_eq_true rfl)⟩ (Nat.le_of_ble_eq_true rfl) rfl (dcq dc_X4_setDays_0 3 rfl) ?_
  rintro _ _ h9x
  rcases h9x with ⟨j_3, rfl, rfl, hxj_3, hj_3⟩ | ⟨rfl, rfl, hx_3⟩
  · skip
    have hxj_3 : x = nI j_3 := hxj_3
    have hj_3 : j_3 < n := hj_3
    change J p l e (cRm 2 46 0 0) s m args below meth c G A 3 (JQ below G A (po_X4_setDays G qm m0 m1 m2 m3 m4 m5 m6 m7 m8 m9 m10 m11 hc rf sp ha nw P M R n v g d pp x y) args s 0 0) 0 0 6 [(0, .ref qm), (1, .int x), (2, .int y)] [.int (nI 1), .ref qm] [aI G m1 880 pp, oB 4 qm [.ref m0, .ref m1, .int (nI hc), .int (nI rf), .ref m2, .ref m3, .ref m4, .ref m5, .ref m6, .ref m7, .ref m8, .long sp, .ref m9, .ref m10, .ref m11, .long ha], aI G m0 220 nw]
    refine J_world (ws2 := [oB 4 qm [.ref m0, .ref m1, .int (nI hc), .int (nI rf), .ref m2, .ref m3, .ref m4, .ref m5, .ref m6, .ref m7, .ref m8, .long sp, .ref m9, .ref m10, .ref m11, .long ha], aI G m0 220 nw, aI G m1 880 pp]) [1, 2, 0] rfl rfl ?_
    refine J_cast (lv2 := [(0, .ref qm), (1, .int (nI j_3)), (2, .int y)]) (st2 := [.int (nI 1), .ref qm]) (ws2 := [oB 4 qm [.ref m0, .ref m1, .int (nI hc), .int (nI rf), .ref m2, .ref m3, .ref m4, .ref m5, .ref m6, .ref m7, .ref m8, .long sp, .ref m9, .ref m10, .ref m11, .long ha], aI G m0 220 nw, aI G m1 880 pp]) (by rw [hxj_3]) (rfl) (rfl) ?_
    refine J_if_ne F 13 (dcq dc_X4_setDays_0 4 rfl) (by decide) (fun _ => ?_) (fun h_1 => absurd h_1 (by decide))
    refine J_iload_n F 2 (dcq dc_X4_setDays_0 7 rfl) rfl rfl ?_
    refine J_i2l F (v := y.toInt64) (dcq dc_X4_setDays_0 8 rfl) rfl ?_
    refine J_lconst F (dcq dc_X4_setDays_0 9 rfl) lc_0 ?_
    refine J_ldc2 F (v2 := (31)) tw_4_120 rfl (dcq dc_X4_setDays_0 10 rfl) ?_
    refine J_callS F (wc := []) (wr := [oB 4 qm [.ref m0, .ref m1, .int (nI hc), .int (nI rf), .ref m2, .ref m3, .ref m4, .ref m5, .ref m6, .ref m7, .ref m8, .long sp, .ref m9, .ref m10, .ref m11, .long ha], aI G m0 220 nw, aI G m1 880 pp]) (rest := [.ref qm]) (c_X4_within l hl G y.toInt64 0 31) cd_X4_within tw_4_51 tw_4_50 [] [0, 1, 2] rfl rfl rfl rfl (by decide) rfl ⟨(Nat.le_of_ble_eq_true rfl), (Nat.le_of_ble_eq_true rfl), (Nat.le_of_ble_eq_true rfl), (Nat.le_of_ble_eq_true rfl)⟩ (Nat.le_of_ble_eq_true rfl) rfl (dcq dc_X4_setDays_0 11 rfl) ?_
    rintro _ _ h9x
    rcases h9x with ⟨rfl, rfl, hw_19⟩ | ⟨rfl, rfl, hw_19⟩
    · skip
      have hw_19 : 0 ≤ y.toInt64 ∧ y.toInt64 ≤ 31 := hw_19
      change J p l e (cRm 2 46 0 0) s m args below meth c G A 3 (JQ below G A (po_X4_setDays G qm m0 m1 m2 m3 m4 m5 m6 m7 m8 m9 m10 m11 hc rf sp ha nw P M R n v g d pp x y) args s 0 0) 0 0 22 [(0, .ref qm), (1, .int (nI j_3)), (2, .int y)] [.int (nI 1), .ref qm] [oB 4 qm [.ref m0, .ref m1, .int (nI hc), .int (nI rf), .ref m2, .ref m3, .ref m4, .ref m5, .ref m6, .ref m7, .ref m8, .long sp, .ref m9, .ref m10, .ref m11, .long ha], aI G m0 220 nw, aI G m1 880 pp]
      refine J_if_eq F 29 (dcq dc_X4_setDays_0 12 rfl) (by decide) (fun h_2 => absurd h_2 (by decide)) (fun _ => ?_)
      refine J_iconst F (dcq dc_X4_setDays_0 13 rfl) ic_0 ?_
      refine J_goto F 30 (dcq dc_X4_setDays_0 14 rfl) (by decide) ?_
      refine J_callV F (wc := [oB 4 qm [.ref m0, .ref m1, .int (nI hc), .int (nI rf), .ref m2, .ref m3, .ref m4, .ref m5, .ref m6, .ref m7, .ref m8, .long sp, .ref m9, .ref m10, .ref m11, .long ha]]) (wr := [aI G m0 220 nw, aI G m1 880 pp]) (rest := []) (qc := 0) (c_X4_refused_0 l hl G qm m0 m1 m2 m3 m4 m5 m6 m7 m8 m9 m10 m11 hc rf sp ha) cd_X4_refused cv_X4_refused rfl rfl rfl tw_4_40 [0] [1, 2] rfl rfl rfl rfl (by decide) rfl ⟨(Nat.le_of_ble_eq_true rfl), (Nat.le_of_ble_eq_true rfl), (Nat.le_of_ble_eq_true rfl), (Nat.le_of_ble_eq_true rfl)⟩ (Nat.le_of_ble_eq_true rfl) rfl (dcq dc_X4_setDays_0 16 rfl) ?_
      rintro _ _ ⟨rfl, rfl⟩
      change J p l e (cRm 2 46 0 0) s m args below meth c G A 3 (JQ below G A (po_X4_setDays G qm m0 m1 m2 m3 m4 m5 m6 m7 m8 m9 m10 m11 hc rf sp ha nw P M R n v g d pp x y) args s 0 0) 0 0 33 [(0, .ref qm), (1, .int (nI j_3)), (2, .int y)] [.int (nI 0)] [aI G m0 220 nw, aI G m1 880 pp, oB 4 qm [.ref m0, .ref m1, .int (nI hc), .int (nI 0), .ref m2, .ref m3, .ref m4, .ref m5, .ref m6, .ref m7, .ref m8, .long sp, .ref m9, .ref m10, .ref m11, .long ha]]
      refine J_world (ws2 := [oB 4 qm [.ref m0, .ref m1, .int (nI hc), .int (nI 0), .ref m2, .ref m3, .ref m4, .ref m5, .ref m6, .ref m7, .ref m8, .long sp, .ref m9, .ref m10, .ref m11, .long ha], aI G m0 220 nw, aI G m1 880 pp]) [2, 0, 1] rfl rfl ?_
      refine J_if_eq F 40 (dcq dc_X4_setDays_0 17 rfl) (by decide) (fun _ => ?_) (fun h_3 => absurd h_3 (by decide))
      refine J_aload_n F 0 (dcq dc_X4_setDays_0 20 rfl) rfl rfl ?_
      refine J_iconst F (dcq dc_X4_setDays_0 21 rfl) ic_4 ?_
      refine J_iconst F (dcq dc_X4_setDays_0 22 rfl) ic_3 ?_
      refine J_iload_n F 1 (dcq dc_X4_setDays_0 23 rfl) rfl rfl ?_
      refine J_imul F (v := nI (3 * j_3)) (dcq dc_X4_setDays_0 24 rfl) (pk_mul _ _) ?_
      refine J_iadd F (v := nI (4 + 3 * j_3)) (dcq dc_X4_setDays_0 25 rfl) (nI_add _ _) ?_
      refine J_iconst F (dcq dc_X4_setDays_0 26 rfl) ic_2 ?_
      refine J_iadd F (v := nI (4 + 3 * j_3 + 2)) (dcq dc_X4_setDays_0 27 rfl) (nI_add _ _) ?_
      refine J_iload_n F 2 (dcq dc_X4_setDays_0 28 rfl) rfl rfl ?_
      refine J_callV F (wc := [oB 4 qm [.ref m0, .ref m1, .int (nI hc), .int (nI 0), .ref m2, .ref m3, .ref m4, .ref m5, .ref m6, .ref m7, .ref m8, .long sp, .ref m9, .ref m10, .ref m11, .long ha], aI G m0 220 nw, aI G m1 880 pp]) (wr := []) (rest := []) (qc := 0) (c_X4_sets l hl G qm m0 m1 m2 m3 m4 m5 m6 m7 m8 m9 m10 m11 hc 0 sp ha nw pp (4 + 3 * j_3 + 2) y (by first | assumption | omega) (by first | assumption | omega)) cd_X4_sets cv_X4_sets rfl rfl rfl tw_4_53 [0, 1, 2] [] rfl rfl rfl rfl (by decide) rfl ⟨(Nat.le_of_ble_eq_true rfl), (Nat.le_of_ble_eq_true rfl), (Nat.le_of_ble_eq_true rfl), (Nat.le_of_ble_eq_true rfl)⟩ (Nat.le_of_ble_eq_true rfl) rfl (dcq dc_X4_setDays_0 29 rfl) ?_
      rintro _ _ ⟨c2, pp2, rfl, rfl, hms⟩
      change J p l e (cRm 2 46 0 0) s m args below meth c G A 3 (JQ below G A (po_X4_setDays G qm m0 m1 m2 m3 m4 m5 m6 m7 m8 m9 m10 m11 hc rf sp ha nw P M R n v g d pp x y) args s 0 0) 0 0 52 [(0, .ref qm), (1, .int (nI j_3)), (2, .int y)] [.int (nw (4 + 3 * j_3 + 2))] [oB 4 qm [.ref m0, .ref m1, .int (nI c2), .int (nI 0), .ref m2, .ref m3, .ref m4, .ref m5, .ref m6, .ref m7, .ref m8, .long sp, .ref m9, .ref m10, .ref m11, .long ha], aI G m0 220 (upd nw (4 + 3 * j_3 + 2) y), aI G m1 880 pp2]
      have hms : MSV hc pp nw c2 pp2 := hms
      refine J_cast (lv2 := [(0, .ref qm), (1, .int (nI j_3)), (2, .int y)]) (st2 := [.int (d j_3)]) (ws2 := [oB 4 qm [.ref m0, .ref m1, .int (nI c2), .int (nI 0), .ref m2, .ref m3, .ref m4, .ref m5, .ref m6, .ref m7, .ref m8, .long sp, .ref m9, .ref m10, .ref m11, .long ha], aI G m0 220 (upd nw (4 + 3 * j_3 + 2) y), aI G m1 880 pp2]) (rfl) (by rw [(hRM.2.2.2.2 j_3 hj_3).2.2]) (rfl) ?_
      exact J_iret F (Or.inl ⟨c2, pp2, j_3, rfl, rfl, by first | assumption | omega, hxj_3, hj_3, by first | exact (wi (by decide) (by decide)).mp hw_19 | exact fun z => hw_19 ((wi (by decide) (by decide)).mpr z)⟩) (Nat.le_of_ble_eq_true rfl) (Nat.le_of_ble_eq_true rfl) (dcq dc_X4_setDays_0 30 rfl)
    · skip
      have hw_19 : ¬ (0 ≤ y.toInt64 ∧ y.toInt64 ≤ 31) := hw_19
      change J p l e (cRm 2 46 0 0) s m args below meth c G A 3 (JQ below G A (po_X4_setDays G qm m0 m1 m2 m3 m4 m5 m6 m7 m8 m9 m10 m11 hc rf sp ha nw P M R n v g d pp x y) args s 0 0) 0 0 22 [(0, .ref qm), (1, .int (nI j_3)), (2, .int y)] [.int (nI 0), .ref qm] [oB 4 qm [.ref m0, .ref m1, .int (nI hc), .int (nI rf), .ref m2, .ref m3, .ref m4, .ref m5, .ref m6, .ref m7, .ref m8, .long sp, .ref m9, .ref m10, .ref m11, .long ha], aI G m0 220 nw, aI G m1 880 pp]
      refine J_if_eq F 29 (dcq dc_X4_setDays_0 12 rfl) (by decide) (fun _ => ?_) (fun h_4 => absurd h_4 (by decide))
      refine J_iconst F (dcq dc_X4_setDays_0 15 rfl) ic_2 ?_
      refine J_callV F (wc := [oB 4 qm [.ref m0, .ref m1, .int (nI hc), .int (nI rf), .ref m2, .ref m3, .ref m4, .ref m5, .ref m6, .ref m7, .ref m8, .long sp, .ref m9, .ref m10, .ref m11, .long ha]]) (wr := [aI G m0 220 nw, aI G m1 880 pp]) (rest := []) (qc := 0) (c_X4_refused_2 l hl G qm m0 m1 m2 m3 m4 m5 m6 m7 m8 m9 m10 m11 hc rf sp ha) cd_X4_refused cv_X4_refused rfl rfl rfl tw_4_40 [0] [1, 2] rfl rfl rfl rfl (by decide) rfl ⟨(Nat.le_of_ble_eq_true rfl), (Nat.le_of_ble_eq_true rfl), (Nat.le_of_ble_eq_true rfl), (Nat.le_of_ble_eq_true rfl)⟩ (Nat.le_of_ble_eq_true rfl) rfl (dcq dc_X4_setDays_0 16 rfl) ?_
      rintro _ _ ⟨rfl, rfl⟩
      change J p l e (cRm 2 46 0 0) s m args below meth c G A 3 (JQ below G A (po_X4_setDays G qm m0 m1 m2 m3 m4 m5 m6 m7 m8 m9 m10 m11 hc rf sp ha nw P M R n v g d pp x y) args s 0 0) 0 0 33 [(0, .ref qm), (1, .int (nI j_3)), (2, .int y)] [.int (nI 1)] [aI G m0 220 nw, aI G m1 880 pp, oB 4 qm [.ref m0, .ref m1, .int (nI hc), .int (nI 2), .ref m2, .ref m3, .ref m4, .ref m5, .ref m6, .ref m7, .ref m8, .long sp, .ref m9, .ref m10, .ref m11, .long ha]]
      refine J_world (ws2 := [oB 4 qm [.ref m0, .ref m1, .int (nI hc), .int (nI 2), .ref m2, .ref m3, .ref m4, .ref m5, .ref m6, .ref m7, .ref m8, .long sp, .ref m9, .ref m10, .ref m11, .long ha], aI G m0 220 nw, aI G m1 880 pp]) [2, 0, 1] rfl rfl ?_
      refine J_if_eq F 40 (dcq dc_X4_setDays_0 17 rfl) (by decide) (fun h_5 => absurd h_5 (by decide)) (fun _ => ?_)
      refine J_iconst F (dcq dc_X4_setDays_0 18 rfl) ic_0 ?_
      refine J_goto F 52 (dcq dc_X4_setDays_0 19 rfl) (by decide) ?_
      exact J_iret F (Or.inr (Or.inr (⟨j_3, rfl, rfl, hxj_3, hj_3, by first | exact (wi (by decide) (by decide)).mp hw_19 | exact fun z => hw_19 ((wi (by decide) (by decide)).mpr z)⟩))) (Nat.le_of_ble_eq_true rfl) (Nat.le_of_ble_eq_true rfl) (dcq dc_X4_setDays_0 30 rfl)
  · skip
    have hx_3 : ∀ j, j < n → x ≠ nI j := hx_3
    change J p l e (cRm 2 46 0 0) s m args below meth c G A 3 (JQ below G A (po_X4_setDays G qm m0 m1 m2 m3 m4 m5 m6 m7 m8 m9 m10 m11 hc rf sp ha nw P M R n v g d pp x y) args s 0 0) 0 0 6 [(0, .ref qm), (1, .int x), (2, .int y)] [.int (nI 0), .ref qm] [aI G m1 880 pp, oB 4 qm [.ref m0, .ref m1, .int (nI hc), .int (nI rf), .ref m2, .ref m3, .ref m4, .ref m5, .ref m6, .ref m7, .ref m8, .long sp, .ref m9, .ref m10, .ref m11, .long ha], aI G m0 220 nw]
    refine J_world (ws2 := [oB 4 qm [.ref m0, .ref m1, .int (nI hc), .int (nI rf), .ref m2, .ref m3, .ref m4, .ref m5, .ref m6, .ref m7, .ref m8, .long sp, .ref m9, .ref m10, .ref m11, .long ha], aI G m0 220 nw, aI G m1 880 pp]) [1, 2, 0] rfl rfl ?_
    refine J_if_ne F 13 (dcq dc_X4_setDays_0 4 rfl) (by decide) (fun h_6 => absurd h_6 (by decide)) (fun _ => ?_)
    refine J_iconst F (dcq dc_X4_setDays_0 5 rfl) ic_1 ?_
    refine J_goto F 30 (dcq dc_X4_setDays_0 6 rfl) (by decide) ?_
    refine J_callV F (wc := [oB 4 qm [.ref m0, .ref m1, .int (nI hc), .int (nI rf), .ref m2, .ref m3, .ref m4, .ref m5, .ref m6, .ref m7, .ref m8, .long sp, .ref m9, .ref m10, .ref m11, .long ha]]) (wr := [aI G m0 220 nw, aI G m1 880 pp]) (rest := []) (qc := 0) (c_X4_refused_1 l hl G qm m0 m1 m2 m3 m4 m5 m6 m7 m8 m9 m10 m11 hc rf sp ha) cd_X4_refused cv_X4_refused rfl rfl rfl tw_4_40 [0] [1, 2] rfl rfl rfl rfl (by decide) rfl ⟨(Nat.le_of_ble_eq_true rfl), (Nat.le_of_ble_eq_true rfl), (Nat.le_of_ble_eq_true rfl), (Nat.le_of_ble_eq_true rfl)⟩ (Nat.le_of_ble_eq_true rfl) rfl (dcq dc_X4_setDays_0 16 rfl) ?_
    rintro _ _ ⟨rfl, rfl⟩
    change J p l e (cRm 2 46 0 0) s m args below meth c G A 3 (JQ below G A (po_X4_setDays G qm m0 m1 m2 m3 m4 m5 m6 m7 m8 m9 m10 m11 hc rf sp ha nw P M R n v g d pp x y) args s 0 0) 0 0 33 [(0, .ref qm), (1, .int x), (2, .int y)] [.int (nI 1)] [aI G m0 220 nw, aI G m1 880 pp, oB 4 qm [.ref m0, .ref m1, .int (nI hc), .int (nI 1), .ref m2, .ref m3, .ref m4, .ref m5, .ref m6, .ref m7, .ref m8, .long sp, .ref m9, .ref m10, .ref m11, .long ha]]
    refine J_world (ws2 := [oB 4 qm [.ref m0, .ref m1, .int (nI hc), .int (nI 1), .ref m2, .ref m3, .ref m4, .ref m5, .ref m6, .ref m7, .ref m8, .long sp, .ref m9, .ref m10, .ref m11, .long ha], aI G m0 220 nw, aI G m1 880 pp]) [2, 0, 1] rfl rfl ?_
    refine J_if_eq F 40 (dcq dc_X4_setDays_0 17 rfl) (by decide) (fun h_7 => absurd h_7 (by decide)) (fun _ => ?_)
    refine J_iconst F (dcq dc_X4_setDays_0 18 rfl) ic_0 ?_
    refine J_goto F 52 (dcq dc_X4_setDays_0 19 rfl) (by decide) ?_
    exact J_iret F (Or.inr (Or.inl ⟨rfl, rfl, hx_3⟩)) (Nat.le_of_ble_eq_true rfl) (Nat.le_of_ble_eq_true rfl) (dcq dc_X4_setDays_0 30 rfl)

abbrev po_X4_removeLast (G : Gt) (qm m0 m1 m2 m3 m4 m5 m6 m7 m8 m9 m10 m11 hc rf : Nat) (sp ha : Int64) (nw : Nat → Int32) (P M R n : Nat) (v g d : Nat → Int32) (pp : Nat → Int32) : Option Value → va_W → Prop := fun (v9 : Option Value) (w9 : va_W) => (∃ (c2 : Nat), ∃ (pp2 : Nat → Int32), v9 = some (.int (nI (n - 1))) ∧ w9 = [oB 4 qm [.ref m0, .ref m1, .int (nI c2), .int (nI 0), .ref m2, .ref m3, .ref m4, .ref m5, .ref m6, .ref m7, .ref m8, .long sp, .ref m9, .ref m10, .ref m11, .long ha], aI G m0 220 (upd nw 3 (nI (n - 1))), aI G m1 880 pp2] ∧ (MSV hc pp nw c2 pp2) ∧ (1 ≤ n)) ∨ (v9 = some (.int (nI 0)) ∧ w9 = [oB 4 qm [.ref m0, .ref m1, .int (nI hc), .int (nI 1), .ref m2, .ref m3, .ref m4, .ref m5, .ref m6, .ref m7, .ref m8, .long sp, .ref m9, .ref m10, .ref m11, .long ha], aI G m0 220 nw, aI G m1 880 pp] ∧ (n = 0))
set_option maxHeartbeats 4000000 in
set_option maxRecDepth 100000 in
theorem c_X4_removeLast (l : Launch) (hl : l.stackTraces = false) (G : Gt) (qm m0 m1 m2 m3 m4 m5 m6 m7 m8 m9 m10 m11 hc rf : Nat) (sp ha : Int64) (nw : Nat → Int32) (P M R n : Nat) (v g d : Nat → Int32) (pp : Nat → Int32) (hRM : RM nw P M R n v g d) (hhc : hc ≤ 4) (hn : n ≤ 72) : Con l G yX4_removeLast cX4_removeLast 1 (some .int) 1 21 0 0 [.ref qm] [oB 4 qm [.ref m0, .ref m1, .int (nI hc), .int (nI rf), .ref m2, .ref m3, .ref m4, .ref m5, .ref m6, .ref m7, .ref m8, .long sp, .ref m9, .ref m10, .ref m11, .long ha], aI G m0 220 nw, aI G m1 880 pp] (po_X4_removeLast G qm m0 m1 m2 m3 m4 m5 m6 m7 m8 m9 m10 m11 hc rf sp ha nw P M R n v g d pp) := by
  refine Con.of hl cd_X4_removeLast (Nat.le_of_ble_eq_true rfl) ?_
  intro p e s m args below meth c A F hin9
  change Fx p l s m args meth c G A "SeasonalAdjusterModel" cX4_removeLast 1 (some .int) at F
  change J p l e (cRm 1 21 0 0) s m args below meth c G A 1 (JQ below G A (po_X4_removeLast G qm m0 m1 m2 m3 m4 m5 m6 m7 m8 m9 m10 m11 hc rf sp ha nw P M R n v g d pp) args s 0 0) 0 0 0 [(0, .ref qm)] [] [oB 4 qm [.ref m0, .ref m1, .int (nI hc), .int (nI rf), .ref m2, .ref m3, .ref m4, .ref m5, .ref m6, .ref m7, .ref m8, .long sp, .ref m9, .ref m10, .ref m11, .long ha], aI G m0 220 nw, aI G m1 880 pp]
  refine J_aload_n F 0 (dcq dc_X4_removeLast_0 0 rfl) rfl rfl ?_
  refine J_aload_n F 0 (dcq dc_X4_removeLast_0 1 rfl) rfl rfl ?_
  refine J_get F fcX4 0 0 rfl (Nat.le_of_ble_eq_true rfl) tw_3_223 rfl rfl (dcq dc_X4_removeLast_0 2 rfl) ?_
  refine J_iconst F (dcq dc_X4_removeLast_0 3 rfl) ic_3 ?_
  refine J_iald F 1 rfl (by omega) (Nat.le_of_ble_eq_true rfl) (dcq dc_X4_removeLast_0 4 rfl) ?_
  refine J_cast rfl (st2 := [.int (nI n), .ref qm]) (by rw [hRM.2.2.2.1]) rfl ?_
  refine J_nif_ne F 14 (by omega) (dcq dc_X4_removeLast_0 5 rfl) (by decide) (fun h_1 => ?_) (fun h_1 => ?_)
  · skip
    refine J_iconst F (dcq dc_X4_removeLast_0 8 rfl) ic_0 ?_
    refine J_callV F (wc := [oB 4 qm [.ref m0, .ref m1, .int (nI hc), .int (nI rf), .ref m2, .ref m3, .ref m4, .ref m5, .ref m6, .ref m7, .ref m8, .long sp, .ref m9, .ref m10, .ref m11, .long ha]]) (wr := [aI G m0 220 nw, aI G m1 880 pp]) (rest := []) (qc := 0) (c_X4_refused_0 l hl G qm m0 m1 m2 m3 m4 m5 m6 m7 m8 m9 m10 m11 hc rf sp ha) cd_X4_refused cv_X4_refused rfl rfl rfl tw_4_40 [0] [1, 2] rfl rfl rfl rfl (by decide) rfl ⟨(Nat.le_of_ble_eq_true rfl), (Nat.le_of_ble_eq_true rfl), (Nat.le_of_ble_eq_true rfl), (Nat.le_of_ble_eq_true rfl)⟩ (Nat.le_of_ble_eq_true rfl) rfl (dcq dc_X4_removeLast_0 9 rfl) ?_
    rintro _ _ ⟨rfl, rfl⟩
    change J p l e (cRm 1 21 0 0) s m args below meth c G A 1 (JQ below G A (po_X4_removeLast G qm m0 m1 m2 m3 m4 m5 m6 m7 m8 m9 m10 m11 hc rf sp ha nw P M R n v g d pp) args s 0 0) 0 0 18 [(0, .ref qm)] [.int (nI 0)] [aI G m0 220 nw, aI G m1 880 pp, oB 4 qm [.ref m0, .ref m1, .int (nI hc), .int (nI 0), .ref m2, .ref m3, .ref m4, .ref m5, .ref m6, .ref m7, .ref m8, .long sp, .ref m9, .ref m10, .ref m11, .long ha]]
    refine J_world (ws2 := [oB 4 qm [.ref m0, .ref m1, .int (nI hc), .int (nI 0), .ref m2, .ref m3, .ref m4, .ref m5, .ref m6, .ref m7, .ref m8, .long sp, .ref m9, .ref m10, .ref m11, .long ha], aI G m0 220 nw, aI G m1 880 pp]) [2, 0, 1] rfl rfl ?_
    refine J_if_eq F 23 (dcq dc_X4_removeLast_0 10 rfl) (by decide) (fun _ => ?_) (fun h_2 => absurd h_2 (by decide))
    refine J_aload_n F 0 (dcq dc_X4_removeLast_0 13 rfl) rfl rfl ?_
    refine J_callV F (wc := [oB 4 qm [.ref m0, .ref m1, .int (nI hc), .int (nI 0), .ref m2, .ref m3, .ref m4, .ref m5, .ref m6, .ref m7, .ref m8, .long sp, .ref m9, .ref m10, .ref m11, .long ha], aI G m0 220 nw, aI G m1 880 pp]) (wr := []) (rest := []) (qc := 0) (c_X4_saves l hl G qm m0 m1 m2 m3 m4 m5 m6 m7 m8 m9 m10 m11 hc 0 sp ha nw pp (by first | assumption | omega)) cd_X4_saves cv_X4_saves rfl rfl rfl tw_4_57 [0, 1, 2] [] rfl rfl rfl rfl (by decide) rfl ⟨(Nat.le_of_ble_eq_true rfl), (Nat.le_of_ble_eq_true rfl), (Nat.le_of_ble_eq_true rfl), (Nat.le_of_ble_eq_true rfl)⟩ (Nat.le_of_ble_eq_true rfl) rfl (dcq dc_X4_removeLast_0 14 rfl) ?_
    rintro _ _ ⟨c2, pp2, rfl, rfl, hms⟩
    change J p l e (cRm 1 21 0 0) s m args below meth c G A 1 (JQ below G A (po_X4_removeLast G qm m0 m1 m2 m3 m4 m5 m6 m7 m8 m9 m10 m11 hc rf sp ha nw P M R n v g d pp) args s 0 0) 0 0 27 [(0, .ref qm)] [] [oB 4 qm [.ref m0, .ref m1, .int (nI c2), .int (nI 0), .ref m2, .ref m3, .ref m4, .ref m5, .ref m6, .ref m7, .ref m8, .long sp, .ref m9, .ref m10, .ref m11, .long ha], aI G m0 220 nw, aI G m1 880 pp2]
    have hms : MSV hc pp nw c2 pp2 := hms
    refine J_aload_n F 0 (dcq dc_X4_removeLast_0 15 rfl) rfl rfl ?_
    refine J_get F fcX4 0 0 rfl (Nat.le_of_ble_eq_true rfl) tw_3_223 rfl rfl (dcq dc_X4_removeLast_0 16 rfl) ?_
    refine J_iconst F (dcq dc_X4_removeLast_0 17 rfl) ic_3 ?_
    refine J_dup2 F (dcq dc_X4_removeLast_0 18 rfl) rfl rfl ?_
    refine J_iald F 1 rfl (by omega) (Nat.le_of_ble_eq_true rfl) (dcq dc_X4_removeLast_0 19 rfl) ?_
    refine J_cast rfl (st2 := [.int (nI n), .int (nI 3), .ref m0]) (by rw [hRM.2.2.2.1]) rfl ?_
    refine J_iconst F (dcq dc_X4_removeLast_0 20 rfl) ic_1 ?_
    refine J_isub F (v := nI (n - 1)) (dcq dc_X4_removeLast_0 21 rfl) (pk_sub (by omega)) ?_
    refine J_iast F (ws2 := [oB 4 qm [.ref m0, .ref m1, .int (nI c2), .int (nI 0), .ref m2, .ref m3, .ref m4, .ref m5, .ref m6, .ref m7, .ref m8, .long sp, .ref m9, .ref m10, .ref m11, .long ha], aI G m0 220 (upd nw 3 (nI (n - 1))), aI G m1 880 pp2]) 1 rfl (by omega) (Nat.le_of_ble_eq_true rfl) rfl (dcq dc_X4_removeLast_0 22 rfl) ?_
    refine J_aload_n F 0 (dcq dc_X4_removeLast_0 23 rfl) rfl rfl ?_
    refine J_get F fcX4 0 0 rfl (Nat.le_of_ble_eq_true rfl) tw_3_223 rfl rfl (dcq dc_X4_removeLast_0 24 rfl) ?_
    refine J_iconst F (dcq dc_X4_removeLast_0 25 rfl) ic_3 ?_
    refine J_iald F 1 rfl (by omega) (Nat.le_of_ble_eq_true rfl) (dcq dc_X4_removeLast_0 26 rfl) ?_
    refine J_cast rfl (st2 := [.int (nI (n - 1))]) (by rw [pk_us]) rfl ?_
    exact J_iret F (Or.inl ⟨c2, pp2, rfl, rfl, by first | assumption | omega, by first | assumption | omega⟩) (Nat.le_of_ble_eq_true rfl) (Nat.le_of_ble_eq_true rfl) (dcq dc_X4_removeLast_0 27 rfl)
  · skip
    refine J_iconst F (dcq dc_X4_removeLast_0 6 rfl) ic_1 ?_
    refine J_goto F 15 (dcq dc_X4_removeLast_0 7 rfl) (by decide) ?_
    refine J_callV F (wc := [oB 4 qm [.ref m0, .ref m1, .int (nI hc), .int (nI rf), .ref m2, .ref m3, .ref m4, .ref m5, .ref m6, .ref m7, .ref m8, .long sp, .ref m9, .ref m10, .ref m11, .long ha]]) (wr := [aI G m0 220 nw, aI G m1 880 pp]) (rest := []) (qc := 0) (c_X4_refused_1 l hl G qm m0 m1 m2 m3 m4 m5 m6 m7 m8 m9 m10 m11 hc rf sp ha) cd_X4_refused cv_X4_refused rfl rfl rfl tw_4_40 [0] [1, 2] rfl rfl rfl rfl (by decide) rfl ⟨(Nat.le_of_ble_eq_true rfl), (Nat.le_of_ble_eq_true rfl), (Nat.le_of_ble_eq_true rfl), (Nat.le_of_ble_eq_true rfl)⟩ (Nat.le_of_ble_eq_true rfl) rfl (dcq dc_X4_removeLast_0 9 rfl) ?_
    rintro _ _ ⟨rfl, rfl⟩
    change J p l e (cRm 1 21 0 0) s m args below meth c G A 1 (JQ below G A (po_X4_removeLast G qm m0 m1 m2 m3 m4 m5 m6 m7 m8 m9 m10 m11 hc rf sp ha nw P M R n v g d pp) args s 0 0) 0 0 18 [(0, .ref qm)] [.int (nI 1)] [aI G m0 220 nw, aI G m1 880 pp, oB 4 qm [.ref m0, .ref m1, .int (nI hc), .int (nI 1), .ref m2, .ref m3, .ref m4, .ref m5, .ref m6, .ref m7, .ref m8, .long sp, .ref m9, .ref m10, .ref m11, .long ha]]
    refine J_world (ws2 := [oB 4 qm [.ref m0, .ref m1, .int (nI hc), .int (nI 1), .ref m2, .ref m3, .ref m4, .ref m5, .ref m6, .ref m7, .ref m8, .long sp, .ref m9, .ref m10, .ref m11, .long ha], aI G m0 220 nw, aI G m1 880 pp]) [2, 0, 1] rfl rfl ?_
    refine J_if_eq F 23 (dcq dc_X4_removeLast_0 10 rfl) (by decide) (fun h_3 => absurd h_3 (by decide)) (fun _ => ?_)
    refine J_iconst F (dcq dc_X4_removeLast_0 11 rfl) ic_0 ?_
    exact J_iret F (Or.inr (⟨rfl, rfl, by first | assumption | omega⟩)) (Nat.le_of_ble_eq_true rfl) (Nat.le_of_ble_eq_true rfl) (dcq dc_X4_removeLast_0 12 rfl)

abbrev po_X4_nextOf_d (G : Gt) (qm m0 m1 m2 m3 m4 m5 m6 m7 m8 m9 m10 m11 hc rf : Nat) (sp ha : Int64) (nw : Nat → Int32) (P M R n : Nat) (v g d : Nat → Int32) (t : Nat) : Option Value → va_W → Prop := fun (v9 : Option Value) (w9 : va_W) => ∃ (r : Int32), v9 = some (.int r) ∧ w9 = [oB 4 qm [.ref m0, .ref m1, .int (nI hc), .int (nI rf), .ref m2, .ref m3, .ref m4, .ref m5, .ref m6, .ref m7, .ref m8, .long sp, .ref m9, .ref m10, .ref m11, .long ha], aI G m0 220 nw] ∧ (r = oI (dnb P g t))
set_option maxHeartbeats 4000000 in
set_option maxRecDepth 100000 in
theorem c_X4_nextOf_d (l : Launch) (hl : l.stackTraces = false) (G : Gt) (qm m0 m1 m2 m3 m4 m5 m6 m7 m8 m9 m10 m11 hc rf : Nat) (sp ha : Int64) (nw : Nat → Int32) (P M R n : Nat) (v g d : Nat → Int32) (t : Nat) (hRM : RM nw P M R n v g d) (hn : n ≤ 72) (h01 : G01 n g) (hP : 2 ≤ P) (hP12 : P ≤ 12) (ht : t < n) : Con l G yX4_nextOf cX4_nextOf 4 (some .int) 2 46 0 0 [.ref qm, .int (nI t), .int (-1)] [oB 4 qm [.ref m0, .ref m1, .int (nI hc), .int (nI rf), .ref m2, .ref m3, .ref m4, .ref m5, .ref m6, .ref m7, .ref m8, .long sp, .ref m9, .ref m10, .ref m11, .long ha], aI G m0 220 nw] (po_X4_nextOf_d G qm m0 m1 m2 m3 m4 m5 m6 m7 m8 m9 m10 m11 hc rf sp ha nw P M R n v g d t) := by
  refine Con.of hl cd_X4_nextOf (Nat.le_of_ble_eq_true rfl) ?_
  intro p e s m args below meth c A F hin9
  change Fx p l s m args meth c G A "SeasonalAdjusterModel" cX4_nextOf 4 (some .int) at F
  change J p l e (cRm 2 46 0 0) s m args below meth c G A 4 (JQ below G A (po_X4_nextOf_d G qm m0 m1 m2 m3 m4 m5 m6 m7 m8 m9 m10 m11 hc rf sp ha nw P M R n v g d t) args s 0 0) 0 0 0 [(0, .ref qm), (1, .int (nI t)), (2, .int (-1))] [] [oB 4 qm [.ref m0, .ref m1, .int (nI hc), .int (nI rf), .ref m2, .ref m3, .ref m4, .ref m5, .ref m6, .ref m7, .ref m8, .long sp, .ref m9, .ref m10, .ref m11, .long ha], aI G m0 220 nw]
  refine J_iload_n F 1 (dcq dc_X4_nextOf_0 0 rfl) rfl rfl ?_
  refine J_iload_n F 2 (dcq dc_X4_nextOf_0 1 rfl) rfl rfl ?_
  refine J_aload_n F 0 (dcq dc_X4_nextOf_0 2 rfl) rfl rfl ?_
  refine J_get F fcX4 0 0 rfl (Nat.le_of_ble_eq_true rfl) tw_3_223 rfl rfl (dcq dc_X4_nextOf_0 3 rfl) ?_
  refine J_iconst F (dcq dc_X4_nextOf_0 4 rfl) ic_0 ?_
  refine J_iald F 1 rfl (by omega) (Nat.le_of_ble_eq_true rfl) (dcq dc_X4_nextOf_0 5 rfl) ?_
  refine J_cast rfl (st2 := [.int (nI P), .int (-1), .int (nI t)]) (by rw [hRM.1]) rfl ?_
  refine J_imul F (v := (-1) * (nI P)) (dcq dc_X4_nextOf_0 6 rfl) rfl ?_
  refine J_iadd F (v := (nI t) + ((-1) * (nI P))) (dcq dc_X4_nextOf_0 7 rfl) rfl ?_
  refine J_istore_n F (lv2 := [(3, .int ((nI t) + ((-1) * (nI P)))), (0, .ref qm), (1, .int (nI t)), (2, .int (-1))]) (dcq dc_X4_nextOf_0 8 rfl) rfl (Nat.le_of_ble_eq_true rfl) rfl ?_
  have L11 : ∀ (fu11 : Nat), ∀ (k0 k1 : Nat) (y9 : Int32), (k1 = k0 + P) → (k0 ≤ 90) → (ivD P g t k0) → (k1 ≤ t → y9 = nI (t - k1)) → (t < k1 → y9 < 0) → n - k0 < fu11 → J p l e (cRm 2 46 0 0) s m args below meth c G A 4 (JQ below G A (po_X4_nextOf_d G qm m0 m1 m2 m3 m4 m5 m6 m7 m8 m9 m10 m11 hc rf sp ha nw P M R n v g d t) args s 0 0) 0 0 11 [(0, .ref qm), (1, .int (nI t)), (2, .int (-1)), (3, .int y9)] [] [oB 4 qm [.ref m0, .ref m1, .int (nI hc), .int (nI rf), .ref m2, .ref m3, .ref m4, .ref m5, .ref m6, .ref m7, .ref m8, .long sp, .ref m9, .ref m10, .ref m11, .long ha], aI G m0 220 nw] := by
    intro fu11
    induction fu11 with
    | zero => intro k0 k1 y9 he hk iv y1 y2 hm11; exact absurd hm11 (Nat.not_lt_zero _)
    | succ fu11 ih11 =>
      intro k0 k1 y9 he hk iv y1 y2 hm11
      refine J_aload_n F 0 (dcq dc_X4_nextOf_0 9 rfl) rfl rfl ?_
      refine J_iload_n F 3 (dcq dc_X4_nextOf_0 10 rfl) rfl rfl ?_
      refine J_callV F (wc := [oB 4 qm [.ref m0, .ref m1, .int (nI hc), .int (nI rf), .ref m2, .ref m3, .ref m4, .ref m5, .ref m6, .ref m7, .ref m8, .long sp, .ref m9, .ref m10, .ref m11, .long ha], aI G m0 220 nw]) (wr := []) (rest := []) (qc := 0) (c_X4_isEntry l hl G qm m0 m1 m2 m3 m4 m5 m6 m7 m8 m9 m10 m11 hc rf sp ha nw P M R n v g d y9 (by first | assumption | omega) (by first | assumption | omega)) cd_X4_isEntry cv_X4_isEntry rfl rfl rfl tw_4_104 [0, 1] [] rfl rfl rfl rfl (by decide) rfl ⟨(Nat.le_of_ble_eq_true rfl), (Nat.le_of_ble_eq_true rfl), (Nat.le_of_ble_eq_true rfl), (Nat.le_of_ble_eq_true rfl)⟩ (Nat.le_of_ble_eq_true rfl) rfl (dcq dc_X4_nextOf_0 11 rfl) ?_
      rintro _ _ h9x
      rcases h9x with ⟨j_13, rfl, rfl, hxj_13, hj_13⟩ | ⟨rfl, rfl, hx_13⟩
      · skip
        have hxj_13 : y9 = nI j_13 := hxj_13
        have hj_13 : j_13 < n := hj_13
        change J p l e (cRm 2 46 0 0) s m args below meth c G A 4 (JQ below G A (po_X4_nextOf_d G qm m0 m1 m2 m3 m4 m5 m6 m7 m8 m9 m10 m11 hc rf sp ha nw P M R n v g d t) args s 0 0) 0 0 16 [(0, .ref qm), (1, .int (nI t)), (2, .int (-1)), (3, .int y9)] [.int (nI 1)] [oB 4 qm [.ref m0, .ref m1, .int (nI hc), .int (nI rf), .ref m2, .ref m3, .ref m4, .ref m5, .ref m6, .ref m7, .ref m8, .long sp, .ref m9, .ref m10, .ref m11, .long ha], aI G m0 220 nw]
        have hkt : k1 ≤ t := Decidable.by_contra fun z => nI_pos (show j_13 < 2 ^ 31 by omega) (by rw [← hxj_13]; exact y2 (by omega))
        have hjj : j_13 = t - k1 := (nI_eq (by omega) (by omega)).mp (hxj_13.symm.trans (y1 hkt))
        refine J_cast (lv2 := [(0, .ref qm), (1, .int (nI t)), (2, .int (-1)), (3, .int (nI j_13))]) (st2 := [.int (nI 1)]) (ws2 := [oB 4 qm [.ref m0, .ref m1, .int (nI hc), .int (nI rf), .ref m2, .ref m3, .ref m4, .ref m5, .ref m6, .ref m7, .ref m8, .long sp, .ref m9, .ref m10, .ref m11, .long ha], aI G m0 220 nw]) (by rw [hxj_13]) (rfl) (rfl) ?_
        refine J_if_eq F 41 (dcq dc_X4_nextOf_0 12 rfl) (by decide) (fun h_1 => absurd h_1 (by decide)) (fun _ => ?_)
        refine J_aload_n F 0 (dcq dc_X4_nextOf_0 13 rfl) rfl rfl ?_
        refine J_iload_n F 3 (dcq dc_X4_nextOf_0 14 rfl) rfl rfl ?_
        refine J_callV F (wc := [oB 4 qm [.ref m0, .ref m1, .int (nI hc), .int (nI rf), .ref m2, .ref m3, .ref m4, .ref m5, .ref m6, .ref m7, .ref m8, .long sp, .ref m9, .ref m10, .ref m11, .long ha], aI G m0 220 nw]) (wr := []) (rest := []) (qc := 0) (c_X4_isMissing l hl G qm m0 m1 m2 m3 m4 m5 m6 m7 m8 m9 m10 m11 hc rf sp ha nw P M R n v g d j_13 (by first | assumption | omega) (by first | assumption | omega) (by first | assumption | omega) (by first | assumption | omega)) cd_X4_isMissing cv_X4_isMissing rfl rfl rfl tw_4_69 [0, 1] [] rfl rfl rfl rfl (by decide) rfl ⟨(Nat.le_of_ble_eq_true rfl), (Nat.le_of_ble_eq_true rfl), (Nat.le_of_ble_eq_true rfl), (Nat.le_of_ble_eq_true rfl)⟩ (Nat.le_of_ble_eq_true rfl) rfl (dcq dc_X4_nextOf_0 15 rfl) ?_
        rintro _ _ h9x
        rcases h9x with ⟨rfl, rfl, hg_21⟩ | ⟨rfl, rfl, hg_21⟩
        · skip
          have hg_21 : ¬ g j_13 = 0 := hg_21
          change J p l e (cRm 2 46 0 0) s m args below meth c G A 4 (JQ below G A (po_X4_nextOf_d G qm m0 m1 m2 m3 m4 m5 m6 m7 m8 m9 m10 m11 hc rf sp ha nw P M R n v g d t) args s 0 0) 0 0 24 [(0, .ref qm), (1, .int (nI t)), (2, .int (-1)), (3, .int (nI j_13))] [.int (nI 1)] [oB 4 qm [.ref m0, .ref m1, .int (nI hc), .int (nI rf), .ref m2, .ref m3, .ref m4, .ref m5, .ref m6, .ref m7, .ref m8, .long sp, .ref m9, .ref m10, .ref m11, .long ha], aI G m0 220 nw]
          refine J_if_eq F 41 (dcq dc_X4_nextOf_0 16 rfl) (by decide) (fun h_2 => absurd h_2 (by decide)) (fun _ => ?_)
          refine J_iload_n F 3 (dcq dc_X4_nextOf_0 17 rfl) rfl rfl ?_
          refine J_iload_n F 2 (dcq dc_X4_nextOf_0 18 rfl) rfl rfl ?_
          refine J_aload_n F 0 (dcq dc_X4_nextOf_0 19 rfl) rfl rfl ?_
          refine J_get F fcX4 0 0 rfl (Nat.le_of_ble_eq_true rfl) tw_3_223 rfl rfl (dcq dc_X4_nextOf_0 20 rfl) ?_
          refine J_iconst F (dcq dc_X4_nextOf_0 21 rfl) ic_0 ?_
          refine J_iald F 1 rfl (by omega) (Nat.le_of_ble_eq_true rfl) (dcq dc_X4_nextOf_0 22 rfl) ?_
          refine J_cast rfl (st2 := [.int (nI P), .int (-1), .int (nI j_13)]) (by rw [hRM.1]) rfl ?_
          refine J_imul F (v := (-1) * (nI P)) (dcq dc_X4_nextOf_0 23 rfl) rfl ?_
          refine J_iadd F (v := (nI j_13) + ((-1) * (nI P))) (dcq dc_X4_nextOf_0 24 rfl) rfl ?_
          refine J_istore_n F (lv2 := [(3, .int ((nI j_13) + ((-1) * (nI P)))), (0, .ref qm), (1, .int (nI t)), (2, .int (-1))]) (dcq dc_X4_nextOf_0 25 rfl) rfl (Nat.le_of_ble_eq_true rfl) rfl ?_
          refine J_goto F 11 (dcq dc_X4_nextOf_0 26 rfl) (by decide) ?_
          refine J_locs [1, 2, 3, 0] rfl ?_
          exact ih11 k1 (k1 + P) ((nI j_13) + ((-1) * (nI P))) (by omega) (by omega) (by rw [he]; exact ivD_gap (by omega) iv (by omega) (by rw [← he, ← hjj]; exact hg_21)) (by rw [hjj]; exact (dstep hkt (by omega) (by omega)).1) (by rw [hjj]; exact (dstep hkt (by omega) (by omega)).2) (by omega)
        · skip
          have hg_21 : g j_13 = 0 := hg_21
          change J p l e (cRm 2 46 0 0) s m args below meth c G A 4 (JQ below G A (po_X4_nextOf_d G qm m0 m1 m2 m3 m4 m5 m6 m7 m8 m9 m10 m11 hc rf sp ha nw P M R n v g d t) args s 0 0) 0 0 24 [(0, .ref qm), (1, .int (nI t)), (2, .int (-1)), (3, .int (nI j_13))] [.int (nI 0)] [oB 4 qm [.ref m0, .ref m1, .int (nI hc), .int (nI rf), .ref m2, .ref m3, .ref m4, .ref m5, .ref m6, .ref m7, .ref m8, .long sp, .ref m9, .ref m10, .ref m11, .long ha], aI G m0 220 nw]
          refine J_if_eq F 41 (dcq dc_X4_nextOf_0 16 rfl) (by decide) (fun _ => ?_) (fun h_3 => absurd h_3 (by decide))
          refine J_aload_n F 0 (dcq dc_X4_nextOf_0 27 rfl) rfl rfl ?_
          refine J_iload_n F 3 (dcq dc_X4_nextOf_0 28 rfl) rfl rfl ?_
          refine J_callV F (wc := [oB 4 qm [.ref m0, .ref m1, .int (nI hc), .int (nI rf), .ref m2, .ref m3, .ref m4, .ref m5, .ref m6, .ref m7, .ref m8, .long sp, .ref m9, .ref m10, .ref m11, .long ha], aI G m0 220 nw]) (wr := []) (rest := []) (qc := 0) (c_X4_isEntry l hl G qm m0 m1 m2 m3 m4 m5 m6 m7 m8 m9 m10 m11 hc rf sp ha nw P M R n v g d (nI j_13) (by first | assumption | omega) (by first | assumption | omega)) cd_X4_isEntry cv_X4_isEntry rfl rfl rfl tw_4_104 [0, 1] [] rfl rfl rfl rfl (by decide) rfl ⟨(Nat.le_of_ble_eq_true rfl), (Nat.le_of_ble_eq_true rfl), (Nat.le_of_ble_eq_true rfl), (Nat.le_of_ble_eq_true rfl)⟩ (Nat.le_of_ble_eq_true rfl) rfl (dcq dc_X4_nextOf_0 29 rfl) ?_
          rintro _ _ h9x
          rcases h9x with ⟨j_43, rfl, rfl, hxj_43, hj_43⟩ | ⟨rfl, rfl, hx_43⟩
          · skip
            have hxj_43 : (nI j_13) = nI j_43 := hxj_43
            have hj_43 : j_43 < n := hj_43
            change J p l e (cRm 2 46 0 0) s m args below meth c G A 4 (JQ below G A (po_X4_nextOf_d G qm m0 m1 m2 m3 m4 m5 m6 m7 m8 m9 m10 m11 hc rf sp ha nw P M R n v g d t) args s 0 0) 0 0 46 [(0, .ref qm), (1, .int (nI t)), (2, .int (-1)), (3, .int (nI j_13))] [.int (nI 1)] [oB 4 qm [.ref m0, .ref m1, .int (nI hc), .int (nI rf), .ref m2, .ref m3, .ref m4, .ref m5, .ref m6, .ref m7, .ref m8, .long sp, .ref m9, .ref m10, .ref m11, .long ha], aI G m0 220 nw]
            refine J_if_eq F 53 (dcq dc_X4_nextOf_0 30 rfl) (by decide) (fun h_4 => absurd h_4 (by decide)) (fun _ => ?_)
            refine J_iload_n F 3 (dcq dc_X4_nextOf_0 31 rfl) rfl rfl ?_
            refine J_goto F 54 (dcq dc_X4_nextOf_0 32 rfl) (by decide) ?_
            exact J_iret F ⟨nI j_13, rfl, rfl, by first | (rw [ivD_end iv (by omega)]; rfl) | (rw [ivD_hit (by omega) iv (by omega) (by rw [← he, ← hjj]; exact hg_21), ← he, ← hjj]; rfl)⟩ (Nat.le_of_ble_eq_true rfl) (Nat.le_of_ble_eq_true rfl) (dcq dc_X4_nextOf_0 34 rfl)
          · skip
            have hx_43 : ∀ j, j < n → (nI j_13) ≠ nI j := hx_43
            exact absurd rfl (hx_43 j_13 hj_13)
      · skip
        have hx_13 : ∀ j, j < n → y9 ≠ nI j := hx_13
        change J p l e (cRm 2 46 0 0) s m args below meth c G A 4 (JQ below G A (po_X4_nextOf_d G qm m0 m1 m2 m3 m4 m5 m6 m7 m8 m9 m10 m11 hc rf sp ha nw P M R n v g d t) args s 0 0) 0 0 16 [(0, .ref qm), (1, .int (nI t)), (2, .int (-1)), (3, .int y9)] [.int (nI 0)] [oB 4 qm [.ref m0, .ref m1, .int (nI hc), .int (nI rf), .ref m2, .ref m3, .ref m4, .ref m5, .ref m6, .ref m7, .ref m8, .long sp, .ref m9, .ref m10, .ref m11, .long ha], aI G m0 220 nw]
        have hno : t < k1 := Decidable.by_contra fun z => hx_13 (t - k1) (by omega) (y1 (by omega))
        refine J_if_eq F 41 (dcq dc_X4_nextOf_0 12 rfl) (by decide) (fun _ => ?_) (fun h_5 => absurd h_5 (by decide))
        refine J_aload_n F 0 (dcq dc_X4_nextOf_0 27 rfl) rfl rfl ?_
        refine J_iload_n F 3 (dcq dc_X4_nextOf_0 28 rfl) rfl rfl ?_
        refine J_callV F (wc := [oB 4 qm [.ref m0, .ref m1, .int (nI hc), .int (nI rf), .ref m2, .ref m3, .ref m4, .ref m5, .ref m6, .ref m7, .ref m8, .long sp, .ref m9, .ref m10, .ref m11, .long ha], aI G m0 220 nw]) (wr := []) (rest := []) (qc := 0) (c_X4_isEntry l hl G qm m0 m1 m2 m3 m4 m5 m6 m7 m8 m9 m10 m11 hc rf sp ha nw P M R n v g d y9 (by first | assumption | omega) (by first | assumption | omega)) cd_X4_isEntry cv_X4_isEntry rfl rfl rfl tw_4_104 [0, 1] [] rfl rfl rfl rfl (by decide) rfl ⟨(Nat.le_of_ble_eq_true rfl), (Nat.le_of_ble_eq_true rfl), (Nat.le_of_ble_eq_true rfl), (Nat.le_of_ble_eq_true rfl)⟩ (Nat.le_of_ble_eq_true rfl) rfl (dcq dc_X4_nextOf_0 29 rfl) ?_
        rintro _ _ h9x
        rcases h9x with ⟨j_43, rfl, rfl, hxj_43, hj_43⟩ | ⟨rfl, rfl, hx_43⟩
        · skip
          have hxj_43 : y9 = nI j_43 := hxj_43
          have hj_43 : j_43 < n := hj_43
          exact absurd hxj_43 (hx_13 j_43 hj_43)
        · skip
          have hx_43 : ∀ j, j < n → y9 ≠ nI j := hx_43
          change J p l e (cRm 2 46 0 0) s m args below meth c G A 4 (JQ below G A (po_X4_nextOf_d G qm m0 m1 m2 m3 m4 m5 m6 m7 m8 m9 m10 m11 hc rf sp ha nw P M R n v g d t) args s 0 0) 0 0 46 [(0, .ref qm), (1, .int (nI t)), (2, .int (-1)), (3, .int y9)] [.int (nI 0)] [oB 4 qm [.ref m0, .ref m1, .int (nI hc), .int (nI rf), .ref m2, .ref m3, .ref m4, .ref m5, .ref m6, .ref m7, .ref m8, .long sp, .ref m9, .ref m10, .ref m11, .long ha], aI G m0 220 nw]
          refine J_if_eq F 53 (dcq dc_X4_nextOf_0 30 rfl) (by decide) (fun _ => ?_) (fun h_6 => absurd h_6 (by decide))
          refine J_iconst F (dcq dc_X4_nextOf_0 33 rfl) ic_m1 ?_
          exact J_iret F ⟨(-1), rfl, rfl, by first | (rw [ivD_end iv (by omega)]; rfl) | (rw [ivD_hit (by omega) iv (by omega) (by rw [← he, ← hjj]; exact hg_21), ← he, ← hjj]; rfl)⟩ (Nat.le_of_ble_eq_true rfl) (Nat.le_of_ble_eq_true rfl) (dcq dc_X4_nextOf_0 34 rfl)
  refine J_locs [1, 2, 3, 0] rfl ?_
  exact L11 (n - 0 + 1) 0 (0 + P) ((nI t) + ((-1) * (nI P))) (by omega) (by omega) (ivD_0 P g t) ((dstep (k1 := 0) (Nat.zero_le t) (by omega) (by omega)).1) ((dstep (k1 := 0) (Nat.zero_le t) (by omega) (by omega)).2) (Nat.lt_succ_self _)

abbrev po_X4_nextOf_u (G : Gt) (qm m0 m1 m2 m3 m4 m5 m6 m7 m8 m9 m10 m11 hc rf : Nat) (sp ha : Int64) (nw : Nat → Int32) (P M R n : Nat) (v g d : Nat → Int32) (t : Nat) : Option Value → va_W → Prop := fun (v9 : Option Value) (w9 : va_W) => ∃ (r : Int32), v9 = some (.int r) ∧ w9 = [oB 4 qm [.ref m0, .ref m1, .int (nI hc), .int (nI rf), .ref m2, .ref m3, .ref m4, .ref m5, .ref m6, .ref m7, .ref m8, .long sp, .ref m9, .ref m10, .ref m11, .long ha], aI G m0 220 nw] ∧ (r = oI (unb P n g t))
set_option maxHeartbeats 4000000 in
set_option maxRecDepth 100000 in
theorem c_X4_nextOf_u (l : Launch) (hl : l.stackTraces = false) (G : Gt) (qm m0 m1 m2 m3 m4 m5 m6 m7 m8 m9 m10 m11 hc rf : Nat) (sp ha : Int64) (nw : Nat → Int32) (P M R n : Nat) (v g d : Nat → Int32) (t : Nat) (hRM : RM nw P M R n v g d) (hn : n ≤ 72) (h01 : G01 n g) (hP : 2 ≤ P) (hP12 : P ≤ 12) (ht : t < n) : Con l G yX4_nextOf cX4_nextOf 4 (some .int) 2 46 0 0 [.ref qm, .int (nI t), .int (nI 1)] [oB 4 qm [.ref m0, .ref m1, .int (nI hc), .int (nI rf), .ref m2, .ref m3, .ref m4, .ref m5, .ref m6, .ref m7, .ref m8, .long sp, .ref m9, .ref m10, .ref m11, .long ha], aI G m0 220 nw] (po_X4_nextOf_u G qm m0 m1 m2 m3 m4 m5 m6 m7 m8 m9 m10 m11 hc rf sp ha nw P M R n v g d t) := by
  refine Con.of hl cd_X4_nextOf (Nat.le_of_ble_eq_true rfl) ?_
  intro p e s m args below meth c A F hin9
  change Fx p l s m args meth c G A "SeasonalAdjusterModel" cX4_nextOf 4 (some .int) at F
  change J p l e (cRm 2 46 0 0) s m args below meth c G A 4 (JQ below G A (po_X4_nextOf_u G qm m0 m1 m2 m3 m4 m5 m6 m7 m8 m9 m10 m11 hc rf sp ha nw P M R n v g d t) args s 0 0) 0 0 0 [(0, .ref qm), (1, .int (nI t)), (2, .int (nI 1))] [] [oB 4 qm [.ref m0, .ref m1, .int (nI hc), .int (nI rf), .ref m2, .ref m3, .ref m4, .ref m5, .ref m6, .ref m7, .ref m8, .long sp, .ref m9, .ref m10, .ref m11, .long ha], aI G m0 220 nw]
  refine J_iload_n F 1 (dcq dc_X4_nextOf_0 0 rfl) rfl rfl ?_
  refine J_iload_n F 2 (dcq dc_X4_nextOf_0 1 rfl) rfl rfl ?_
  refine J_aload_n F 0 (dcq dc_X4_nextOf_0 2 rfl) rfl rfl ?_
  refine J_get F fcX4 0 0 rfl (Nat.le_of_ble_eq_true rfl) tw_3_223 rfl rfl (dcq dc_X4_nextOf_0 3 rfl) ?_
  refine J_iconst F (dcq dc_X4_nextOf_0 4 rfl) ic_0 ?_
  refine J_iald F 1 rfl (by omega) (Nat.le_of_ble_eq_true rfl) (dcq dc_X4_nextOf_0 5 rfl) ?_
  refine J_cast rfl (st2 := [.int (nI P), .int (nI 1), .int (nI t)]) (by rw [hRM.1]) rfl ?_
  refine J_imul F (v := nI P) (dcq dc_X4_nextOf_0 6 rfl) (by rw [pk_mul, Nat.one_mul]) ?_
  refine J_iadd F (v := nI (t + P)) (dcq dc_X4_nextOf_0 7 rfl) (nI_add _ _) ?_
  refine J_istore_n F (lv2 := [(3, .int (nI (t + P))), (0, .ref qm), (1, .int (nI t)), (2, .int (nI 1))]) (dcq dc_X4_nextOf_0 8 rfl) rfl (Nat.le_of_ble_eq_true rfl) rfl ?_
  have L11 : ∀ (fu11 : Nat), ∀ (k0 k1 y9 : Nat), (k1 = k0 + P) → (k0 ≤ 90) → (ivU P n g t k0) → (y9 = t + k1) → n - k0 < fu11 → J p l e (cRm 2 46 0 0) s m args below meth c G A 4 (JQ below G A (po_X4_nextOf_u G qm m0 m1 m2 m3 m4 m5 m6 m7 m8 m9 m10 m11 hc rf sp ha nw P M R n v g d t) args s 0 0) 0 0 11 [(0, .ref qm), (1, .int (nI t)), (2, .int (nI 1)), (3, .int (nI y9))] [] [oB 4 qm [.ref m0, .ref m1, .int (nI hc), .int (nI rf), .ref m2, .ref m3, .ref m4, .ref m5, .ref m6, .ref m7, .ref m8, .long sp, .ref m9, .ref m10, .ref m11, .long ha], aI G m0 220 nw] := by
    intro fu11
    induction fu11 with
    | zero => intro k0 k1 y9 he hk iv y1 hm11; exact absurd hm11 (Nat.not_lt_zero _)
    | succ fu11 ih11 =>
      intro k0 k1 y9 he hk iv y1 hm11
      refine J_aload_n F 0 (dcq dc_X4_nextOf_0 9 rfl) rfl rfl ?_
      refine J_iload_n F 3 (dcq dc_X4_nextOf_0 10 rfl) rfl rfl ?_
      refine J_callV F (wc := [oB 4 qm [.ref m0, .ref m1, .int (nI hc), .int (nI rf), .ref m2, .ref m3, .ref m4, .ref m5, .ref m6, .ref m7, .ref m8, .long sp, .ref m9, .ref m10, .ref m11, .long ha], aI G m0 220 nw]) (wr := []) (rest := []) (qc := 0) (c_X4_isEntry l hl G qm m0 m1 m2 m3 m4 m5 m6 m7 m8 m9 m10 m11 hc rf sp ha nw P M R n v g d (nI y9) (by first | assumption | omega) (by first | assumption | omega)) cd_X4_isEntry cv_X4_isEntry rfl rfl rfl tw_4_104 [0, 1] [] rfl rfl rfl rfl (by decide) rfl ⟨(Nat.le_of_ble_eq_true rfl), (Nat.le_of_ble_eq_true rfl), (Nat.le_of_ble_eq_true rfl), (Nat.le_of_ble_eq_true rfl)⟩ (Nat.le_of_ble_eq_true rfl) rfl (dcq dc_X4_nextOf_0 11 rfl) ?_
      rintro _ _ h9x
      rcases h9x with ⟨j_13, rfl, rfl, hxj_13, hj_13⟩ | ⟨rfl, rfl, hx_13⟩
      · skip
        have hxj_13 : (nI y9) = nI j_13 := hxj_13
        have hj_13 : j_13 < n := hj_13
        change J p l e (cRm 2 46 0 0) s m args below meth c G A 4 (JQ below G A (po_X4_nextOf_u G qm m0 m1 m2 m3 m4 m5 m6 m7 m8 m9 m10 m11 hc rf sp ha nw P M R n v g d t) args s 0 0) 0 0 16 [(0, .ref qm), (1, .int (nI t)), (2, .int (nI 1)), (3, .int (nI y9))] [.int (nI 1)] [oB 4 qm [.ref m0, .ref m1, .int (nI hc), .int (nI rf), .ref m2, .ref m3, .ref m4, .ref m5, .ref m6, .ref m7, .ref m8, .long sp, .ref m9, .ref m10, .ref m11, .long ha], aI G m0 220 nw]
        have hjj : y9 = j_13 := (nI_eq (by omega) (by omega)).mp hxj_13
        refine J_if_eq F 41 (dcq dc_X4_nextOf_0 12 rfl) (by decide) (fun h_1 => absurd h_1 (by decide)) (fun _ => ?_)
        refine J_aload_n F 0 (dcq dc_X4_nextOf_0 13 rfl) rfl rfl ?_
        refine J_iload_n F 3 (dcq dc_X4_nextOf_0 14 rfl) rfl rfl ?_
        refine J_callV F (wc := [oB 4 qm [.ref m0, .ref m1, .int (nI hc), .int (nI rf), .ref m2, .ref m3, .ref m4, .ref m5, .ref m6, .ref m7, .ref m8, .long sp, .ref m9, .ref m10, .ref m11, .long ha], aI G m0 220 nw]) (wr := []) (rest := []) (qc := 0) (c_X4_isMissing l hl G qm m0 m1 m2 m3 m4 m5 m6 m7 m8 m9 m10 m11 hc rf sp ha nw P M R n v g d y9 (by first | assumption | omega) (by first | assumption | omega) (by first | assumption | omega) (by first | assumption | omega)) cd_X4_isMissing cv_X4_isMissing rfl rfl rfl tw_4_69 [0, 1] [] rfl rfl rfl rfl (by decide) rfl ⟨(Nat.le_of_ble_eq_true rfl), (Nat.le_of_ble_eq_true rfl), (Nat.le_of_ble_eq_true rfl), (Nat.le_of_ble_eq_true rfl)⟩ (Nat.le_of_ble_eq_true rfl) rfl (dcq dc_X4_nextOf_0 15 rfl) ?_
        rintro _ _ h9x
        rcases h9x with ⟨rfl, rfl, hg_21⟩ | ⟨rfl, rfl, hg_21⟩
        · skip
          have hg_21 : ¬ g y9 = 0 := hg_21
          change J p l e (cRm 2 46 0 0) s m args below meth c G A 4 (JQ below G A (po_X4_nextOf_u G qm m0 m1 m2 m3 m4 m5 m6 m7 m8 m9 m10 m11 hc rf sp ha nw P M R n v g d t) args s 0 0) 0 0 24 [(0, .ref qm), (1, .int (nI t)), (2, .int (nI 1)), (3, .int (nI y9))] [.int (nI 1)] [oB 4 qm [.ref m0, .ref m1, .int (nI hc), .int (nI rf), .ref m2, .ref m3, .ref m4, .ref m5, .ref m6, .ref m7, .ref m8, .long sp, .ref m9, .ref m10, .ref m11, .long ha], aI G m0 220 nw]
          refine J_if_eq F 41 (dcq dc_X4_nextOf_0 16 rfl) (by decide) (fun h_2 => absurd h_2 (by decide)) (fun _ => ?_)
          refine J_iload_n F 3 (dcq dc_X4_nextOf_0 17 rfl) rfl rfl ?_
          refine J_iload_n F 2 (dcq dc_X4_nextOf_0 18 rfl) rfl rfl ?_
          refine J_aload_n F 0 (dcq dc_X4_nextOf_0 19 rfl) rfl rfl ?_
          refine J_get F fcX4 0 0 rfl (Nat.le_of_ble_eq_true rfl) tw_3_223 rfl rfl (dcq dc_X4_nextOf_0 20 rfl) ?_
          refine J_iconst F (dcq dc_X4_nextOf_0 21 rfl) ic_0 ?_
          refine J_iald F 1 rfl (by omega) (Nat.le_of_ble_eq_true rfl) (dcq dc_X4_nextOf_0 22 rfl) ?_
          refine J_cast rfl (st2 := [.int (nI P), .int (nI 1), .int (nI y9)]) (by rw [hRM.1]) rfl ?_
          refine J_imul F (v := nI P) (dcq dc_X4_nextOf_0 23 rfl) (by rw [pk_mul, Nat.one_mul]) ?_
          refine J_iadd F (v := nI (y9 + P)) (dcq dc_X4_nextOf_0 24 rfl) (nI_add _ _) ?_
          refine J_istore_n F (lv2 := [(3, .int (nI (y9 + P))), (0, .ref qm), (1, .int (nI t)), (2, .int (nI 1))]) (dcq dc_X4_nextOf_0 25 rfl) rfl (Nat.le_of_ble_eq_true rfl) rfl ?_
          refine J_goto F 11 (dcq dc_X4_nextOf_0 26 rfl) (by decide) ?_
          refine J_locs [1, 2, 3, 0] rfl ?_
          exact ih11 k1 (k1 + P) (y9 + P) (by omega) (by omega) (by rw [he]; exact ivU_gap (by omega) iv (by omega) (by rw [← he, ← y1]; exact hg_21)) (by omega) (by omega)
        · skip
          have hg_21 : g y9 = 0 := hg_21
          change J p l e (cRm 2 46 0 0) s m args below meth c G A 4 (JQ below G A (po_X4_nextOf_u G qm m0 m1 m2 m3 m4 m5 m6 m7 m8 m9 m10 m11 hc rf sp ha nw P M R n v g d t) args s 0 0) 0 0 24 [(0, .ref qm), (1, .int (nI t)), (2, .int (nI 1)), (3, .int (nI y9))] [.int (nI 0)] [oB 4 qm [.ref m0, .ref m1, .int (nI hc), .int (nI rf), .ref m2, .ref m3, .ref m4, .ref m5, .ref m6, .ref m7, .ref m8, .long sp, .ref m9, .ref m10, .ref m11, .long ha], aI G m0 220 nw]
          refine J_if_eq F 41 (dcq dc_X4_nextOf_0 16 rfl) (by decide) (fun _ => ?_) (fun h_3 => absurd h_3 (by decide))
          refine J_aload_n F 0 (dcq dc_X4_nextOf_0 27 rfl) rfl rfl ?_
          refine J_iload_n F 3 (dcq dc_X4_nextOf_0 28 rfl) rfl rfl ?_
          refine J_callV F (wc := [oB 4 qm [.ref m0, .ref m1, .int (nI hc), .int (nI rf), .ref m2, .ref m3, .ref m4, .ref m5, .ref m6, .ref m7, .ref m8, .long sp, .ref m9, .ref m10, .ref m11, .long ha], aI G m0 220 nw]) (wr := []) (rest := []) (qc := 0) (c_X4_isEntry l hl G qm m0 m1 m2 m3 m4 m5 m6 m7 m8 m9 m10 m11 hc rf sp ha nw P M R n v g d (nI y9) (by first | assumption | omega) (by first | assumption | omega)) cd_X4_isEntry cv_X4_isEntry rfl rfl rfl tw_4_104 [0, 1] [] rfl rfl rfl rfl (by decide) rfl ⟨(Nat.le_of_ble_eq_true rfl), (Nat.le_of_ble_eq_true rfl), (Nat.le_of_ble_eq_true rfl), (Nat.le_of_ble_eq_true rfl)⟩ (Nat.le_of_ble_eq_true rfl) rfl (dcq dc_X4_nextOf_0 29 rfl) ?_
          rintro _ _ h9x
          rcases h9x with ⟨j_43, rfl, rfl, hxj_43, hj_43⟩ | ⟨rfl, rfl, hx_43⟩
          · skip
            have hxj_43 : (nI y9) = nI j_43 := hxj_43
            have hj_43 : j_43 < n := hj_43
            change J p l e (cRm 2 46 0 0) s m args below meth c G A 4 (JQ below G A (po_X4_nextOf_u G qm m0 m1 m2 m3 m4 m5 m6 m7 m8 m9 m10 m11 hc rf sp ha nw P M R n v g d t) args s 0 0) 0 0 46 [(0, .ref qm), (1, .int (nI t)), (2, .int (nI 1)), (3, .int (nI y9))] [.int (nI 1)] [oB 4 qm [.ref m0, .ref m1, .int (nI hc), .int (nI rf), .ref m2, .ref m3, .ref m4, .ref m5, .ref m6, .ref m7, .ref m8, .long sp, .ref m9, .ref m10, .ref m11, .long ha], aI G m0 220 nw]
            refine J_if_eq F 53 (dcq dc_X4_nextOf_0 30 rfl) (by decide) (fun h_4 => absurd h_4 (by decide)) (fun _ => ?_)
            refine J_iload_n F 3 (dcq dc_X4_nextOf_0 31 rfl) rfl rfl ?_
            refine J_goto F 54 (dcq dc_X4_nextOf_0 32 rfl) (by decide) ?_
            exact J_iret F ⟨nI y9, rfl, rfl, by first | (rw [ivU_end iv (by omega)]; rfl) | (rw [ivU_hit (by omega) iv (by omega) (by rw [← he, ← y1]; exact hg_21), ← he, ← y1]; rfl)⟩ (Nat.le_of_ble_eq_true rfl) (Nat.le_of_ble_eq_true rfl) (dcq dc_X4_nextOf_0 34 rfl)
          · skip
            have hx_43 : ∀ j, j < n → (nI y9) ≠ nI j := hx_43
            exact absurd rfl (hx_43 y9 (by omega))
      · skip
        have hx_13 : ∀ j, j < n → (nI y9) ≠ nI j := hx_13
        change J p l e (cRm 2 46 0 0) s m args below meth c G A 4 (JQ below G A (po_X4_nextOf_u G qm m0 m1 m2 m3 m4 m5 m6 m7 m8 m9 m10 m11 hc rf sp ha nw P M R n v g d t) args s 0 0) 0 0 16 [(0, .ref qm), (1, .int (nI t)), (2, .int (nI 1)), (3, .int (nI y9))] [.int (nI 0)] [oB 4 qm [.ref m0, .ref m1, .int (nI hc), .int (nI rf), .ref m2, .ref m3, .ref m4, .ref m5, .ref m6, .ref m7, .ref m8, .long sp, .ref m9, .ref m10, .ref m11, .long ha], aI G m0 220 nw]
        have hno : n ≤ y9 := Decidable.by_contra fun z => hx_13 y9 (by omega) rfl
        refine J_if_eq F 41 (dcq dc_X4_nextOf_0 12 rfl) (by decide) (fun _ => ?_) (fun h_5 => absurd h_5 (by decide))
        refine J_aload_n F 0 (dcq dc_X4_nextOf_0 27 rfl) rfl rfl ?_
        refine J_iload_n F 3 (dcq dc_X4_nextOf_0 28 rfl) rfl rfl ?_
        refine J_callV F (wc := [oB 4 qm [.ref m0, .ref m1, .int (nI hc), .int (nI rf), .ref m2, .ref m3, .ref m4, .ref m5, .ref m6, .ref m7, .ref m8, .long sp, .ref m9, .ref m10, .ref m11, .long ha], aI G m0 220 nw]) (wr := []) (rest := []) (qc := 0) (c_X4_isEntry l hl G qm m0 m1 m2 m3 m4 m5 m6 m7 m8 m9 m10 m11 hc rf sp ha nw P M R n v g d (nI y9) (by first | assumption | omega) (by first | assumption | omega)) cd_X4_isEntry cv_X4_isEntry rfl rfl rfl tw_4_104 [0, 1] [] rfl rfl rfl rfl (by decide) rfl ⟨(Nat.le_of_ble_eq_true rfl), (Nat.le_of_ble_eq_true rfl), (Nat.le_of_ble_eq_true rfl), (Nat.le_of_ble_eq_true rfl)⟩ (Nat.le_of_ble_eq_true rfl) rfl (dcq dc_X4_nextOf_0 29 rfl) ?_
        rintro _ _ h9x
        rcases h9x with ⟨j_43, rfl, rfl, hxj_43, hj_43⟩ | ⟨rfl, rfl, hx_43⟩
        · skip
          have hxj_43 : (nI y9) = nI j_43 := hxj_43
          have hj_43 : j_43 < n := hj_43
          exact absurd hxj_43 (hx_13 j_43 hj_43)
        · skip
          have hx_43 : ∀ j, j < n → (nI y9) ≠ nI j := hx_43
          change J p l e (cRm 2 46 0 0) s m args below meth c G A 4 (JQ below G A (po_X4_nextOf_u G qm m0 m1 m2 m3 m4 m5 m6 m7 m8 m9 m10 m11 hc rf sp ha nw P M R n v g d t) args s 0 0) 0 0 46 [(0, .ref qm), (1, .int (nI t)), (2, .int (nI 1)), (3, .int (nI y9))] [.int (nI 0)] [oB 4 qm [.ref m0, .ref m1, .int (nI hc), .int (nI rf), .ref m2, .ref m3, .ref m4, .ref m5, .ref m6, .ref m7, .ref m8, .long sp, .ref m9, .ref m10, .ref m11, .long ha], aI G m0 220 nw]
          refine J_if_eq F 53 (dcq dc_X4_nextOf_0 30 rfl) (by decide) (fun _ => ?_) (fun h_6 => absurd h_6 (by decide))
          refine J_iconst F (dcq dc_X4_nextOf_0 33 rfl) ic_m1 ?_
          exact J_iret F ⟨(-1), rfl, rfl, by first | (rw [ivU_end iv (by omega)]; rfl) | (rw [ivU_hit (by omega) iv (by omega) (by rw [← he, ← y1]; exact hg_21), ← he, ← y1]; rfl)⟩ (Nat.le_of_ble_eq_true rfl) (Nat.le_of_ble_eq_true rfl) (dcq dc_X4_nextOf_0 34 rfl)
  refine J_locs [1, 2, 3, 0] rfl ?_
  exact L11 (n - 0 + 1) 0 (0 + P) (t + P) (by omega) (by omega) (ivU_0 g ht) (by omega) (Nat.lt_succ_self _)

abbrev po_X4_canFill (G : Gt) (qm m0 m1 m2 m3 m4 m5 m6 m7 m8 m9 m10 m11 hc rf : Nat) (sp ha : Int64) (nw : Nat → Int32) (P M R n : Nat) (v g d : Nat → Int32) : Option Value → va_W → Prop := fun (v9 : Option Value) (w9 : va_W) => ∃ (r : Nat), v9 = some (.int (nI r)) ∧ w9 = [oB 4 qm [.ref m0, .ref m1, .int (nI hc), .int (nI rf), .ref m2, .ref m3, .ref m4, .ref m5, .ref m6, .ref m7, .ref m8, .long sp, .ref m9, .ref m10, .ref m11, .long ha], aI G m0 220 nw] ∧ (r ≤ 1) ∧ (r = 1 ↔ ¬ unf P n g)
set_option maxHeartbeats 4000000 in
set_option maxRecDepth 100000 in
theorem c_X4_canFill (l : Launch) (hl : l.stackTraces = false) (G : Gt) (qm m0 m1 m2 m3 m4 m5 m6 m7 m8 m9 m10 m11 hc rf : Nat) (sp ha : Int64) (nw : Nat → Int32) (P M R n : Nat) (v g d : Nat → Int32) (hRM : RM nw P M R n v g d) (hn : n ≤ 72) (h01 : G01 n g) (hP : 2 ≤ P) (hP12 : P ≤ 12) : Con l G yX4_canFill cX4_canFill 3 (some .boolean) 3 69 0 0 [.ref qm] [oB 4 qm [.ref m0, .ref m1, .int (nI hc), .int (nI rf), .ref m2, .ref m3, .ref m4, .ref m5, .ref m6, .ref m7, .ref m8, .long sp, .ref m9, .ref m10, .ref m11, .long ha], aI G m0 220 nw] (po_X4_canFill G qm m0 m1 m2 m3 m4 m5 m6 m7 m8 m9 m10 m11 hc rf sp ha nw P M R n v g d) := by
  refine Con.of hl cd_X4_canFill (Nat.le_of_ble_eq_true rfl) ?_
  intro p e s m args below meth c A F hin9
  change Fx p l s m args meth c G A "SeasonalAdjusterModel" cX4_canFill 3 (some .boolean) at F
  change J p l e (cRm 3 69 0 0) s m args below meth c G A 3 (JQ below G A (po_X4_canFill G qm m0 m1 m2 m3 m4 m5 m6 m7 m8 m9 m10 m11 hc rf sp ha nw P M R n v g d) args s 0 0) 0 0 0 [(0, .ref qm)] [] [oB 4 qm [.ref m0, .ref m1, .int (nI hc), .int (nI rf), .ref m2, .ref m3, .ref m4, .ref m5, .ref m6, .ref m7, .ref m8, .long sp, .ref m9, .ref m10, .ref m11, .long ha], aI G m0 220 nw]
  refine J_iconst F (dcq dc_X4_canFill_0 0 rfl) ic_1 ?_
  refine J_istore_n F (lv2 := [(1, .int (nI 1)), (0, .ref qm)]) (dcq dc_X4_canFill_0 1 rfl) rfl (Nat.le_of_ble_eq_true rfl) rfl ?_
  refine J_iconst F (dcq dc_X4_canFill_0 2 rfl) ic_0 ?_
  refine J_istore_n F (lv2 := [(2, .int (nI 0)), (1, .int (nI 1)), (0, .ref qm)]) (dcq dc_X4_canFill_0 3 rfl) rfl (Nat.le_of_ble_eq_true rfl) rfl ?_
  have L4 : ∀ (fu4 : Nat), ∀ (t b : Nat), (t ≤ n) → (b ≤ 1) → (b = 1 ↔ ∀ j, j < t → ¬ (¬ g j = 0 ∧ dnb P g j = none ∧ unb P n g j = none)) → n - t < fu4 → J p l e (cRm 3 69 0 0) s m args below meth c G A 3 (JQ below G A (po_X4_canFill G qm m0 m1 m2 m3 m4 m5 m6 m7 m8 m9 m10 m11 hc rf sp ha nw P M R n v g d) args s 0 0) 0 0 4 [(0, .ref qm), (1, .int (nI b)), (2, .int (nI t))] [] [oB 4 qm [.ref m0, .ref m1, .int (nI hc), .int (nI rf), .ref m2, .ref m3, .ref m4, .ref m5, .ref m6, .ref m7, .ref m8, .long sp, .ref m9, .ref m10, .ref m11, .long ha], aI G m0 220 nw] := by
    intro fu4
    induction fu4 with
    | zero => intro t b ht hb iv hm4; exact absurd hm4 (Nat.not_lt_zero _)
    | succ fu4 ih4 =>
      intro t b ht hb iv hm4
      refine J_iload_n F 2 (dcq dc_X4_canFill_0 4 rfl) rfl rfl ?_
      refine J_aload_n F 0 (dcq dc_X4_canFill_0 5 rfl) rfl rfl ?_
      refine J_get F fcX4 0 0 rfl (Nat.le_of_ble_eq_true rfl) tw_3_223 rfl rfl (dcq dc_X4_canFill_0 6 rfl) ?_
      refine J_iconst F (dcq dc_X4_canFill_0 7 rfl) ic_3 ?_
      refine J_iald F 1 rfl (by omega) (Nat.le_of_ble_eq_true rfl) (dcq dc_X4_canFill_0 8 rfl) ?_
      refine J_cast rfl (st2 := [.int (nI n), .int (nI t)]) (by rw [hRM.2.2.2.1]) rfl ?_
      refine J_ncmp_ge F 58 (by omega) (by omega) (dcq dc_X4_canFill_0 9 rfl) (by decide) (fun h_1 => ?_) (fun h_1 => ?_)
      · skip
        refine J_iload_n F 1 (dcq dc_X4_canFill_0 34 rfl) rfl rfl ?_
        exact J_zret F (by rcases (show b = 0 ∨ b = 1 by omega) with rfl | rfl <;> decide) ⟨b, rfl, rfl, hb, by rw [iv, show t = n by omega]; exact ⟨fun z ⟨j, h1, h2⟩ => z j h1 h2, fun z j h1 h2 => z ⟨j, h1, h2⟩⟩⟩ (Nat.le_of_ble_eq_true rfl) (Nat.le_of_ble_eq_true rfl) (dcq dc_X4_canFill_0 35 rfl)
      · skip
        refine J_iload_n F 1 (dcq dc_X4_canFill_0 10 rfl) rfl rfl ?_
        refine J_nif_eq F 50 (by omega) (dcq dc_X4_canFill_0 11 rfl) (by decide) (fun h_2 => ?_) (fun h_2 => ?_)
        · skip
          refine J_iconst F (dcq dc_X4_canFill_0 30 rfl) ic_0 ?_
          refine J_istore_n F (lv2 := [(1, .int (nI 0)), (0, .ref qm), (2, .int (nI t))]) (dcq dc_X4_canFill_0 31 rfl) rfl (Nat.le_of_ble_eq_true rfl) rfl ?_
          refine J_iinc F (lv2 := [(2, .int (nI (t + 1))), (1, .int (nI 0)), (0, .ref qm)]) (v := nI (t + 1)) 2 (dcq dc_X4_canFill_0 32 rfl) rfl (nI_inc _) (Nat.le_of_ble_eq_true rfl) rfl ?_
          refine J_goto F 4 (dcq dc_X4_canFill_0 33 rfl) (by decide) ?_
          refine J_locs [2, 1, 0] rfl ?_
          exact ih4 (t + 1) 0 (by omega) (by omega) (⟨fun h => absurd h (by decide), fun z => absurd (iv.mpr (fun j h => z j (by omega))) (by omega)⟩) (by omega)
        · skip
          refine J_aload_n F 0 (dcq dc_X4_canFill_0 12 rfl) rfl rfl ?_
          refine J_iload_n F 2 (dcq dc_X4_canFill_0 13 rfl) rfl rfl ?_
          refine J_callV F (wc := [oB 4 qm [.ref m0, .ref m1, .int (nI hc), .int (nI rf), .ref m2, .ref m3, .ref m4, .ref m5, .ref m6, .ref m7, .ref m8, .long sp, .ref m9, .ref m10, .ref m11, .long ha], aI G m0 220 nw]) (wr := []) (rest := []) (qc := 0) (c_X4_isMissing l hl G qm m0 m1 m2 m3 m4 m5 m6 m7 m8 m9 m10 m11 hc rf sp ha nw P M R n v g d t (by first | assumption | omega) (by first | assumption | omega) (by first | assumption | omega) (by first | assumption | omega)) cd_X4_isMissing cv_X4_isMissing rfl rfl rfl tw_4_69 [0, 1] [] rfl rfl rfl rfl (by decide) rfl ⟨(Nat.le_of_ble_eq_true rfl), (Nat.le_of_ble_eq_true rfl), (Nat.le_of_ble_eq_true rfl), (Nat.le_of_ble_eq_true rfl)⟩ (Nat.le_of_ble_eq_true rfl) rfl (dcq dc_X4_canFill_0 14 rfl) ?_
          rintro _ _ h9x
          rcases h9x with ⟨rfl, rfl, hg_20⟩ | ⟨rfl, rfl, hg_20⟩
          · skip
            have hg_20 : ¬ g t = 0 := hg_20
            change J p l e (cRm 3 69 0 0) s m args below meth c G A 3 (JQ below G A (po_X4_canFill G qm m0 m1 m2 m3 m4 m5 m6 m7 m8 m9 m10 m11 hc rf sp ha nw P M R n v g d) args s 0 0) 0 0 23 [(0, .ref qm), (1, .int (nI b)), (2, .int (nI t))] [.int (nI 1)] [oB 4 qm [.ref m0, .ref m1, .int (nI hc), .int (nI rf), .ref m2, .ref m3, .ref m4, .ref m5, .ref m6, .ref m7, .ref m8, .long sp, .ref m9, .ref m10, .ref m11, .long ha], aI G m0 220 nw]
            refine J_if_eq F 46 (dcq dc_X4_canFill_0 15 rfl) (by decide) (fun h_3 => absurd h_3 (by decide)) (fun _ => ?_)
            refine J_aload_n F 0 (dcq dc_X4_canFill_0 16 rfl) rfl rfl ?_
            refine J_iload_n F 2 (dcq dc_X4_canFill_0 17 rfl) rfl rfl ?_
            refine J_iconst F (dcq dc_X4_canFill_0 18 rfl) ic_m1 ?_
            refine J_callV F (wc := [oB 4 qm [.ref m0, .ref m1, .int (nI hc), .int (nI rf), .ref m2, .ref m3, .ref m4, .ref m5, .ref m6, .ref m7, .ref m8, .long sp, .ref m9, .ref m10, .ref m11, .long ha], aI G m0 220 nw]) (wr := []) (rest := []) (qc := 0) (c_X4_nextOf_d l hl G qm m0 m1 m2 m3 m4 m5 m6 m7 m8 m9 m10 m11 hc rf sp ha nw P M R n v g d t (by first | assumption | omega) (by first | assumption | omega) (by first | assumption | omega) (by first | assumption | omega) (by first | assumption | omega) (by first | assumption | omega)) cd_X4_nextOf cv_X4_nextOf rfl rfl rfl tw_4_133 [0, 1] [] rfl rfl rfl rfl (by decide) rfl ⟨(Nat.le_of_ble_eq_true rfl), (Nat.le_of_ble_eq_true rfl), (Nat.le_of_ble_eq_true rfl), (Nat.le_of_ble_eq_true rfl)⟩ (Nat.le_of_ble_eq_true rfl) rfl (dcq dc_X4_canFill_0 19 rfl) ?_
            rintro _ _ ⟨rd, rfl, rfl, hrd⟩
            change J p l e (cRm 3 69 0 0) s m args below meth c G A 3 (JQ below G A (po_X4_canFill G qm m0 m1 m2 m3 m4 m5 m6 m7 m8 m9 m10 m11 hc rf sp ha nw P M R n v g d) args s 0 0) 0 0 32 [(0, .ref qm), (1, .int (nI b)), (2, .int (nI t))] [.int rd] [oB 4 qm [.ref m0, .ref m1, .int (nI hc), .int (nI rf), .ref m2, .ref m3, .ref m4, .ref m5, .ref m6, .ref m7, .ref m8, .long sp, .ref m9, .ref m10, .ref m11, .long ha], aI G m0 220 nw]
            have hrd : rd = oI (dnb P g t) := hrd
            refine J_iconst F (dcq dc_X4_canFill_0 20 rfl) ic_m1 ?_
            refine J_icmp_ne F 46 (dcq dc_X4_canFill_0 21 rfl) (by decide) (fun h_4 => ?_) (fun h_4 => ?_)
            · skip
              have hd := h_4
              refine J_iconst F (dcq dc_X4_canFill_0 28 rfl) ic_1 ?_
              refine J_goto F 51 (dcq dc_X4_canFill_0 29 rfl) (by decide) ?_
              refine J_istore_n F (lv2 := [(1, .int (nI 1)), (0, .ref qm), (2, .int (nI t))]) (dcq dc_X4_canFill_0 31 rfl) rfl (Nat.le_of_ble_eq_true rfl) rfl ?_
              refine J_iinc F (lv2 := [(2, .int (nI (t + 1))), (1, .int (nI 1)), (0, .ref qm)]) (v := nI (t + 1)) 2 (dcq dc_X4_canFill_0 32 rfl) rfl (nI_inc _) (Nat.le_of_ble_eq_true rfl) rfl ?_
              refine J_goto F 4 (dcq dc_X4_canFill_0 33 rfl) (by decide) ?_
              refine J_locs [2, 1, 0] rfl ?_
              exact ih4 (t + 1) 1 (by omega) (by omega) (⟨fun _ => lt_s (iv.mp (by omega)) (fun z => by first | exact absurd hg_20 z.1 | exact hd (by rw [hrd]; exact (oI_m1 (fun a ha => by have := dnb_lt ha; omega)).mpr z.2.1) | exact hu (by rw [hru]; exact (oI_m1 (fun a ha => by have := unb_lt ha; omega)).mpr z.2.2)), fun _ => rfl⟩) (by omega)
            · skip
              have hd := h_4
              refine J_aload_n F 0 (dcq dc_X4_canFill_0 22 rfl) rfl rfl ?_
              refine J_iload_n F 2 (dcq dc_X4_canFill_0 23 rfl) rfl rfl ?_
              refine J_iconst F (dcq dc_X4_canFill_0 24 rfl) ic_1 ?_
              refine J_callV F (wc := [oB 4 qm [.ref m0, .ref m1, .int (nI hc), .int (nI rf), .ref m2, .ref m3, .ref m4, .ref m5, .ref m6, .ref m7, .ref m8, .long sp, .ref m9, .ref m10, .ref m11, .long ha], aI G m0 220 nw]) (wr := []) (rest := []) (qc := 0) (c_X4_nextOf_u l hl G qm m0 m1 m2 m3 m4 m5 m6 m7 m8 m9 m10 m11 hc rf sp ha nw P M R n v g d t (by first | assumption | omega) (by first | assumption | omega) (by first | assumption | omega) (by first | assumption | omega) (by first | assumption | omega) (by first | assumption | omega)) cd_X4_nextOf cv_X4_nextOf rfl rfl rfl tw_4_133 [0, 1] [] rfl rfl rfl rfl (by decide) rfl ⟨(Nat.le_of_ble_eq_true rfl), (Nat.le_of_ble_eq_true rfl), (Nat.le_of_ble_eq_true rfl), (Nat.le_of_ble_eq_true rfl)⟩ (Nat.le_of_ble_eq_true rfl) rfl (dcq dc_X4_canFill_0 25 rfl) ?_
              rintro _ _ ⟨ru, rfl, rfl, hru⟩
              change J p l e (cRm 3 69 0 0) s m args below meth c G A 3 (JQ below G A (po_X4_canFill G qm m0 m1 m2 m3 m4 m5 m6 m7 m8 m9 m10 m11 hc rf sp ha nw P M R n v g d) args s 0 0) 0 0 42 [(0, .ref qm), (1, .int (nI b)), (2, .int (nI t))] [.int ru] [oB 4 qm [.ref m0, .ref m1, .int (nI hc), .int (nI rf), .ref m2, .ref m3, .ref m4, .ref m5, .ref m6, .ref m7, .ref m8, .long sp, .ref m9, .ref m10, .ref m11, .long ha], aI G m0 220 nw]
              have hru : ru = oI (unb P n g t) := hru
              refine J_iconst F (dcq dc_X4_canFill_0 26 rfl) ic_m1 ?_
              refine J_icmp_eq F 50 (dcq dc_X4_canFill_0 27 rfl) (by decide) (fun h_5 => ?_) (fun h_5 => ?_)
              · skip
                have hu := h_5
                refine J_iconst F (dcq dc_X4_canFill_0 30 rfl) ic_0 ?_
                refine J_istore_n F (lv2 := [(1, .int (nI 0)), (0, .ref qm), (2, .int (nI t))]) (dcq dc_X4_canFill_0 31 rfl) rfl (Nat.le_of_ble_eq_true rfl) rfl ?_
                refine J_iinc F (lv2 := [(2, .int (nI (t + 1))), (1, .int (nI 0)), (0, .ref qm)]) (v := nI (t + 1)) 2 (dcq dc_X4_canFill_0 32 rfl) rfl (nI_inc _) (Nat.le_of_ble_eq_true rfl) rfl ?_
                refine J_goto F 4 (dcq dc_X4_canFill_0 33 rfl) (by decide) ?_
                refine J_locs [2, 1, 0] rfl ?_
                exact ih4 (t + 1) 0 (by omega) (by omega) (⟨fun h => absurd h (by decide), fun z => absurd ⟨hg_20, (oI_m1 (fun a ha => by have := dnb_lt ha; omega)).mp (by rw [← hrd]; exact hd), (oI_m1 (fun a ha => by have := unb_lt ha; omega)).mp (by rw [← hru]; exact hu)⟩ (z t (by omega))⟩) (by omega)
              · skip
                have hu := h_5
                refine J_iconst F (dcq dc_X4_canFill_0 28 rfl) ic_1 ?_
                refine J_goto F 51 (dcq dc_X4_canFill_0 29 rfl) (by decide) ?_
                refine J_istore_n F (lv2 := [(1, .int (nI 1)), (0, .ref qm), (2, .int (nI t))]) (dcq dc_X4_canFill_0 31 rfl) rfl (Nat.le_of_ble_eq_true rfl) rfl ?_
                refine J_iinc F (lv2 := [(2, .int (nI (t + 1))), (1, .int (nI 1)), (0, .ref qm)]) (v := nI (t + 1)) 2 (dcq dc_X4_canFill_0 32 rfl) rfl (nI_inc _) (Nat.le_of_ble_eq_true rfl) rfl ?_
                refine J_goto F 4 (dcq dc_X4_canFill_0 33 rfl) (by decide) ?_
                refine J_locs [2, 1, 0] rfl ?_
                exact ih4 (t + 1) 1 (by omega) (by omega) (⟨fun _ => lt_s (iv.mp (by omega)) (fun z => by first | exact absurd hg_20 z.1 | exact hd (by rw [hrd]; exact (oI_m1 (fun a ha => by have := dnb_lt ha; omega)).mpr z.2.1) | exact hu (by rw [hru]; exact (oI_m1 (fun a ha => by have := unb_lt ha; omega)).mpr z.2.2)), fun _ => rfl⟩) (by omega)
          · skip
            have hg_20 : g t = 0 := hg_20
            change J p l e (cRm 3 69 0 0) s m args below meth c G A 3 (JQ below G A (po_X4_canFill G qm m0 m1 m2 m3 m4 m5 m6 m7 m8 m9 m10 m11 hc rf sp ha nw P M R n v g d) args s 0 0) 0 0 23 [(0, .ref qm), (1, .int (nI b)), (2, .int (nI t))] [.int (nI 0)] [oB 4 qm [.ref m0, .ref m1, .int (nI hc), .int (nI rf), .ref m2, .ref m3, .ref m4, .ref m5, .ref m6, .ref m7, .ref m8, .long sp, .ref m9, .ref m10, .ref m11, .long ha], aI G m0 220 nw]
            refine J_if_eq F 46 (dcq dc_X4_canFill_0 15 rfl) (by decide) (fun _ => ?_) (fun h_6 => absurd h_6 (by decide))
            refine J_iconst F (dcq dc_X4_canFill_0 28 rfl) ic_1 ?_
            refine J_goto F 51 (dcq dc_X4_canFill_0 29 rfl) (by decide) ?_
            refine J_istore_n F (lv2 := [(1, .int (nI 1)), (0, .ref qm), (2, .int (nI t))]) (dcq dc_X4_canFill_0 31 rfl) rfl (Nat.le_of_ble_eq_true rfl) rfl ?_
            refine J_iinc F (lv2 := [(2, .int (nI (t + 1))), (1, .int (nI 1)), (0, .ref qm)]) (v := nI (t + 1)) 2 (dcq dc_X4_canFill_0 32 rfl) rfl (nI_inc _) (Nat.le_of_ble_eq_true rfl) rfl ?_
            refine J_goto F 4 (dcq dc_X4_canFill_0 33 rfl) (by decide) ?_
            refine J_locs [2, 1, 0] rfl ?_
            exact ih4 (t + 1) 1 (by omega) (by omega) (⟨fun _ => lt_s (iv.mp (by omega)) (fun z => by first | exact absurd hg_20 z.1 | exact hd (by rw [hrd]; exact (oI_m1 (fun a ha => by have := dnb_lt ha; omega)).mpr z.2.1) | exact hu (by rw [hru]; exact (oI_m1 (fun a ha => by have := unb_lt ha; omega)).mpr z.2.2)), fun _ => rfl⟩) (by omega)
  refine J_locs [2, 1, 0] rfl ?_
  exact L4 (n - 0 + 1) 0 1 (by omega) (by omega) (⟨fun _ j h => absurd h (Nat.not_lt_zero _), fun _ => rfl⟩) (Nat.lt_succ_self _)

abbrev po_X4_fill (G : Gt) (qm m0 m1 m2 m3 m4 m5 m6 m7 m8 m9 m10 m11 hc rf : Nat) (sp ha : Int64) (nw : Nat → Int32) (P M R n : Nat) (v g d : Nat → Int32) (pp : Nat → Int32) (fl : Nat → Int32) : Option Value → va_W → Prop := fun (v9 : Option Value) (w9 : va_W) => (∃ (c2 : Nat), ∃ (pp2 : Nat → Int32), ∃ (r : Nat), ∃ (nw2 v2 g2 fl2 : Nat → Int32), v9 = some (.int (nI r)) ∧ w9 = [oB 4 qm [.ref m0, .ref m1, .int (nI c2), .int (nI 0), .ref m2, .ref m3, .ref m4, .ref m5, .ref m6, .ref m7, .ref m8, .long sp, .ref m9, .ref m10, .ref m11, .long ha], aI G m0 220 nw2, aI G m1 880 pp2, aI G m2 72 fl2] ∧ (MSV hc pp nw c2 pp2) ∧ (¬ unf P n g) ∧ (r = cg g n) ∧ (RM nw2 P M R n v2 g2 d) ∧ (∀ t, t < n → v2 t = (if g t = 0 then v t else filv P n v g t)) ∧ (∀ t, t < n → g2 t = 0)) ∨ (v9 = some (.int (nI 0)) ∧ w9 = [oB 4 qm [.ref m0, .ref m1, .int (nI hc), .int (nI 1), .ref m2, .ref m3, .ref m4, .ref m5, .ref m6, .ref m7, .ref m8, .long sp, .ref m9, .ref m10, .ref m11, .long ha], aI G m0 220 nw, aI G m1 880 pp, aI G m2 72 fl] ∧ (unf P n g))
set_option maxHeartbeats 4000000 in
set_option maxRecDepth 100000 in
theorem c_X4_fill (l : Launch) (hl : l.stackTraces = false) (G : Gt) (qm m0 m1 m2 m3 m4 m5 m6 m7 m8 m9 m10 m11 hc rf : Nat) (sp ha : Int64) (nw : Nat → Int32) (P M R n : Nat) (v g d : Nat → Int32) (pp : Nat → Int32) (fl : Nat → Int32) (hRM : RM nw P M R n v g d) (hhc : hc ≤ 4) (hn : n ≤ 72) (h01 : G01 n g) (hP : 2 ≤ P) (hP12 : P ≤ 12) : Con l G yX4_fill cX4_fill 5 (some .int) 4 91 0 0 [.ref qm] [oB 4 qm [.ref m0, .ref m1, .int (nI hc), .int (nI rf), .ref m2, .ref m3, .ref m4, .ref m5, .ref m6, .ref m7, .ref m8, .long sp, .ref m9, .ref m10, .ref m11, .long ha], aI G m0 220 nw, aI G m1 880 pp, aI G m2 72 fl] (po_X4_fill G qm m0 m1 m2 m3 m4 m5 m6 m7 m8 m9 m10 m11 hc rf sp ha nw P M R n v g d pp fl) := by
  refine Con.of hl cd_X4_fill (Nat.le_of_ble_eq_true rfl) ?_
  intro p e s m args below meth c A F hin9
  change Fx p l s m args meth c G A "SeasonalAdjusterModel" cX4_fill 5 (some .int) at F
  change J p l e (cRm 4 91 0 0) s m args below meth c G A 5 (JQ below G A (po_X4_fill G qm m0 m1 m2 m3 m4 m5 m6 m7 m8 m9 m10 m11 hc rf sp ha nw P M R n v g d pp fl) args s 0 0) 0 0 0 [(0, .ref qm)] [] [oB 4 qm [.ref m0, .ref m1, .int (nI hc), .int (nI rf), .ref m2, .ref m3, .ref m4, .ref m5, .ref m6, .ref m7, .ref m8, .long sp, .ref m9, .ref m10, .ref m11, .long ha], aI G m0 220 nw, aI G m1 880 pp, aI G m2 72 fl]
  refine J_aload_n F 0 (dcq dc_X4_fill_0 0 rfl) rfl rfl ?_
  refine J_aload_n F 0 (dcq dc_X4_fill_0 1 rfl) rfl rfl ?_
  refine J_callV F (wc := [oB 4 qm [.ref m0, .ref m1, .int (nI hc), .int (nI rf), .ref m2, .ref m3, .ref m4, .ref m5, .ref m6, .ref m7, .ref m8, .long sp, .ref m9, .ref m10, .ref m11, .long ha], aI G m0 220 nw]) (wr := [aI G m1 880 pp, aI G m2 72 fl]) (rest := [.ref qm]) (qc := 0) (c_X4_canFill l hl G qm m0 m1 m2 m3 m4 m5 m6 m7 m8 m9 m10 m11 hc rf sp ha nw P M R n v g d (by first | assumption | omega) (by first | assumption | omega) (by first | assumption | omega) (by first | assumption | omega) (by first | assumption | omega)) cd_X4_canFill cv_X4_canFill rfl rfl rfl tw_4_129 [0, 1] [2, 3] rfl rfl rfl rfl (by decide) rfl ⟨(Nat.le_of_ble_eq_true rfl), (Nat.le_of_ble_eq_true rfl), (Nat.le_of_ble_eq_true rfl), (Nat.le_of_ble_eq_true rfl)⟩ (Nat.le_of_ble_eq_true rfl) rfl (dcq dc_X4_fill_0 2 rfl) ?_
  rintro _ _ ⟨rc, rfl, rfl, hrc1, hrc⟩
  change J p l e (cRm 4 91 0 0) s m args below meth c G A 5 (JQ below G A (po_X4_fill G qm m0 m1 m2 m3 m4 m5 m6 m7 m8 m9 m10 m11 hc rf sp ha nw P M R n v g d pp fl) args s 0 0) 0 0 5 [(0, .ref qm)] [.int (nI rc), .ref qm] [aI G m1 880 pp, aI G m2 72 fl, oB 4 qm [.ref m0, .ref m1, .int (nI hc), .int (nI rf), .ref m2, .ref m3, .ref m4, .ref m5, .ref m6, .ref m7, .ref m8, .long sp, .ref m9, .ref m10, .ref m11, .long ha], aI G m0 220 nw]
  have hrc1 : rc ≤ 1 := hrc1
  have hrc : rc = 1 ↔ ¬ unf P n g := hrc
  refine J_world (ws2 := [oB 4 qm [.ref m0, .ref m1, .int (nI hc), .int (nI rf), .ref m2, .ref m3, .ref m4, .ref m5, .ref m6, .ref m7, .ref m8, .long sp, .ref m9, .ref m10, .ref m11, .long ha], aI G m0 220 nw, aI G m1 880 pp, aI G m2 72 fl]) [2, 3, 0, 1] rfl rfl ?_
  refine J_nif_eq F 12 (by omega) (dcq dc_X4_fill_0 3 rfl) (by decide) (fun h_1 => ?_) (fun h_1 => ?_)
  · skip
    have hz := h_1
    refine J_iconst F (dcq dc_X4_fill_0 6 rfl) ic_1 ?_
    refine J_callV F (wc := [oB 4 qm [.ref m0, .ref m1, .int (nI hc), .int (nI rf), .ref m2, .ref m3, .ref m4, .ref m5, .ref m6, .ref m7, .ref m8, .long sp, .ref m9, .ref m10, .ref m11, .long ha]]) (wr := [aI G m0 220 nw, aI G m1 880 pp, aI G m2 72 fl]) (rest := []) (qc := 0) (c_X4_refused_1 l hl G qm m0 m1 m2 m3 m4 m5 m6 m7 m8 m9 m10 m11 hc rf sp ha) cd_X4_refused cv_X4_refused rfl rfl rfl tw_4_40 [0] [1, 2, 3] rfl rfl rfl rfl (by decide) rfl ⟨(Nat.le_of_ble_eq_true rfl), (Nat.le_of_ble_eq_true rfl), (Nat.le_of_ble_eq_true rfl), (Nat.le_of_ble_eq_true rfl)⟩ (Nat.le_of_ble_eq_true rfl) rfl (dcq dc_X4_fill_0 7 rfl) ?_
    rintro _ _ ⟨rfl, rfl⟩
    change J p l e (cRm 4 91 0 0) s m args below meth c G A 5 (JQ below G A (po_X4_fill G qm m0 m1 m2 m3 m4 m5 m6 m7 m8 m9 m10 m11 hc rf sp ha nw P M R n v g d pp fl) args s 0 0) 0 0 16 [(0, .ref qm)] [.int (nI 1)] [aI G m0 220 nw, aI G m1 880 pp, aI G m2 72 fl, oB 4 qm [.ref m0, .ref m1, .int (nI hc), .int (nI 1), .ref m2, .ref m3, .ref m4, .ref m5, .ref m6, .ref m7, .ref m8, .long sp, .ref m9, .ref m10, .ref m11, .long ha]]
    refine J_world (ws2 := [oB 4 qm [.ref m0, .ref m1, .int (nI hc), .int (nI 1), .ref m2, .ref m3, .ref m4, .ref m5, .ref m6, .ref m7, .ref m8, .long sp, .ref m9, .ref m10, .ref m11, .long ha], aI G m0 220 nw, aI G m1 880 pp, aI G m2 72 fl]) [3, 0, 1, 2] rfl rfl ?_
    refine J_if_eq F 21 (dcq dc_X4_fill_0 8 rfl) (by decide) (fun h_2 => absurd h_2 (by decide)) (fun _ => ?_)
    refine J_iconst F (dcq dc_X4_fill_0 9 rfl) ic_0 ?_
    exact J_iret F (Or.inr (⟨rfl, rfl, Classical.byContradiction fun z => by have := hrc.mpr z; omega⟩)) (Nat.le_of_ble_eq_true rfl) (Nat.le_of_ble_eq_true rfl) (dcq dc_X4_fill_0 10 rfl)
  · skip
    have hz := h_1
    refine J_iconst F (dcq dc_X4_fill_0 4 rfl) ic_0 ?_
    refine J_goto F 13 (dcq dc_X4_fill_0 5 rfl) (by decide) ?_
    refine J_callV F (wc := [oB 4 qm [.ref m0, .ref m1, .int (nI hc), .int (nI rf), .ref m2, .ref m3, .ref m4, .ref m5, .ref m6, .ref m7, .ref m8, .long sp, .ref m9, .ref m10, .ref m11, .long ha]]) (wr := [aI G m0 220 nw, aI G m1 880 pp, aI G m2 72 fl]) (rest := []) (qc := 0) (c_X4_refused_0 l hl G qm m0 m1 m2 m3 m4 m5 m6 m7 m8 m9 m10 m11 hc rf sp ha) cd_X4_refused cv_X4_refused rfl rfl rfl tw_4_40 [0] [1, 2, 3] rfl rfl rfl rfl (by decide) rfl ⟨(Nat.le_of_ble_eq_true rfl), (Nat.le_of_ble_eq_true rfl), (Nat.le_of_ble_eq_true rfl), (Nat.le_of_ble_eq_true rfl)⟩ (Nat.le_of_ble_eq_true rfl) rfl (dcq dc_X4_fill_0 7 rfl) ?_
    rintro _ _ ⟨rfl, rfl⟩
    change J p l e (cRm 4 91 0 0) s m args below meth c G A 5 (JQ below G A (po_X4_fill G qm m0 m1 m2 m3 m4 m5 m6 m7 m8 m9 m10 m11 hc rf sp ha nw P M R n v g d pp fl) args s 0 0) 0 0 16 [(0, .ref qm)] [.int (nI 0)] [aI G m0 220 nw, aI G m1 880 pp, aI G m2 72 fl, oB 4 qm [.ref m0, .ref m1, .int (nI hc), .int (nI 0), .ref m2, .ref m3, .ref m4, .ref m5, .ref m6, .ref m7, .ref m8, .long sp, .ref m9, .ref m10, .ref m11, .long ha]]
    refine J_world (ws2 := [oB 4 qm [.ref m0, .ref m1, .int (nI hc), .int (nI 0), .ref m2, .ref m3, .ref m4, .ref m5, .ref m6, .ref m7, .ref m8, .long sp, .ref m9, .ref m10, .ref m11, .long ha], aI G m0 220 nw, aI G m1 880 pp, aI G m2 72 fl]) [3, 0, 1, 2] rfl rfl ?_
    refine J_if_eq F 21 (dcq dc_X4_fill_0 8 rfl) (by decide) (fun _ => ?_) (fun h_3 => absurd h_3 (by decide))
    refine J_aload_n F 0 (dcq dc_X4_fill_0 11 rfl) rfl rfl ?_
    refine J_callV F (wc := [oB 4 qm [.ref m0, .ref m1, .int (nI hc), .int (nI 0), .ref m2, .ref m3, .ref m4, .ref m5, .ref m6, .ref m7, .ref m8, .long sp, .ref m9, .ref m10, .ref m11, .long ha], aI G m0 220 nw, aI G m1 880 pp]) (wr := [aI G m2 72 fl]) (rest := []) (qc := 0) (c_X4_saves l hl G qm m0 m1 m2 m3 m4 m5 m6 m7 m8 m9 m10 m11 hc 0 sp ha nw pp (by first | assumption | omega)) cd_X4_saves cv_X4_saves rfl rfl rfl tw_4_57 [0, 1, 2] [3] rfl rfl rfl rfl (by decide) rfl ⟨(Nat.le_of_ble_eq_true rfl), (Nat.le_of_ble_eq_true rfl), (Nat.le_of_ble_eq_true rfl), (Nat.le_of_ble_eq_true rfl)⟩ (Nat.le_of_ble_eq_true rfl) rfl (dcq dc_X4_fill_0 12 rfl) ?_
    rintro _ _ ⟨c2, pp2, rfl, rfl, hms⟩
    change J p l e (cRm 4 91 0 0) s m args below meth c G A 5 (JQ below G A (po_X4_fill G qm m0 m1 m2 m3 m4 m5 m6 m7 m8 m9 m10 m11 hc rf sp ha nw P M R n v g d pp fl) args s 0 0) 0 0 25 [(0, .ref qm)] [] [aI G m2 72 fl, oB 4 qm [.ref m0, .ref m1, .int (nI c2), .int (nI 0), .ref m2, .ref m3, .ref m4, .ref m5, .ref m6, .ref m7, .ref m8, .long sp, .ref m9, .ref m10, .ref m11, .long ha], aI G m0 220 nw, aI G m1 880 pp2]
    have hms : MSV hc pp nw c2 pp2 := hms
    refine J_world (ws2 := [oB 4 qm [.ref m0, .ref m1, .int (nI c2), .int (nI 0), .ref m2, .ref m3, .ref m4, .ref m5, .ref m6, .ref m7, .ref m8, .long sp, .ref m9, .ref m10, .ref m11, .long ha], aI G m0 220 nw, aI G m1 880 pp2, aI G m2 72 fl]) [1, 2, 3, 0] rfl rfl ?_
    refine J_aload_n F 0 (dcq dc_X4_fill_0 13 rfl) rfl rfl ?_
    refine J_callV F (wc := [oB 4 qm [.ref m0, .ref m1, .int (nI c2), .int (nI 0), .ref m2, .ref m3, .ref m4, .ref m5, .ref m6, .ref m7, .ref m8, .long sp, .ref m9, .ref m10, .ref m11, .long ha], aI G m0 220 nw]) (wr := [aI G m1 880 pp2, aI G m2 72 fl]) (rest := []) (qc := 0) (c_X4_missingOnes l hl G qm m0 m1 m2 m3 m4 m5 m6 m7 m8 m9 m10 m11 c2 0 sp ha nw P M R n v g d (by first | assumption | omega) (by first | assumption | omega) (by first | assumption | omega)) cd_X4_missingOnes cv_X4_missingOnes rfl rfl rfl tw_4_108 [0, 1] [2, 3] rfl rfl rfl rfl (by decide) rfl ⟨(Nat.le_of_ble_eq_true rfl), (Nat.le_of_ble_eq_true rfl), (Nat.le_of_ble_eq_true rfl), (Nat.le_of_ble_eq_true rfl)⟩ (Nat.le_of_ble_eq_true rfl) rfl (dcq dc_X4_fill_0 14 rfl) ?_
    rintro _ _ ⟨rm, rfl, rfl, hrm⟩
    change J p l e (cRm 4 91 0 0) s m args below meth c G A 5 (JQ below G A (po_X4_fill G qm m0 m1 m2 m3 m4 m5 m6 m7 m8 m9 m10 m11 hc rf sp ha nw P M R n v g d pp fl) args s 0 0) 0 0 29 [(0, .ref qm)] [.int (nI rm)] [aI G m1 880 pp2, aI G m2 72 fl, oB 4 qm [.ref m0, .ref m1, .int (nI c2), .int (nI 0), .ref m2, .ref m3, .ref m4, .ref m5, .ref m6, .ref m7, .ref m8, .long sp, .ref m9, .ref m10, .ref m11, .long ha], aI G m0 220 nw]
    have hrm : rm = cg g n := hrm
    refine J_world (ws2 := [oB 4 qm [.ref m0, .ref m1, .int (nI c2), .int (nI 0), .ref m2, .ref m3, .ref m4, .ref m5, .ref m6, .ref m7, .ref m8, .long sp, .ref m9, .ref m10, .ref m11, .long ha], aI G m0 220 nw, aI G m1 880 pp2, aI G m2 72 fl]) [2, 3, 0, 1] rfl rfl ?_
    refine J_istore_n F (lv2 := [(1, .int (nI rm)), (0, .ref qm)]) (dcq dc_X4_fill_0 15 rfl) rfl (Nat.le_of_ble_eq_true rfl) rfl ?_
    have hnu : ¬ unf P n g := hrc.mp (by omega)
    refine J_iconst F (dcq dc_X4_fill_0 16 rfl) ic_0 ?_
    refine J_istore_n F (lv2 := [(2, .int (nI 0)), (1, .int (nI rm)), (0, .ref qm)]) (dcq dc_X4_fill_0 17 rfl) rfl (Nat.le_of_ble_eq_true rfl) rfl ?_
    have L32 : ∀ (fu32 : Nat), ∀ (t : Nat) (fa : Nat → Int32), (t ≤ n) → (∀ j, 0 ≤ j → j < t → fa j = (if g j = 0 then v j else filv P n v g j)) → n - t < fu32 → J p l e (cRm 4 91 0 0) s m args below meth c G A 5 (JQ below G A (po_X4_fill G qm m0 m1 m2 m3 m4 m5 m6 m7 m8 m9 m10 m11 hc rf sp ha nw P M R n v g d pp fl) args s 0 0) 0 0 32 [(0, .ref qm), (1, .int (nI rm)), (2, .int (nI t))] [] [oB 4 qm [.ref m0, .ref m1, .int (nI c2), .int (nI 0), .ref m2, .ref m3, .ref m4, .ref m5, .ref m6, .ref m7, .ref m8, .long sp, .ref m9, .ref m10, .ref m11, .long ha], aI G m0 220 nw, aI G m1 880 pp2, aI G m2 72 fa] := by
      intro fu32
      induction fu32 with
      | zero => intro t fa ht i1 hm32; exact absurd hm32 (Nat.not_lt_zero _)
      | succ fu32 ih32 =>
        intro t fa ht i1 hm32
        refine J_iload_n F 2 (dcq dc_X4_fill_0 18 rfl) rfl rfl ?_
        refine J_aload_n F 0 (dcq dc_X4_fill_0 19 rfl) rfl rfl ?_
        refine J_get F fcX4 0 0 rfl (Nat.le_of_ble_eq_true rfl) tw_3_223 rfl rfl (dcq dc_X4_fill_0 20 rfl) ?_
        refine J_iconst F (dcq dc_X4_fill_0 21 rfl) ic_3 ?_
        refine J_iald F 1 rfl (by omega) (Nat.le_of_ble_eq_true rfl) (dcq dc_X4_fill_0 22 rfl) ?_
        refine J_cast rfl (st2 := [.int (nI n), .int (nI t)]) (by rw [hRM.2.2.2.1]) rfl ?_
        refine J_ncmp_ge F 134 (by omega) (by omega) (dcq dc_X4_fill_0 23 rfl) (by decide) (fun h_4 => ?_) (fun h_4 => ?_)
        · skip
          refine J_iconst F (dcq dc_X4_fill_1 26 rfl) ic_0 ?_
          refine J_istore_n F (lv2 := [(2, .int (nI 0)), (0, .ref qm), (1, .int (nI rm))]) (dcq dc_X4_fill_1 27 rfl) rfl (Nat.le_of_ble_eq_true rfl) rfl ?_
          have L136 : ∀ (fu136 : Nat), ∀ (t2 : Nat) (nk vk gk : Nat → Int32), (t2 ≤ n) → (RM nk P M R n vk gk d) → (∀ j, 0 ≤ j → j < t2 → vk j = (if g j = 0 then v j else filv P n v g j)) → (∀ j, 0 ≤ j → j < t2 → gk j = 0) → n - t2 < fu136 → J p l e (cRm 4 91 0 0) s m args below meth c G A 5 (JQ below G A (po_X4_fill G qm m0 m1 m2 m3 m4 m5 m6 m7 m8 m9 m10 m11 hc rf sp ha nw P M R n v g d pp fl) args s 0 0) 0 0 136 [(0, .ref qm), (1, .int (nI rm)), (2, .int (nI t2))] [] [oB 4 qm [.ref m0, .ref m1, .int (nI c2), .int (nI 0), .ref m2, .ref m3, .ref m4, .ref m5, .ref m6, .ref m7, .ref m8, .long sp, .ref m9, .ref m10, .ref m11, .long ha], aI G m0 220 nk, aI G m1 880 pp2, aI G m2 72 fa] := by
            intro fu136
            induction fu136 with
            | zero => intro t2 nk vk gk ht2 hRk k1 k2 hm136; exact absurd hm136 (Nat.not_lt_zero _)
            | succ fu136 ih136 =>
              intro t2 nk vk gk ht2 hRk k1 k2 hm136
              refine J_iload_n F 2 (dcq dc_X4_fill_1 28 rfl) rfl rfl ?_
              refine J_aload_n F 0 (dcq dc_X4_fill_1 29 rfl) rfl rfl ?_
              refine J_get F fcX4 0 0 rfl (Nat.le_of_ble_eq_true rfl) tw_3_223 rfl rfl (dcq dc_X4_fill_1 30 rfl) ?_
              refine J_iconst F (dcq dc_X4_fill_1 31 rfl) ic_3 ?_
              refine J_iald F 1 rfl (by omega) (Nat.le_of_ble_eq_true rfl) (dcq dc_X4_fill_1 32 rfl) ?_
              refine J_cast rfl (st2 := [.int (nI n), .int (nI t2)]) (by rw [hRk.2.2.2.1]) rfl ?_
              refine J_ncmp_ge F 181 (by omega) (by omega) (dcq dc_X4_fill_1 33 rfl) (by decide) (fun h_5 => ?_) (fun h_5 => ?_)
              · skip
                refine J_iload_n F 1 (dcq dc_X4_fill_2 11 rfl) rfl rfl ?_
                exact J_iret F (Or.inl ⟨c2, pp2, rm, nk, vk, gk, fa, rfl, rfl, by first | assumption | omega, hnu, hrm, hRk, fun j h => k1 j (Nat.zero_le _) (by omega), fun j h => k2 j (Nat.zero_le _) (by omega)⟩) (Nat.le_of_ble_eq_true rfl) (Nat.le_of_ble_eq_true rfl) (dcq dc_X4_fill_2 12 rfl)
              · skip
                refine J_aload_n F 0 (dcq dc_X4_fill_1 34 rfl) rfl rfl ?_
                refine J_get F fcX4 0 0 rfl (Nat.le_of_ble_eq_true rfl) tw_3_223 rfl rfl (dcq dc_X4_fill_1 35 rfl) ?_
                refine J_iconst F (dcq dc_X4_fill_1 36 rfl) ic_4 ?_
                refine J_iconst F (dcq dc_X4_fill_1 37 rfl) ic_3 ?_
                refine J_iload_n F 2 (dcq dc_X4_fill_1 38 rfl) rfl rfl ?_
                refine J_imul F (v := nI (3 * t2)) (dcq dc_X4_fill_1 39 rfl) (pk_mul _ _) ?_
                refine J_iadd F (v := nI (4 + 3 * t2)) (dcq dc_X4_fill_1 40 rfl) (nI_add _ _) ?_
                refine J_iconst F (dcq dc_X4_fill_1 41 rfl) ic_0 ?_
                refine J_iast F (ws2 := [oB 4 qm [.ref m0, .ref m1, .int (nI c2), .int (nI 0), .ref m2, .ref m3, .ref m4, .ref m5, .ref m6, .ref m7, .ref m8, .long sp, .ref m9, .ref m10, .ref m11, .long ha], aI G m0 220 (upd nk (4 + 3 * t2) (nI 0)), aI G m1 880 pp2, aI G m2 72 fa]) 1 rfl (by omega) (Nat.le_of_ble_eq_true rfl) rfl (dcq dc_X4_fill_1 42 rfl) ?_
                refine J_aload_n F 0 (dcq dc_X4_fill_1 43 rfl) rfl rfl ?_
                refine J_get F fcX4 0 0 rfl (Nat.le_of_ble_eq_true rfl) tw_3_223 rfl rfl (dcq dc_X4_fill_1 44 rfl) ?_
                refine J_iconst F (dcq dc_X4_fill_1 45 rfl) ic_4 ?_
                refine J_iconst F (dcq dc_X4_fill_1 46 rfl) ic_3 ?_
                refine J_iload_n F 2 (dcq dc_X4_fill_1 47 rfl) rfl rfl ?_
                refine J_imul F (v := nI (3 * t2)) (dcq dc_X4_fill_2 0 rfl) (pk_mul _ _) ?_
                refine J_iadd F (v := nI (4 + 3 * t2)) (dcq dc_X4_fill_2 1 rfl) (nI_add _ _) ?_
                refine J_iconst F (dcq dc_X4_fill_2 2 rfl) ic_1 ?_
                refine J_iadd F (v := nI (4 + 3 * t2 + 1)) (dcq dc_X4_fill_2 3 rfl) (nI_add _ _) ?_
                refine J_aload_n F 0 (dcq dc_X4_fill_2 4 rfl) rfl rfl ?_
                refine J_get F fcX4 0 4 rfl (Nat.le_of_ble_eq_true rfl) tw_3_227 rfl rfl (dcq dc_X4_fill_2 5 rfl) ?_
                refine J_iload_n F 2 (dcq dc_X4_fill_2 6 rfl) rfl rfl ?_
                refine J_iald F 3 rfl (by omega) (Nat.le_of_ble_eq_true rfl) (dcq dc_X4_fill_2 7 rfl) ?_
                refine J_iast F (ws2 := [oB 4 qm [.ref m0, .ref m1, .int (nI c2), .int (nI 0), .ref m2, .ref m3, .ref m4, .ref m5, .ref m6, .ref m7, .ref m8, .long sp, .ref m9, .ref m10, .ref m11, .long ha], aI G m0 220 (upd (upd nk (4 + 3 * t2) (nI 0)) (4 + 3 * t2 + 1) (fa t2)), aI G m1 880 pp2, aI G m2 72 fa]) 1 rfl (by omega) (Nat.le_of_ble_eq_true rfl) rfl (dcq dc_X4_fill_2 8 rfl) ?_
                refine J_iinc F (lv2 := [(2, .int (nI (t2 + 1))), (0, .ref qm), (1, .int (nI rm))]) (v := nI (t2 + 1)) 2 (dcq dc_X4_fill_2 9 rfl) rfl (nI_inc _) (Nat.le_of_ble_eq_true rfl) rfl ?_
                refine J_goto F 136 (dcq dc_X4_fill_2 10 rfl) (by decide) ?_
                refine J_locs [1, 2, 0] rfl ?_
                exact ih136 (t2 + 1) (upd (upd nk (4 + 3 * t2) (nI 0)) (4 + 3 * t2 + 1) (fa t2)) (upd vk t2 (fa t2)) (upd gk t2 (nI 0)) (by omega) (RM_v (RM_g hRk t2 (nI 0)) t2 (fa t2)) (up_i (s := fun j => (if g j = 0 then v j else filv P n v g j)) k1 (i1 t2 (Nat.zero_le _) (by omega))) (up_i (s := fun _ => 0) k2 nI_0) (by omega)
          refine J_locs [1, 2, 0] rfl ?_
          exact L136 (n - 0 + 1) 0 nw v g (by omega) (hRM) (fun i _ h => absurd h (Nat.not_lt_zero _)) (fun i _ h => absurd h (Nat.not_lt_zero _)) (Nat.lt_succ_self _)
        · skip
          refine J_aload_n F 0 (dcq dc_X4_fill_0 24 rfl) rfl rfl ?_
          refine J_iload_n F 2 (dcq dc_X4_fill_0 25 rfl) rfl rfl ?_
          refine J_iconst F (dcq dc_X4_fill_0 26 rfl) ic_m1 ?_
          refine J_callV F (wc := [oB 4 qm [.ref m0, .ref m1, .int (nI c2), .int (nI 0), .ref m2, .ref m3, .ref m4, .ref m5, .ref m6, .ref m7, .ref m8, .long sp, .ref m9, .ref m10, .ref m11, .long ha], aI G m0 220 nw]) (wr := [aI G m1 880 pp2, aI G m2 72 fa]) (rest := []) (qc := 0) (c_X4_nextOf_d l hl G qm m0 m1 m2 m3 m4 m5 m6 m7 m8 m9 m10 m11 c2 0 sp ha nw P M R n v g d t (by first | assumption | omega) (by first | assumption | omega) (by first | assumption | omega) (by first | assumption | omega) (by first | assumption | omega) (by first | assumption | omega)) cd_X4_nextOf cv_X4_nextOf rfl rfl rfl tw_4_133 [0, 1] [2, 3] rfl rfl rfl rfl (by decide) rfl ⟨(Nat.le_of_ble_eq_true rfl), (Nat.le_of_ble_eq_true rfl), (Nat.le_of_ble_eq_true rfl), (Nat.le_of_ble_eq_true rfl)⟩ (Nat.le_of_ble_eq_true rfl) rfl (dcq dc_X4_fill_0 27 rfl) ?_
          rintro _ _ ⟨rd, rfl, rfl, hrd⟩
          change J p l e (cRm 4 91 0 0) s m args below meth c G A 5 (JQ below G A (po_X4_fill G qm m0 m1 m2 m3 m4 m5 m6 m7 m8 m9 m10 m11 hc rf sp ha nw P M R n v g d pp fl) args s 0 0) 0 0 48 [(0, .ref qm), (1, .int (nI rm)), (2, .int (nI t))] [.int rd] [aI G m1 880 pp2, aI G m2 72 fa, oB 4 qm [.ref m0, .ref m1, .int (nI c2), .int (nI 0), .ref m2, .ref m3, .ref m4, .ref m5, .ref m6, .ref m7, .ref m8, .long sp, .ref m9, .ref m10, .ref m11, .long ha], aI G m0 220 nw]
          have hrd : rd = oI (dnb P g t) := hrd
          refine J_world (ws2 := [oB 4 qm [.ref m0, .ref m1, .int (nI c2), .int (nI 0), .ref m2, .ref m3, .ref m4, .ref m5, .ref m6, .ref m7, .ref m8, .long sp, .ref m9, .ref m10, .ref m11, .long ha], aI G m0 220 nw, aI G m1 880 pp2, aI G m2 72 fa]) [2, 3, 0, 1] rfl rfl ?_
          refine J_istore_n F (lv2 := [(3, .int rd), (0, .ref qm), (1, .int (nI rm)), (2, .int (nI t))]) (dcq dc_X4_fill_0 28 rfl) rfl (Nat.le_of_ble_eq_true rfl) rfl ?_
          refine J_aload_n F 1 (dcq dc_X4_fill_0 29 rfl) rfl rfl ?_
          refine J_iload_n F 3 (dcq dc_X4_fill_0 30 rfl) rfl rfl ?_
          refine J_iconst F (dcq dc_X4_fill_0 31 rfl) ic_1 ?_
          refine J_callV F (wc := [oB 4 qm [.ref m0, .ref m1, .int (nI c2), .int (nI 0), .ref m2, .ref m3, .ref m4, .ref m5, .ref m6, .ref m7, .ref m8, .long sp, .ref m9, .ref m10, .ref m11, .long ha], aI G m0 220 nw]) (wr := [aI G m1 880 pp2, aI G m2 72 fa]) (rest := []) (qc := 0) (c_X4_nextOf_u l hl G qm m0 m1 m2 m3 m4 m5 m6 m7 m8 m9 m10 m11 c2 0 sp ha nw P M R n v g d t (by first | assumption | omega) (by first | assumption | omega) (by first | assumption | omega) (by first | assumption | omega) (by first | assumption | omega) (by first | assumption | omega)) cd_X4_nextOf cv_X4_nextOf rfl rfl rfl tw_4_133 [0, 1] [2, 3] rfl rfl rfl rfl (by decide) rfl ⟨(Nat.le_of_ble_eq_true rfl), (Nat.le_of_ble_eq_true rfl), (Nat.le_of_ble_eq_true rfl), (Nat.le_of_ble_eq_true rfl)⟩ (Nat.le_of_ble_eq_true rfl) rfl (dcq dc_X4_fill_0 32 rfl) ?_
          rintro _ _ ⟨ru, rfl, rfl, hru⟩
          change J p l e (cRm 4 91 0 0) s m args below meth c G A 5 (JQ below G A (po_X4_fill G qm m0 m1 m2 m3 m4 m5 m6 m7 m8 m9 m10 m11 hc rf sp ha nw P M R n v g d pp fl) args s 0 0) 0 0 55 [(3, .int rd), (0, .ref qm), (1, .int (nI rm)), (2, .int (nI t))] [.int ru] [aI G m1 880 pp2, aI G m2 72 fa, oB 4 qm [.ref m0, .ref m1, .int (nI c2), .int (nI 0), .ref m2, .ref m3, .ref m4, .ref m5, .ref m6, .ref m7, .ref m8, .long sp, .ref m9, .ref m10, .ref m11, .long ha], aI G m0 220 nw]
          have hru : ru = oI (unb P n g t) := hru
          refine J_world (ws2 := [oB 4 qm [.ref m0, .ref m1, .int (nI c2), .int (nI 0), .ref m2, .ref m3, .ref m4, .ref m5, .ref m6, .ref m7, .ref m8, .long sp, .ref m9, .ref m10, .ref m11, .long ha], aI G m0 220 nw, aI G m1 880 pp2, aI G m2 72 fa]) [2, 3, 0, 1] rfl rfl ?_
          refine J_istore F (lv2 := [(4, .int ru), (3, .int rd), (0, .ref qm), (1, .int (nI rm)), (2, .int (nI t))]) (dcq dc_X4_fill_0 33 rfl) (Nat.le_of_ble_eq_true rfl) rfl ?_
          refine J_aload_n F 2 (dcq dc_X4_fill_0 34 rfl) rfl rfl ?_
          refine J_get F fcX4 0 4 rfl (Nat.le_of_ble_eq_true rfl) tw_3_227 rfl rfl (dcq dc_X4_fill_0 35 rfl) ?_
          refine J_iload_n F 4 (dcq dc_X4_fill_0 36 rfl) rfl rfl ?_
          refine J_aload_n F 2 (dcq dc_X4_fill_0 37 rfl) rfl rfl ?_
          refine J_iload_n F 4 (dcq dc_X4_fill_0 38 rfl) rfl rfl ?_
          refine J_callV F (wc := [oB 4 qm [.ref m0, .ref m1, .int (nI c2), .int (nI 0), .ref m2, .ref m3, .ref m4, .ref m5, .ref m6, .ref m7, .ref m8, .long sp, .ref m9, .ref m10, .ref m11, .long ha], aI G m0 220 nw]) (wr := [aI G m1 880 pp2, aI G m2 72 fa]) (rest := [.int (nI t), .ref m2]) (qc := 0) (c_X4_isMissing l hl G qm m0 m1 m2 m3 m4 m5 m6 m7 m8 m9 m10 m11 c2 0 sp ha nw P M R n v g d t (by first | assumption | omega) (by first | assumption | omega) (by first | assumption | omega) (by first | assumption | omega)) cd_X4_isMissing cv_X4_isMissing rfl rfl rfl tw_4_69 [0, 1] [2, 3] rfl rfl rfl rfl (by decide) rfl ⟨(Nat.le_of_ble_eq_true rfl), (Nat.le_of_ble_eq_true rfl), (Nat.le_of_ble_eq_true rfl), (Nat.le_of_ble_eq_true rfl)⟩ (Nat.le_of_ble_eq_true rfl) rfl (dcq dc_X4_fill_0 39 rfl) ?_
          rintro _ _ h9x
          rcases h9x with ⟨rfl, rfl, hg_64⟩ | ⟨rfl, rfl, hg_64⟩
          · skip
            have hg_64 : ¬ g t = 0 := hg_64
            change J p l e (cRm 4 91 0 0) s m args below meth c G A 5 (JQ below G A (po_X4_fill G qm m0 m1 m2 m3 m4 m5 m6 m7 m8 m9 m10 m11 hc rf sp ha nw P M R n v g d pp fl) args s 0 0) 0 0 67 [(4, .int ru), (3, .int rd), (0, .ref qm), (1, .int (nI rm)), (2, .int (nI t))] [.int (nI 1), .int (nI t), .ref m2] [aI G m1 880 pp2, aI G m2 72 fa, oB 4 qm [.ref m0, .ref m1, .int (nI c2), .int (nI 0), .ref m2, .ref m3, .ref m4, .ref m5, .ref m6, .ref m7, .ref m8, .long sp, .ref m9, .ref m10, .ref m11, .long ha], aI G m0 220 nw]
            refine J_world (ws2 := [oB 4 qm [.ref m0, .ref m1, .int (nI c2), .int (nI 0), .ref m2, .ref m3, .ref m4, .ref m5, .ref m6, .ref m7, .ref m8, .long sp, .ref m9, .ref m10, .ref m11, .long ha], aI G m0 220 nw, aI G m1 880 pp2, aI G m2 72 fa]) [2, 3, 0, 1] rfl rfl ?_
            refine J_if_ne F 78 (dcq dc_X4_fill_0 40 rfl) (by decide) (fun _ => ?_) (fun h_6 => absurd h_6 (by decide))
            rcases hdq : dnb P g t with _ | a <;> rcases huq : unb P n g t with _ | b <;> rw [hdq] at hrd <;> rw [huq] at hru <;> simp only [oI] at hrd hru <;> subst hrd <;> subst hru
            · skip
              refine J_iload_n F 1 (dcq dc_X4_fill_0 45 rfl) rfl rfl ?_
              refine J_iconst F (dcq dc_X4_fill_0 46 rfl) ic_m1 ?_
              refine J_icmp_ne F 92 (dcq dc_X4_fill_0 47 rfl) (by decide) (fun h_7 => ?_) (fun h_7 => ?_)
              · exact absurd rfl h_7
              · skip
                exact absurd ⟨t, by omega, hg_64, hdq, huq⟩ hnu
            · skip
              refine J_iload_n F 1 (dcq dc_X4_fill_0 45 rfl) rfl rfl ?_
              refine J_iconst F (dcq dc_X4_fill_0 46 rfl) ic_m1 ?_
              refine J_icmp_ne F 92 (dcq dc_X4_fill_0 47 rfl) (by decide) (fun h_8 => ?_) (fun h_8 => ?_)
              · exact absurd rfl h_8
              · skip
                refine J_aload_n F 2 (dcq dc_X4_fill_1 0 rfl) rfl rfl ?_
                refine J_iload F 0 (dcq dc_X4_fill_1 1 rfl) rfl ?_
                refine J_callV F (wc := [oB 4 qm [.ref m0, .ref m1, .int (nI c2), .int (nI 0), .ref m2, .ref m3, .ref m4, .ref m5, .ref m6, .ref m7, .ref m8, .long sp, .ref m9, .ref m10, .ref m11, .long ha], aI G m0 220 nw]) (wr := [aI G m1 880 pp2, aI G m2 72 fa]) (rest := [.int (nI t), .ref m2]) (qc := 0) (c_X4_valueAt l hl G qm m0 m1 m2 m3 m4 m5 m6 m7 m8 m9 m10 m11 c2 0 sp ha nw P M R n v g d b (by first | assumption | omega) (by first | assumption | omega) (by have := unb_lt huq; omega)) cd_X4_valueAt cv_X4_valueAt rfl rfl rfl tw_4_73 [0, 1] [2, 3] rfl rfl rfl rfl (by decide) rfl ⟨(Nat.le_of_ble_eq_true rfl), (Nat.le_of_ble_eq_true rfl), (Nat.le_of_ble_eq_true rfl), (Nat.le_of_ble_eq_true rfl)⟩ (Nat.le_of_ble_eq_true rfl) rfl (dcq dc_X4_fill_1 2 rfl) ?_
                rintro _ _ ⟨rfl, rfl⟩
                change J p l e (cRm 4 91 0 0) s m args below meth c G A 5 (JQ below G A (po_X4_fill G qm m0 m1 m2 m3 m4 m5 m6 m7 m8 m9 m10 m11 hc rf sp ha nw P M R n v g d pp fl) args s 0 0) 0 0 89 [(4, .int (nI b)), (3, .int (-1)), (0, .ref qm), (1, .int (nI rm)), (2, .int (nI t))] [.int (v b), .int (nI t), .ref m2] [aI G m1 880 pp2, aI G m2 72 fa, oB 4 qm [.ref m0, .ref m1, .int (nI c2), .int (nI 0), .ref m2, .ref m3, .ref m4, .ref m5, .ref m6, .ref m7, .ref m8, .long sp, .ref m9, .ref m10, .ref m11, .long ha], aI G m0 220 nw]
                refine J_world (ws2 := [oB 4 qm [.ref m0, .ref m1, .int (nI c2), .int (nI 0), .ref m2, .ref m3, .ref m4, .ref m5, .ref m6, .ref m7, .ref m8, .long sp, .ref m9, .ref m10, .ref m11, .long ha], aI G m0 220 nw, aI G m1 880 pp2, aI G m2 72 fa]) [2, 3, 0, 1] rfl rfl ?_
                refine J_goto F 127 (dcq dc_X4_fill_1 3 rfl) (by decide) ?_
                refine J_iast F (ws2 := [oB 4 qm [.ref m0, .ref m1, .int (nI c2), .int (nI 0), .ref m2, .ref m3, .ref m4, .ref m5, .ref m6, .ref m7, .ref m8, .long sp, .ref m9, .ref m10, .ref m11, .long ha], aI G m0 220 nw, aI G m1 880 pp2, aI G m2 72 (upd fa t (v b))]) 3 rfl (by omega) (Nat.le_of_ble_eq_true rfl) rfl (dcq dc_X4_fill_1 23 rfl) ?_
                refine J_iinc F (lv2 := [(2, .int (nI (t + 1))), (4, .int (nI b)), (3, .int (-1)), (0, .ref qm), (1, .int (nI rm))]) (v := nI (t + 1)) 4 (dcq dc_X4_fill_1 24 rfl) rfl (nI_inc _) (Nat.le_of_ble_eq_true rfl) rfl ?_
                refine J_goto F 32 (dcq dc_X4_fill_1 25 rfl) (by decide) ?_
                refine J_locs [3, 4, 0] rfl ?_
                exact ih32 (t + 1) (upd fa t (v b)) (by omega) (up_i (s := fun j => (if g j = 0 then v j else filv P n v g j)) i1 (by first | exact (if_pos hg_64).symm | (refine Eq.trans ?_ (if_neg hg_64).symm; simp only [filv, hdq, huq, xv]; rw [hq]) | (refine Eq.trans ?_ (if_neg hg_64).symm; simp only [filv, hdq, huq, xv]))) (by omega)
            · skip
              refine J_iload_n F 1 (dcq dc_X4_fill_0 45 rfl) rfl rfl ?_
              refine J_iconst F (dcq dc_X4_fill_0 46 rfl) ic_m1 ?_
              refine J_icmp_ne F 92 (dcq dc_X4_fill_0 47 rfl) (by decide) (fun h_9 => ?_) (fun h_9 => ?_)
              · skip
                refine J_iload F 0 (dcq dc_X4_fill_1 4 rfl) rfl ?_
                refine J_iconst F (dcq dc_X4_fill_1 5 rfl) ic_m1 ?_
                refine J_icmp_ne F 106 (dcq dc_X4_fill_1 6 rfl) (by decide) (fun h_10 => ?_) (fun h_10 => ?_)
                · exact absurd rfl h_10
                · skip
                  refine J_aload_n F 2 (dcq dc_X4_fill_1 7 rfl) rfl rfl ?_
                  refine J_iload_n F 1 (dcq dc_X4_fill_1 8 rfl) rfl rfl ?_
                  refine J_callV F (wc := [oB 4 qm [.ref m0, .ref m1, .int (nI c2), .int (nI 0), .ref m2, .ref m3, .ref m4, .ref m5, .ref m6, .ref m7, .ref m8, .long sp, .ref m9, .ref m10, .ref m11, .long ha], aI G m0 220 nw]) (wr := [aI G m1 880 pp2, aI G m2 72 fa]) (rest := [.int (nI t), .ref m2]) (qc := 0) (c_X4_valueAt l hl G qm m0 m1 m2 m3 m4 m5 m6 m7 m8 m9 m10 m11 c2 0 sp ha nw P M R n v g d a (by first | assumption | omega) (by first | assumption | omega) (by have := dnb_lt hdq; omega)) cd_X4_valueAt cv_X4_valueAt rfl rfl rfl tw_4_73 [0, 1] [2, 3] rfl rfl rfl rfl (by decide) rfl ⟨(Nat.le_of_ble_eq_true rfl), (Nat.le_of_ble_eq_true rfl), (Nat.le_of_ble_eq_true rfl), (Nat.le_of_ble_eq_true rfl)⟩ (Nat.le_of_ble_eq_true rfl) rfl (dcq dc_X4_fill_1 9 rfl) ?_
                  rintro _ _ ⟨rfl, rfl⟩
                  change J p l e (cRm 4 91 0 0) s m args below meth c G A 5 (JQ below G A (po_X4_fill G qm m0 m1 m2 m3 m4 m5 m6 m7 m8 m9 m10 m11 hc rf sp ha nw P M R n v g d pp fl) args s 0 0) 0 0 103 [(4, .int (-1)), (3, .int (nI a)), (0, .ref qm), (1, .int (nI rm)), (2, .int (nI t))] [.int (v a), .int (nI t), .ref m2] [aI G m1 880 pp2, aI G m2 72 fa, oB 4 qm [.ref m0, .ref m1, .int (nI c2), .int (nI 0), .ref m2, .ref m3, .ref m4, .ref m5, .ref m6, .ref m7, .ref m8, .long sp, .ref m9, .ref m10, .ref m11, .long ha], aI G m0 220 nw]
                  refine J_world (ws2 := [oB 4 qm [.ref m0, .ref m1, .int (nI c2), .int (nI 0), .ref m2, .ref m3, .ref m4, .ref m5, .ref m6, .ref m7, .ref m8, .long sp, .ref m9, .ref m10, .ref m11, .long ha], aI G m0 220 nw, aI G m1 880 pp2, aI G m2 72 fa]) [2, 3, 0, 1] rfl rfl ?_
                  refine J_goto F 127 (dcq dc_X4_fill_1 10 rfl) (by decide) ?_
                  refine J_iast F (ws2 := [oB 4 qm [.ref m0, .ref m1, .int (nI c2), .int (nI 0), .ref m2, .ref m3, .ref m4, .ref m5, .ref m6, .ref m7, .ref m8, .long sp, .ref m9, .ref m10, .ref m11, .long ha], aI G m0 220 nw, aI G m1 880 pp2, aI G m2 72 (upd fa t (v a))]) 3 rfl (by omega) (Nat.le_of_ble_eq_true rfl) rfl (dcq dc_X4_fill_1 23 rfl) ?_
                  refine J_iinc F (lv2 := [(2, .int (nI (t + 1))), (4, .int (-1)), (3, .int (nI a)), (0, .ref qm), (1, .int (nI rm))]) (v := nI (t + 1)) 4 (dcq dc_X4_fill_1 24 rfl) rfl (nI_inc _) (Nat.le_of_ble_eq_true rfl) rfl ?_
                  refine J_goto F 32 (dcq dc_X4_fill_1 25 rfl) (by decide) ?_
                  refine J_locs [3, 4, 0] rfl ?_
                  exact ih32 (t + 1) (upd fa t (v a)) (by omega) (up_i (s := fun j => (if g j = 0 then v j else filv P n v g j)) i1 (by first | exact (if_pos hg_64).symm | (refine Eq.trans ?_ (if_neg hg_64).symm; simp only [filv, hdq, huq, xv]; rw [hq]) | (refine Eq.trans ?_ (if_neg hg_64).symm; simp only [filv, hdq, huq, xv]))) (by omega)
              · exact absurd h_9 (nI_nm1 (by have := dnb_lt hdq; omega))
            · skip
              refine J_iload_n F 1 (dcq dc_X4_fill_0 45 rfl) rfl rfl ?_
              refine J_iconst F (dcq dc_X4_fill_0 46 rfl) ic_m1 ?_
              refine J_icmp_ne F 92 (dcq dc_X4_fill_0 47 rfl) (by decide) (fun h_11 => ?_) (fun h_11 => ?_)
              · skip
                refine J_iload F 0 (dcq dc_X4_fill_1 4 rfl) rfl ?_
                refine J_iconst F (dcq dc_X4_fill_1 5 rfl) ic_m1 ?_
                refine J_icmp_ne F 106 (dcq dc_X4_fill_1 6 rfl) (by decide) (fun h_12 => ?_) (fun h_12 => ?_)
                · skip
                  refine J_aload_n F 2 (dcq dc_X4_fill_1 11 rfl) rfl rfl ?_
                  refine J_iload_n F 1 (dcq dc_X4_fill_1 12 rfl) rfl rfl ?_
                  refine J_callV F (wc := [oB 4 qm [.ref m0, .ref m1, .int (nI c2), .int (nI 0), .ref m2, .ref m3, .ref m4, .ref m5, .ref m6, .ref m7, .ref m8, .long sp, .ref m9, .ref m10, .ref m11, .long ha], aI G m0 220 nw]) (wr := [aI G m1 880 pp2, aI G m2 72 fa]) (rest := [.int (nI t), .ref m2]) (qc := 0) (c_X4_valueAt l hl G qm m0 m1 m2 m3 m4 m5 m6 m7 m8 m9 m10 m11 c2 0 sp ha nw P M R n v g d a (by first | assumption | omega) (by first | assumption | omega) (by have := dnb_lt hdq; omega)) cd_X4_valueAt cv_X4_valueAt rfl rfl rfl tw_4_73 [0, 1] [2, 3] rfl rfl rfl rfl (by decide) rfl ⟨(Nat.le_of_ble_eq_true rfl), (Nat.le_of_ble_eq_true rfl), (Nat.le_of_ble_eq_true rfl), (Nat.le_of_ble_eq_true rfl)⟩ (Nat.le_of_ble_eq_true rfl) rfl (dcq dc_X4_fill_1 13 rfl) ?_
                  rintro _ _ ⟨rfl, rfl⟩
                  change J p l e (cRm 4 91 0 0) s m args below meth c G A 5 (JQ below G A (po_X4_fill G qm m0 m1 m2 m3 m4 m5 m6 m7 m8 m9 m10 m11 hc rf sp ha nw P M R n v g d pp fl) args s 0 0) 0 0 111 [(4, .int (nI b)), (3, .int (nI a)), (0, .ref qm), (1, .int (nI rm)), (2, .int (nI t))] [.int (v a), .int (nI t), .ref m2] [aI G m1 880 pp2, aI G m2 72 fa, oB 4 qm [.ref m0, .ref m1, .int (nI c2), .int (nI 0), .ref m2, .ref m3, .ref m4, .ref m5, .ref m6, .ref m7, .ref m8, .long sp, .ref m9, .ref m10, .ref m11, .long ha], aI G m0 220 nw]
                  refine J_world (ws2 := [oB 4 qm [.ref m0, .ref m1, .int (nI c2), .int (nI 0), .ref m2, .ref m3, .ref m4, .ref m5, .ref m6, .ref m7, .ref m8, .long sp, .ref m9, .ref m10, .ref m11, .long ha], aI G m0 220 nw, aI G m1 880 pp2, aI G m2 72 fa]) [2, 3, 0, 1] rfl rfl ?_
                  refine J_i2l F (v := (v a).toInt64) (dcq dc_X4_fill_1 14 rfl) rfl ?_
                  refine J_aload_n F 2 (dcq dc_X4_fill_1 15 rfl) rfl rfl ?_
                  refine J_iload F 0 (dcq dc_X4_fill_1 16 rfl) rfl ?_
                  refine J_callV F (wc := [oB 4 qm [.ref m0, .ref m1, .int (nI c2), .int (nI 0), .ref m2, .ref m3, .ref m4, .ref m5, .ref m6, .ref m7, .ref m8, .long sp, .ref m9, .ref m10, .ref m11, .long ha], aI G m0 220 nw]) (wr := [aI G m1 880 pp2, aI G m2 72 fa]) (rest := [.long ((v a).toInt64), .int (nI t), .ref m2]) (qc := 0) (c_X4_valueAt l hl G qm m0 m1 m2 m3 m4 m5 m6 m7 m8 m9 m10 m11 c2 0 sp ha nw P M R n v g d b (by first | assumption | omega) (by first | assumption | omega) (by have := unb_lt huq; omega)) cd_X4_valueAt cv_X4_valueAt rfl rfl rfl tw_4_73 [0, 1] [2, 3] rfl rfl rfl rfl (by decide) rfl ⟨(Nat.le_of_ble_eq_true rfl), (Nat.le_of_ble_eq_true rfl), (Nat.le_of_ble_eq_true rfl), (Nat.le_of_ble_eq_true rfl)⟩ (Nat.le_of_ble_eq_true rfl) rfl (dcq dc_X4_fill_1 17 rfl) ?_
                  rintro _ _ ⟨rfl, rfl⟩
                  change J p l e (cRm 4 91 0 0) s m args below meth c G A 5 (JQ below G A (po_X4_fill G qm m0 m1 m2 m3 m4 m5 m6 m7 m8 m9 m10 m11 hc rf sp ha nw P M R n v g d pp fl) args s 0 0) 0 0 118 [(4, .int (nI b)), (3, .int (nI a)), (0, .ref qm), (1, .int (nI rm)), (2, .int (nI t))] [.int (v b), .long ((v a).toInt64), .int (nI t), .ref m2] [aI G m1 880 pp2, aI G m2 72 fa, oB 4 qm [.ref m0, .ref m1, .int (nI c2), .int (nI 0), .ref m2, .ref m3, .ref m4, .ref m5, .ref m6, .ref m7, .ref m8, .long sp, .ref m9, .ref m10, .ref m11, .long ha], aI G m0 220 nw]
                  refine J_world (ws2 := [oB 4 qm [.ref m0, .ref m1, .int (nI c2), .int (nI 0), .ref m2, .ref m3, .ref m4, .ref m5, .ref m6, .ref m7, .ref m8, .long sp, .ref m9, .ref m10, .ref m11, .long ha], aI G m0 220 nw, aI G m1 880 pp2, aI G m2 72 fa]) [2, 3, 0, 1] rfl rfl ?_
                  refine J_i2l F (v := (v b).toInt64) (dcq dc_X4_fill_1 18 rfl) rfl ?_
                  refine J_ladd F (v := ((v a).toInt64) + ((v b).toInt64)) (dcq dc_X4_fill_1 19 rfl) rfl ?_
                  refine J_ldc2 F (v2 := (2)) tw_4_48 rfl (dcq dc_X4_fill_1 20 rfl) ?_
                  refine J_callS F (wc := []) (wr := [oB 4 qm [.ref m0, .ref m1, .int (nI c2), .int (nI 0), .ref m2, .ref m3, .ref m4, .ref m5, .ref m6, .ref m7, .ref m8, .long sp, .ref m9, .ref m10, .ref m11, .long ha], aI G m0 220 nw, aI G m1 880 pp2, aI G m2 72 fa]) (rest := [.int (nI t), .ref m2]) (c_X4_over l hl G (((v a).toInt64) + ((v b).toInt64)) 2 (by decide)) cd_X4_over tw_4_138 tw_4_137 [] [0, 1, 2, 3] rfl rfl rfl rfl (by decide) rfl ⟨(Nat.le_of_ble_eq_true rfl), (Nat.le_of_ble_eq_true rfl), (Nat.le_of_ble_eq_true rfl), (Nat.le_of_ble_eq_true rfl)⟩ (Nat.le_of_ble_eq_true rfl) rfl (dcq dc_X4_fill_1 21 rfl) ?_
                  rintro _ _ ⟨rq, rfl, rfl, hq⟩
                  change J p l e (cRm 4 91 0 0) s m args below meth c G A 5 (JQ below G A (po_X4_fill G qm m0 m1 m2 m3 m4 m5 m6 m7 m8 m9 m10 m11 hc rf sp ha nw P M R n v g d pp fl) args s 0 0) 0 0 126 [(4, .int (nI b)), (3, .int (nI a)), (0, .ref qm), (1, .int (nI rm)), (2, .int (nI t))] [.long rq, .int (nI t), .ref m2] [oB 4 qm [.ref m0, .ref m1, .int (nI c2), .int (nI 0), .ref m2, .ref m3, .ref m4, .ref m5, .ref m6, .ref m7, .ref m8, .long sp, .ref m9, .ref m10, .ref m11, .long ha], aI G m0 220 nw, aI G m1 880 pp2, aI G m2 72 fa]
                  have hq : rq = quo (((v a).toInt64) + ((v b).toInt64)) 2 := hq
                  refine J_l2i F (v := rq.toInt32) (dcq dc_X4_fill_1 22 rfl) rfl ?_
                  refine J_iast F (ws2 := [oB 4 qm [.ref m0, .ref m1, .int (nI c2), .int (nI 0), .ref m2, .ref m3, .ref m4, .ref m5, .ref m6, .ref m7, .ref m8, .long sp, .ref m9, .ref m10, .ref m11, .long ha], aI G m0 220 nw, aI G m1 880 pp2, aI G m2 72 (upd fa t rq.toInt32)]) 3 rfl (by omega) (Nat.le_of_ble_eq_true rfl) rfl (dcq dc_X4_fill_1 23 rfl) ?_
                  refine J_iinc F (lv2 := [(2, .int (nI (t + 1))), (4, .int (nI b)), (3, .int (nI a)), (0, .ref qm), (1, .int (nI rm))]) (v := nI (t + 1)) 4 (dcq dc_X4_fill_1 24 rfl) rfl (nI_inc _) (Nat.le_of_ble_eq_true rfl) rfl ?_
                  refine J_goto F 32 (dcq dc_X4_fill_1 25 rfl) (by decide) ?_
                  refine J_locs [3, 4, 0] rfl ?_
                  exact ih32 (t + 1) (upd fa t rq.toInt32) (by omega) (up_i (s := fun j => (if g j = 0 then v j else filv P n v g j)) i1 (by first | exact (if_pos hg_64).symm | (refine Eq.trans ?_ (if_neg hg_64).symm; simp only [filv, hdq, huq, xv]; rw [hq]) | (refine Eq.trans ?_ (if_neg hg_64).symm; simp only [filv, hdq, huq, xv]))) (by omega)
                · exact absurd h_12 (nI_nm1 (by have := unb_lt huq; omega))
              · exact absurd h_11 (nI_nm1 (by have := dnb_lt hdq; omega))
          · skip
            have hg_64 : g t = 0 := hg_64
            change J p l e (cRm 4 91 0 0) s m args below meth c G A 5 (JQ below G A (po_X4_fill G qm m0 m1 m2 m3 m4 m5 m6 m7 m8 m9 m10 m11 hc rf sp ha nw P M R n v g d pp fl) args s 0 0) 0 0 67 [(4, .int ru), (3, .int rd), (0, .ref qm), (1, .int (nI rm)), (2, .int (nI t))] [.int (nI 0), .int (nI t), .ref m2] [aI G m1 880 pp2, aI G m2 72 fa, oB 4 qm [.ref m0, .ref m1, .int (nI c2), .int (nI 0), .ref m2, .ref m3, .ref m4, .ref m5, .ref m6, .ref m7, .ref m8, .long sp, .ref m9, .ref m10, .ref m11, .long ha], aI G m0 220 nw]
            refine J_world (ws2 := [oB 4 qm [.ref m0, .ref m1, .int (nI c2), .int (nI 0), .ref m2, .ref m3, .ref m4, .ref m5, .ref m6, .ref m7, .ref m8, .long sp, .ref m9, .ref m10, .ref m11, .long ha], aI G m0 220 nw, aI G m1 880 pp2, aI G m2 72 fa]) [2, 3, 0, 1] rfl rfl ?_
            refine J_if_ne F 78 (dcq dc_X4_fill_0 40 rfl) (by decide) (fun h_13 => absurd h_13 (by decide)) (fun _ => ?_)
            refine J_aload_n F 2 (dcq dc_X4_fill_0 41 rfl) rfl rfl ?_
            refine J_iload_n F 4 (dcq dc_X4_fill_0 42 rfl) rfl rfl ?_
            refine J_callV F (wc := [oB 4 qm [.ref m0, .ref m1, .int (nI c2), .int (nI 0), .ref m2, .ref m3, .ref m4, .ref m5, .ref m6, .ref m7, .ref m8, .long sp, .ref m9, .ref m10, .ref m11, .long ha], aI G m0 220 nw]) (wr := [aI G m1 880 pp2, aI G m2 72 fa]) (rest := [.int (nI t), .ref m2]) (qc := 0) (c_X4_valueAt l hl G qm m0 m1 m2 m3 m4 m5 m6 m7 m8 m9 m10 m11 c2 0 sp ha nw P M R n v g d t (by first | assumption | omega) (by first | assumption | omega) (by first | assumption | omega)) cd_X4_valueAt cv_X4_valueAt rfl rfl rfl tw_4_73 [0, 1] [2, 3] rfl rfl rfl rfl (by decide) rfl ⟨(Nat.le_of_ble_eq_true rfl), (Nat.le_of_ble_eq_true rfl), (Nat.le_of_ble_eq_true rfl), (Nat.le_of_ble_eq_true rfl)⟩ (Nat.le_of_ble_eq_true rfl) rfl (dcq dc_X4_fill_0 43 rfl) ?_
            rintro _ _ ⟨rfl, rfl⟩
            change J p l e (cRm 4 91 0 0) s m args below meth c G A 5 (JQ below G A (po_X4_fill G qm m0 m1 m2 m3 m4 m5 m6 m7 m8 m9 m10 m11 hc rf sp ha nw P M R n v g d pp fl) args s 0 0) 0 0 75 [(4, .int ru), (3, .int rd), (0, .ref qm), (1, .int (nI rm)), (2, .int (nI t))] [.int (v t), .int (nI t), .ref m2] [aI G m1 880 pp2, aI G m2 72 fa, oB 4 qm [.ref m0, .ref m1, .int (nI c2), .int (nI 0), .ref m2, .ref m3, .ref m4, .ref m5, .ref m6, .ref m7, .ref m8, .long sp, .ref m9, .ref m10, .ref m11, .long ha], aI G m0 220 nw]
            refine J_world (ws2 := [oB 4 qm [.ref m0, .ref m1, .int (nI c2), .int (nI 0), .ref m2, .ref m3, .ref m4, .ref m5, .ref m6, .ref m7, .ref m8, .long sp, .ref m9, .ref m10, .ref m11, .long ha], aI G m0 220 nw, aI G m1 880 pp2, aI G m2 72 fa]) [2, 3, 0, 1] rfl rfl ?_
            refine J_goto F 127 (dcq dc_X4_fill_0 44 rfl) (by decide) ?_
            refine J_iast F (ws2 := [oB 4 qm [.ref m0, .ref m1, .int (nI c2), .int (nI 0), .ref m2, .ref m3, .ref m4, .ref m5, .ref m6, .ref m7, .ref m8, .long sp, .ref m9, .ref m10, .ref m11, .long ha], aI G m0 220 nw, aI G m1 880 pp2, aI G m2 72 (upd fa t (v t))]) 3 rfl (by omega) (Nat.le_of_ble_eq_true rfl) rfl (dcq dc_X4_fill_1 23 rfl) ?_
            refine J_iinc F (lv2 := [(2, .int (nI (t + 1))), (4, .int ru), (3, .int rd), (0, .ref qm), (1, .int (nI rm))]) (v := nI (t + 1)) 4 (dcq dc_X4_fill_1 24 rfl) rfl (nI_inc _) (Nat.le_of_ble_eq_true rfl) rfl ?_
            refine J_goto F 32 (dcq dc_X4_fill_1 25 rfl) (by decide) ?_
            refine J_locs [3, 4, 0] rfl ?_
            exact ih32 (t + 1) (upd fa t (v t)) (by omega) (up_i (s := fun j => (if g j = 0 then v j else filv P n v g j)) i1 (by first | exact (if_pos hg_64).symm | (refine Eq.trans ?_ (if_neg hg_64).symm; simp only [filv, hdq, huq, xv]; rw [hq]) | (refine Eq.trans ?_ (if_neg hg_64).symm; simp only [filv, hdq, huq, xv]))) (by omega)
    refine J_locs [2, 1, 0] rfl ?_
    exact L32 (n - 0 + 1) 0 fl (by omega) (fun i _ h => absurd h (Nat.not_lt_zero _)) (Nat.lt_succ_self _)

abbrev po_X4_value (G : Gt) (qm m0 m1 m2 m3 m4 m5 m6 m7 m8 m9 m10 m11 hc rf : Nat) (sp ha : Int64) (nw : Nat → Int32) (P M R n : Nat) (v g d : Nat → Int32) (x : Int32) : Option Value → va_W → Prop := fun (v9 : Option Value) (w9 : va_W) => (∃ (j : Nat), v9 = some (.int (v j)) ∧ w9 = [oB 4 qm [.ref m0, .ref m1, .int (nI hc), .int (nI 0), .ref m2, .ref m3, .ref m4, .ref m5, .ref m6, .ref m7, .ref m8, .long sp, .ref m9, .ref m10, .ref m11, .long ha], aI G m0 220 nw] ∧ (x = nI j) ∧ (j < n) ∧ (g j = 0)) ∨ (v9 = some (.int (nI 0)) ∧ w9 = [oB 4 qm [.ref m0, .ref m1, .int (nI hc), .int (nI 1), .ref m2, .ref m3, .ref m4, .ref m5, .ref m6, .ref m7, .ref m8, .long sp, .ref m9, .ref m10, .ref m11, .long ha], aI G m0 220 nw] ∧ (∀ j, j < n → x ≠ nI j)) ∨ (∃ (j : Nat), v9 = some (.int (nI 0)) ∧ w9 = [oB 4 qm [.ref m0, .ref m1, .int (nI hc), .int (nI 2), .ref m2, .ref m3, .ref m4, .ref m5, .ref m6, .ref m7, .ref m8, .long sp, .ref m9, .ref m10, .ref m11, .long ha], aI G m0 220 nw] ∧ (x = nI j) ∧ (j < n) ∧ (¬ g j = 0))
set_option maxHeartbeats 4000000 in
set_option maxRecDepth 100000 in
theorem c_X4_value (l : Launch) (hl : l.stackTraces = false) (G : Gt) (qm m0 m1 m2 m3 m4 m5 m6 m7 m8 m9 m10 m11 hc rf : Nat) (sp ha : Int64) (nw : Nat → Int32) (P M R n : Nat) (v g d : Nat → Int32) (x : Int32) (hRM : RM nw P M R n v g d) (hn : n ≤ 72) (h01 : G01 n g) : Con l G yX4_value cX4_value 2 (some .int) 2 46 0 0 [.ref qm, .int x] [oB 4 qm [.ref m0, .ref m1, .int (nI hc), .int (nI rf), .ref m2, .ref m3, .ref m4, .ref m5, .ref m6, .ref m7, .ref m8, .long sp, .ref m9, .ref m10, .ref m11, .long ha], aI G m0 220 nw] (po_X4_value G qm m0 m1 m2 m3 m4 m5 m6 m7 m8 m9 m10 m11 hc rf sp ha nw P M R n v g d x) := by
  refine Con.of hl cd_X4_value (Nat.le_of_ble_eq_true rfl) ?_
  intro p e s m args below meth c A F hin9
  change Fx p l s m args meth c G A "SeasonalAdjusterModel" cX4_value 2 (some .int) at F
  change J p l e (cRm 2 46 0 0) s m args below meth c G A 2 (JQ below G A (po_X4_value G qm m0 m1 m2 m3 m4 m5 m6 m7 m8 m9 m10 m11 hc rf sp ha nw P M R n v g d x) args s 0 0) 0 0 0 [(0, .ref qm), (1, .int x)] [] [oB 4 qm [.ref m0, .ref m1, .int (nI hc), .int (nI rf), .ref m2, .ref m3, .ref m4, .ref m5, .ref m6, .ref m7, .ref m8, .long sp, .ref m9, .ref m10, .ref m11, .long ha], aI G m0 220 nw]
  refine J_aload_n F 0 (dcq dc_X4_value_0 0 rfl) rfl rfl ?_
  refine J_aload_n F 0 (dcq dc_X4_value_0 1 rfl) rfl rfl ?_
  refine J_iload_n F 1 (dcq dc_X4_value_0 2 rfl) rfl rfl ?_
  refine J_callV F (wc := [oB 4 qm [.ref m0, .ref m1, .int (nI hc), .int (nI rf), .ref m2, .ref m3, .ref m4, .ref m5, .ref m6, .ref m7, .ref m8, .long sp, .ref m9, .ref m10, .ref m11, .long ha], aI G m0 220 nw]) (wr := []) (rest := [.ref qm]) (qc := 0) (c_X4_isEntry l hl G qm m0 m1 m2 m3 m4 m5 m6 m7 m8 m9 m10 m11 hc rf sp ha nw P M R n v g d x (by first | assumption | omega) (by first | assumption | omega)) cd_X4_isEntry cv_X4_isEntry rfl rfl rfl tw_4_104 [0, 1] [] rfl rfl rfl rfl (by decide) rfl ⟨(Nat.le_of_ble_eq_true rfl), (Nat.le_of_ble_eq_true rfl), (Nat.le_of_ble_eq_true rfl), (Nat.le_of_ble_eq_true rfl)⟩ (Nat.le_of_ble_eq_true rfl) rfl (dcq dc_X4_value_0 3 rfl) ?_
  rintro _ _ h9x
  rcases h9x with ⟨j_3, rfl, rfl, hxj_3, hj_3⟩ | ⟨rfl, rfl, hx_3⟩
  · skip
    have hxj_3 : x = nI j_3 := hxj_3
    have hj_3 : j_3 < n := hj_3
    change J p l e (cRm 2 46 0 0) s m args below meth c G A 2 (JQ below G A (po_X4_value G qm m0 m1 m2 m3 m4 m5 m6 m7 m8 m9 m10 m11 hc rf sp ha nw P M R n v g d x) args s 0 0) 0 0 6 [(0, .ref qm), (1, .int x)] [.int (nI 1), .ref qm] [oB 4 qm [.ref m0, .ref m1, .int (nI hc), .int (nI rf), .ref m2, .ref m3, .ref m4, .ref m5, .ref m6, .ref m7, .ref m8, .long sp, .ref m9, .ref m10, .ref m11, .long ha], aI G m0 220 nw]
    refine J_cast (lv2 := [(0, .ref qm), (1, .int (nI j_3))]) (st2 := [.int (nI 1), .ref qm]) (ws2 := [oB 4 qm [.ref m0, .ref m1, .int (nI hc), .int (nI rf), .ref m2, .ref m3, .ref m4, .ref m5, .ref m6, .ref m7, .ref m8, .long sp, .ref m9, .ref m10, .ref m11, .long ha], aI G m0 220 nw]) (by rw [hxj_3]) (rfl) (rfl) ?_
    refine J_if_ne F 13 (dcq dc_X4_value_0 4 rfl) (by decide) (fun _ => ?_) (fun h_1 => absurd h_1 (by decide))
    refine J_aload_n F 0 (dcq dc_X4_value_0 7 rfl) rfl rfl ?_
    refine J_iload_n F 1 (dcq dc_X4_value_0 8 rfl) rfl rfl ?_
    refine J_callV F (wc := [oB 4 qm [.ref m0, .ref m1, .int (nI hc), .int (nI rf), .ref m2, .ref m3, .ref m4, .ref m5, .ref m6, .ref m7, .ref m8, .long sp, .ref m9, .ref m10, .ref m11, .long ha], aI G m0 220 nw]) (wr := []) (rest := [.ref qm]) (qc := 0) (c_X4_isMissing l hl G qm m0 m1 m2 m3 m4 m5 m6 m7 m8 m9 m10 m11 hc rf sp ha nw P M R n v g d j_3 (by first | assumption | omega) (by first | assumption | omega) (by first | assumption | omega) (by first | assumption | omega)) cd_X4_isMissing cv_X4_isMissing rfl rfl rfl tw_4_69 [0, 1] [] rfl rfl rfl rfl (by decide) rfl ⟨(Nat.le_of_ble_eq_true rfl), (Nat.le_of_ble_eq_true rfl), (Nat.le_of_ble_eq_true rfl), (Nat.le_of_ble_eq_true rfl)⟩ (Nat.le_of_ble_eq_true rfl) rfl (dcq dc_X4_value_0 9 rfl) ?_
    rintro _ _ h9x
    rcases h9x with ⟨rfl, rfl, hg_15⟩ | ⟨rfl, rfl, hg_15⟩
    · skip
      have hg_15 : ¬ g j_3 = 0 := hg_15
      change J p l e (cRm 2 46 0 0) s m args below meth c G A 2 (JQ below G A (po_X4_value G qm m0 m1 m2 m3 m4 m5 m6 m7 m8 m9 m10 m11 hc rf sp ha nw P M R n v g d x) args s 0 0) 0 0 18 [(0, .ref qm), (1, .int (nI j_3))] [.int (nI 1), .ref qm] [oB 4 qm [.ref m0, .ref m1, .int (nI hc), .int (nI rf), .ref m2, .ref m3, .ref m4, .ref m5, .ref m6, .ref m7, .ref m8, .long sp, .ref m9, .ref m10, .ref m11, .long ha], aI G m0 220 nw]
      refine J_if_eq F 25 (dcq dc_X4_value_0 10 rfl) (by decide) (fun h_2 => absurd h_2 (by decide)) (fun _ => ?_)
      refine J_iconst F (dcq dc_X4_value_0 11 rfl) ic_2 ?_
      refine J_goto F 26 (dcq dc_X4_value_0 12 rfl) (by decide) ?_
      refine J_callV F (wc := [oB 4 qm [.ref m0, .ref m1, .int (nI hc), .int (nI rf), .ref m2, .ref m3, .ref m4, .ref m5, .ref m6, .ref m7, .ref m8, .long sp, .ref m9, .ref m10, .ref m11, .long ha]]) (wr := [aI G m0 220 nw]) (rest := []) (qc := 0) (c_X4_refused_2 l hl G qm m0 m1 m2 m3 m4 m5 m6 m7 m8 m9 m10 m11 hc rf sp ha) cd_X4_refused cv_X4_refused rfl rfl rfl tw_4_40 [0] [1] rfl rfl rfl rfl (by decide) rfl ⟨(Nat.le_of_ble_eq_true rfl), (Nat.le_of_ble_eq_true rfl), (Nat.le_of_ble_eq_true rfl), (Nat.le_of_ble_eq_true rfl)⟩ (Nat.le_of_ble_eq_true rfl) rfl (dcq dc_X4_value_0 14 rfl) ?_
      rintro _ _ ⟨rfl, rfl⟩
      change J p l e (cRm 2 46 0 0) s m args below meth c G A 2 (JQ below G A (po_X4_value G qm m0 m1 m2 m3 m4 m5 m6 m7 m8 m9 m10 m11 hc rf sp ha nw P M R n v g d x) args s 0 0) 0 0 29 [(0, .ref qm), (1, .int (nI j_3))] [.int (nI 1)] [aI G m0 220 nw, oB 4 qm [.ref m0, .ref m1, .int (nI hc), .int (nI 2), .ref m2, .ref m3, .ref m4, .ref m5, .ref m6, .ref m7, .ref m8, .long sp, .ref m9, .ref m10, .ref m11, .long ha]]
      refine J_world (ws2 := [oB 4 qm [.ref m0, .ref m1, .int (nI hc), .int (nI 2), .ref m2, .ref m3, .ref m4, .ref m5, .ref m6, .ref m7, .ref m8, .long sp, .ref m9, .ref m10, .ref m11, .long ha], aI G m0 220 nw]) [1, 0] rfl rfl ?_
      refine J_if_eq F 36 (dcq dc_X4_value_0 15 rfl) (by decide) (fun h_3 => absurd h_3 (by decide)) (fun _ => ?_)
      refine J_iconst F (dcq dc_X4_value_0 16 rfl) ic_0 ?_
      refine J_goto F 41 (dcq dc_X4_value_0 17 rfl) (by decide) ?_
      exact J_iret F (Or.inr (Or.inr (⟨j_3, rfl, rfl, hxj_3, hj_3, hg_15⟩))) (Nat.le_of_ble_eq_true rfl) (Nat.le_of_ble_eq_true rfl) (dcq dc_X4_value_0 21 rfl)
    · skip
      have hg_15 : g j_3 = 0 := hg_15
      change J p l e (cRm 2 46 0 0) s m args below meth c G A 2 (JQ below G A (po_X4_value G qm m0 m1 m2 m3 m4 m5 m6 m7 m8 m9 m10 m11 hc rf sp ha nw P M R n v g d x) args s 0 0) 0 0 18 [(0, .ref qm), (1, .int (nI j_3))] [.int (nI 0), .ref qm] [oB 4 qm [.ref m0, .ref m1, .int (nI hc), .int (nI rf), .ref m2, .ref m3, .ref m4, .ref m5, .ref m6, .ref m7, .ref m8, .long sp, .ref m9, .ref m10, .ref m11, .long ha], aI G m0 220 nw]
      refine J_if_eq F 25 (dcq dc_X4_value_0 10 rfl) (by decide) (fun _ => ?_) (fun h_4 => absurd h_4 (by decide))
      refine J_iconst F (dcq dc_X4_value_0 13 rfl) ic_0 ?_
      refine J_callV F (wc := [oB 4 qm [.ref m0, .ref m1, .int (nI hc), .int (nI rf), .ref m2, .ref m3, .ref m4, .ref m5, .ref m6, .ref m7, .ref m8, .long sp, .ref m9, .ref m10, .ref m11, .long ha]]) (wr := [aI G m0 220 nw]) (rest := []) (qc := 0) (c_X4_refused_0 l hl G qm m0 m1 m2 m3 m4 m5 m6 m7 m8 m9 m10 m11 hc rf sp ha) cd_X4_refused cv_X4_refused rfl rfl rfl tw_4_40 [0] [1] rfl rfl rfl rfl (by decide) rfl ⟨(Nat.le_of_ble_eq_true rfl), (Nat.le_of_ble_eq_true rfl), (Nat.le_of_ble_eq_true rfl), (Nat.le_of_ble_eq_true rfl)⟩ (Nat.le_of_ble_eq_true rfl) rfl (dcq dc_X4_value_0 14 rfl) ?_
      rintro _ _ ⟨rfl, rfl⟩
      change J p l e (cRm 2 46 0 0) s m args below meth c G A 2 (JQ below G A (po_X4_value G qm m0 m1 m2 m3 m4 m5 m6 m7 m8 m9 m10 m11 hc rf sp ha nw P M R n v g d x) args s 0 0) 0 0 29 [(0, .ref qm), (1, .int (nI j_3))] [.int (nI 0)] [aI G m0 220 nw, oB 4 qm [.ref m0, .ref m1, .int (nI hc), .int (nI 0), .ref m2, .ref m3, .ref m4, .ref m5, .ref m6, .ref m7, .ref m8, .long sp, .ref m9, .ref m10, .ref m11, .long ha]]
      refine J_world (ws2 := [oB 4 qm [.ref m0, .ref m1, .int (nI hc), .int (nI 0), .ref m2, .ref m3, .ref m4, .ref m5, .ref m6, .ref m7, .ref m8, .long sp, .ref m9, .ref m10, .ref m11, .long ha], aI G m0 220 nw]) [1, 0] rfl rfl ?_
      refine J_if_eq F 36 (dcq dc_X4_value_0 15 rfl) (by decide) (fun _ => ?_) (fun h_5 => absurd h_5 (by decide))
      refine J_aload_n F 0 (dcq dc_X4_value_0 18 rfl) rfl rfl ?_
      refine J_iload_n F 1 (dcq dc_X4_value_0 19 rfl) rfl rfl ?_
      refine J_callV F (wc := [oB 4 qm [.ref m0, .ref m1, .int (nI hc), .int (nI 0), .ref m2, .ref m3, .ref m4, .ref m5, .ref m6, .ref m7, .ref m8, .long sp, .ref m9, .ref m10, .ref m11, .long ha], aI G m0 220 nw]) (wr := []) (rest := []) (qc := 0) (c_X4_valueAt l hl G qm m0 m1 m2 m3 m4 m5 m6 m7 m8 m9 m10 m11 hc 0 sp ha nw P M R n v g d j_3 (by first | assumption | omega) (by first | assumption | omega) (by first | assumption | omega)) cd_X4_valueAt cv_X4_valueAt rfl rfl rfl tw_4_73 [0, 1] [] rfl rfl rfl rfl (by decide) rfl ⟨(Nat.le_of_ble_eq_true rfl), (Nat.le_of_ble_eq_true rfl), (Nat.le_of_ble_eq_true rfl), (Nat.le_of_ble_eq_true rfl)⟩ (Nat.le_of_ble_eq_true rfl) rfl (dcq dc_X4_value_0 20 rfl) ?_
      rintro _ _ ⟨rfl, rfl⟩
      change J p l e (cRm 2 46 0 0) s m args below meth c G A 2 (JQ below G A (po_X4_value G qm m0 m1 m2 m3 m4 m5 m6 m7 m8 m9 m10 m11 hc rf sp ha nw P M R n v g d x) args s 0 0) 0 0 41 [(0, .ref qm), (1, .int (nI j_3))] [.int (v j_3)] [oB 4 qm [.ref m0, .ref m1, .int (nI hc), .int (nI 0), .ref m2, .ref m3, .ref m4, .ref m5, .ref m6, .ref m7, .ref m8, .long sp, .ref m9, .ref m10, .ref m11, .long ha], aI G m0 220 nw]
      exact J_iret F (Or.inl ⟨j_3, rfl, rfl, hxj_3, hj_3, hg_15⟩) (Nat.le_of_ble_eq_true rfl) (Nat.le_of_ble_eq_true rfl) (dcq dc_X4_value_0 21 rfl)
  · skip
    have hx_3 : ∀ j, j < n → x ≠ nI j := hx_3
    change J p l e (cRm 2 46 0 0) s m args below meth c G A 2 (JQ below G A (po_X4_value G qm m0 m1 m2 m3 m4 m5 m6 m7 m8 m9 m10 m11 hc rf sp ha nw P M R n v g d x) args s 0 0) 0 0 6 [(0, .ref qm), (1, .int x)] [.int (nI 0), .ref qm] [oB 4 qm [.ref m0, .ref m1, .int (nI hc), .int (nI rf), .ref m2, .ref m3, .ref m4, .ref m5, .ref m6, .ref m7, .ref m8, .long sp, .ref m9, .ref m10, .ref m11, .long ha], aI G m0 220 nw]
    refine J_if_ne F 13 (dcq dc_X4_value_0 4 rfl) (by decide) (fun h_6 => absurd h_6 (by decide)) (fun _ => ?_)
    refine J_iconst F (dcq dc_X4_value_0 5 rfl) ic_1 ?_
    refine J_goto F 26 (dcq dc_X4_value_0 6 rfl) (by decide) ?_
    refine J_callV F (wc := [oB 4 qm [.ref m0, .ref m1, .int (nI hc), .int (nI rf), .ref m2, .ref m3, .ref m4, .ref m5, .ref m6, .ref m7, .ref m8, .long sp, .ref m9, .ref m10, .ref m11, .long ha]]) (wr := [aI G m0 220 nw]) (rest := []) (qc := 0) (c_X4_refused_1 l hl G qm m0 m1 m2 m3 m4 m5 m6 m7 m8 m9 m10 m11 hc rf sp ha) cd_X4_refused cv_X4_refused rfl rfl rfl tw_4_40 [0] [1] rfl rfl rfl rfl (by decide) rfl ⟨(Nat.le_of_ble_eq_true rfl), (Nat.le_of_ble_eq_true rfl), (Nat.le_of_ble_eq_true rfl), (Nat.le_of_ble_eq_true rfl)⟩ (Nat.le_of_ble_eq_true rfl) rfl (dcq dc_X4_value_0 14 rfl) ?_
    rintro _ _ ⟨rfl, rfl⟩
    change J p l e (cRm 2 46 0 0) s m args below meth c G A 2 (JQ below G A (po_X4_value G qm m0 m1 m2 m3 m4 m5 m6 m7 m8 m9 m10 m11 hc rf sp ha nw P M R n v g d x) args s 0 0) 0 0 29 [(0, .ref qm), (1, .int x)] [.int (nI 1)] [aI G m0 220 nw, oB 4 qm [.ref m0, .ref m1, .int (nI hc), .int (nI 1), .ref m2, .ref m3, .ref m4, .ref m5, .ref m6, .ref m7, .ref m8, .long sp, .ref m9, .ref m10, .ref m11, .long ha]]
    refine J_world (ws2 := [oB 4 qm [.ref m0, .ref m1, .int (nI hc), .int (nI 1), .ref m2, .ref m3, .ref m4, .ref m5, .ref m6, .ref m7, .ref m8, .long sp, .ref m9, .ref m10, .ref m11, .long ha], aI G m0 220 nw]) [1, 0] rfl rfl ?_
    refine J_if_eq F 36 (dcq dc_X4_value_0 15 rfl) (by decide) (fun h_7 => absurd h_7 (by decide)) (fun _ => ?_)
    refine J_iconst F (dcq dc_X4_value_0 16 rfl) ic_0 ?_
    refine J_goto F 41 (dcq dc_X4_value_0 17 rfl) (by decide) ?_
    exact J_iret F (Or.inr (Or.inl ⟨rfl, rfl, hx_3⟩)) (Nat.le_of_ble_eq_true rfl) (Nat.le_of_ble_eq_true rfl) (dcq dc_X4_value_0 21 rfl)

abbrev po_X4_missing (G : Gt) (qm m0 m1 m2 m3 m4 m5 m6 m7 m8 m9 m10 m11 hc rf : Nat) (sp ha : Int64) (nw : Nat → Int32) (P M R n : Nat) (v g d : Nat → Int32) (x : Int32) : Option Value → va_W → Prop := fun (v9 : Option Value) (w9 : va_W) => (∃ (r : Int32), ∃ (i : Nat), v9 = some (.int r) ∧ w9 = [oB 4 qm [.ref m0, .ref m1, .int (nI hc), .int (nI 0), .ref m2, .ref m3, .ref m4, .ref m5, .ref m6, .ref m7, .ref m8, .long sp, .ref m9, .ref m10, .ref m11, .long ha], aI G m0 220 nw] ∧ (x = nI i) ∧ (i < 2 ^ 31) ∧ (r = oI (gpn g 0 n i))) ∨ (v9 = some (.int (nI 0)) ∧ w9 = [oB 4 qm [.ref m0, .ref m1, .int (nI hc), .int (nI 1), .ref m2, .ref m3, .ref m4, .ref m5, .ref m6, .ref m7, .ref m8, .long sp, .ref m9, .ref m10, .ref m11, .long ha], aI G m0 220 nw] ∧ (x < 0))
set_option maxHeartbeats 4000000 in
set_option maxRecDepth 100000 in
theorem c_X4_missing (l : Launch) (hl : l.stackTraces = false) (G : Gt) (qm m0 m1 m2 m3 m4 m5 m6 m7 m8 m9 m10 m11 hc rf : Nat) (sp ha : Int64) (nw : Nat → Int32) (P M R n : Nat) (v g d : Nat → Int32) (x : Int32) (hRM : RM nw P M R n v g d) (hn : n ≤ 72) (h01 : G01 n g) : Con l G yX4_missing cX4_missing 4 (some .int) 1 21 0 0 [.ref qm, .int x] [oB 4 qm [.ref m0, .ref m1, .int (nI hc), .int (nI rf), .ref m2, .ref m3, .ref m4, .ref m5, .ref m6, .ref m7, .ref m8, .long sp, .ref m9, .ref m10, .ref m11, .long ha], aI G m0 220 nw] (po_X4_missing G qm m0 m1 m2 m3 m4 m5 m6 m7 m8 m9 m10 m11 hc rf sp ha nw P M R n v g d x) := by
  refine Con.of hl cd_X4_missing (Nat.le_of_ble_eq_true rfl) ?_
  intro p e s m args below meth c A F hin9
  change Fx p l s m args meth c G A "SeasonalAdjusterModel" cX4_missing 4 (some .int) at F
  change J p l e (cRm 1 21 0 0) s m args below meth c G A 4 (JQ below G A (po_X4_missing G qm m0 m1 m2 m3 m4 m5 m6 m7 m8 m9 m10 m11 hc rf sp ha nw P M R n v g d x) args s 0 0) 0 0 0 [(0, .ref qm), (1, .int x)] [] [oB 4 qm [.ref m0, .ref m1, .int (nI hc), .int (nI rf), .ref m2, .ref m3, .ref m4, .ref m5, .ref m6, .ref m7, .ref m8, .long sp, .ref m9, .ref m10, .ref m11, .long ha], aI G m0 220 nw]
  refine J_aload_n F 0 (dcq dc_X4_missing_0 0 rfl) rfl rfl ?_
  refine J_iload_n F 1 (dcq dc_X4_missing_0 1 rfl) rfl rfl ?_
  refine J_if_ge F 9 (dcq dc_X4_missing_0 2 rfl) (by decide) (fun h_1 => ?_) (fun h_1 => ?_)
  · skip
    have h0 := h_1
    refine J_iconst F (dcq dc_X4_missing_0 5 rfl) ic_0 ?_
    refine J_callV F (wc := [oB 4 qm [.ref m0, .ref m1, .int (nI hc), .int (nI rf), .ref m2, .ref m3, .ref m4, .ref m5, .ref m6, .ref m7, .ref m8, .long sp, .ref m9, .ref m10, .ref m11, .long ha]]) (wr := [aI G m0 220 nw]) (rest := []) (qc := 0) (c_X4_refused_0 l hl G qm m0 m1 m2 m3 m4 m5 m6 m7 m8 m9 m10 m11 hc rf sp ha) cd_X4_refused cv_X4_refused rfl rfl rfl tw_4_40 [0] [1] rfl rfl rfl rfl (by decide) rfl ⟨(Nat.le_of_ble_eq_true rfl), (Nat.le_of_ble_eq_true rfl), (Nat.le_of_ble_eq_true rfl), (Nat.le_of_ble_eq_true rfl)⟩ (Nat.le_of_ble_eq_true rfl) rfl (dcq dc_X4_missing_0 6 rfl) ?_
    rintro _ _ ⟨rfl, rfl⟩
    change J p l e (cRm 1 21 0 0) s m args below meth c G A 4 (JQ below G A (po_X4_missing G qm m0 m1 m2 m3 m4 m5 m6 m7 m8 m9 m10 m11 hc rf sp ha nw P M R n v g d x) args s 0 0) 0 0 13 [(0, .ref qm), (1, .int x)] [.int (nI 0)] [aI G m0 220 nw, oB 4 qm [.ref m0, .ref m1, .int (nI hc), .int (nI 0), .ref m2, .ref m3, .ref m4, .ref m5, .ref m6, .ref m7, .ref m8, .long sp, .ref m9, .ref m10, .ref m11, .long ha]]
    refine J_world (ws2 := [oB 4 qm [.ref m0, .ref m1, .int (nI hc), .int (nI 0), .ref m2, .ref m3, .ref m4, .ref m5, .ref m6, .ref m7, .ref m8, .long sp, .ref m9, .ref m10, .ref m11, .long ha], aI G m0 220 nw]) [1, 0] rfl rfl ?_
    refine J_if_eq F 18 (dcq dc_X4_missing_0 7 rfl) (by decide) (fun _ => ?_) (fun h_2 => absurd h_2 (by decide))
    obtain ⟨i, hi, hxi⟩ := nI_of (Int32.not_lt.mpr h0)
    refine J_cast (lv2 := [(0, .ref qm), (1, .int (nI i))]) (st2 := []) (ws2 := [oB 4 qm [.ref m0, .ref m1, .int (nI hc), .int (nI 0), .ref m2, .ref m3, .ref m4, .ref m5, .ref m6, .ref m7, .ref m8, .long sp, .ref m9, .ref m10, .ref m11, .long ha], aI G m0 220 nw]) (by rw [hxi]) (rfl) (rfl) ?_
    refine J_iload_n F 1 (dcq dc_X4_missing_0 10 rfl) rfl rfl ?_
    refine J_istore_n F (lv2 := [(2, .int (nI i)), (0, .ref qm), (1, .int (nI i))]) (dcq dc_X4_missing_0 11 rfl) rfl (Nat.le_of_ble_eq_true rfl) rfl ?_
    refine J_iconst F (dcq dc_X4_missing_0 12 rfl) ic_0 ?_
    refine J_istore_n F (lv2 := [(3, .int (nI 0)), (2, .int (nI i)), (0, .ref qm), (1, .int (nI i))]) (dcq dc_X4_missing_0 13 rfl) rfl (Nat.le_of_ble_eq_true rfl) rfl ?_
    have L22 : ∀ (fu22 : Nat), ∀ (t lf : Nat), (t ≤ n) → (lf < 2 ^ 31) → (gpn g 0 n i = gpn g t (n - t) lf) → n - t < fu22 → J p l e (cRm 1 21 0 0) s m args below meth c G A 4 (JQ below G A (po_X4_missing G qm m0 m1 m2 m3 m4 m5 m6 m7 m8 m9 m10 m11 hc rf sp ha nw P M R n v g d x) args s 0 0) 0 0 22 [(0, .ref qm), (1, .int (nI i)), (2, .int (nI lf)), (3, .int (nI t))] [] [oB 4 qm [.ref m0, .ref m1, .int (nI hc), .int (nI 0), .ref m2, .ref m3, .ref m4, .ref m5, .ref m6, .ref m7, .ref m8, .long sp, .ref m9, .ref m10, .ref m11, .long ha], aI G m0 220 nw] := by
      intro fu22
      induction fu22 with
      | zero => intro t lf ht hlf iv hm22; exact absurd hm22 (Nat.not_lt_zero _)
      | succ fu22 ih22 =>
        intro t lf ht hlf iv hm22
        refine J_iload_n F 3 (dcq dc_X4_missing_0 14 rfl) rfl rfl ?_
        refine J_aload_n F 0 (dcq dc_X4_missing_0 15 rfl) rfl rfl ?_
        refine J_get F fcX4 0 0 rfl (Nat.le_of_ble_eq_true rfl) tw_3_223 rfl rfl (dcq dc_X4_missing_0 16 rfl) ?_
        refine J_iconst F (dcq dc_X4_missing_0 17 rfl) ic_3 ?_
        refine J_iald F 1 rfl (by omega) (Nat.le_of_ble_eq_true rfl) (dcq dc_X4_missing_0 18 rfl) ?_
        refine J_cast rfl (st2 := [.int (nI n), .int (nI t)]) (by rw [hRM.2.2.2.1]) rfl ?_
        refine J_ncmp_ge F 55 (by omega) (by omega) (dcq dc_X4_missing_0 19 rfl) (by decide) (fun h_3 => ?_) (fun h_3 => ?_)
        · skip
          refine J_iconst F (dcq dc_X4_missing_0 31 rfl) ic_m1 ?_
          exact J_iret F (Or.inl ⟨(-1), i, rfl, rfl, by first | assumption | omega, by first | assumption | omega, by rw [iv, show n - t = 0 by omega, gpn_end]; rfl⟩) (Nat.le_of_ble_eq_true rfl) (Nat.le_of_ble_eq_true rfl) (dcq dc_X4_missing_0 32 rfl)
        · skip
          refine J_aload_n F 0 (dcq dc_X4_missing_0 20 rfl) rfl rfl ?_
          refine J_iload_n F 3 (dcq dc_X4_missing_0 21 rfl) rfl rfl ?_
          refine J_callV F (wc := [oB 4 qm [.ref m0, .ref m1, .int (nI hc), .int (nI 0), .ref m2, .ref m3, .ref m4, .ref m5, .ref m6, .ref m7, .ref m8, .long sp, .ref m9, .ref m10, .ref m11, .long ha], aI G m0 220 nw]) (wr := []) (rest := []) (qc := 0) (c_X4_isMissing l hl G qm m0 m1 m2 m3 m4 m5 m6 m7 m8 m9 m10 m11 hc 0 sp ha nw P M R n v g d t (by first | assumption | omega) (by first | assumption | omega) (by first | assumption | omega) (by first | assumption | omega)) cd_X4_isMissing cv_X4_isMissing rfl rfl rfl tw_4_69 [0, 1] [] rfl rfl rfl rfl (by decide) rfl ⟨(Nat.le_of_ble_eq_true rfl), (Nat.le_of_ble_eq_true rfl), (Nat.le_of_ble_eq_true rfl), (Nat.le_of_ble_eq_true rfl)⟩ (Nat.le_of_ble_eq_true rfl) rfl (dcq dc_X4_missing_0 22 rfl) ?_
          rintro _ _ h9x
          rcases h9x with ⟨rfl, rfl, hg_34⟩ | ⟨rfl, rfl, hg_34⟩
          · skip
            have hg_34 : ¬ g t = 0 := hg_34
            change J p l e (cRm 1 21 0 0) s m args below meth c G A 4 (JQ below G A (po_X4_missing G qm m0 m1 m2 m3 m4 m5 m6 m7 m8 m9 m10 m11 hc rf sp ha nw P M R n v g d x) args s 0 0) 0 0 37 [(0, .ref qm), (1, .int (nI i)), (2, .int (nI lf)), (3, .int (nI t))] [.int (nI 1)] [oB 4 qm [.ref m0, .ref m1, .int (nI hc), .int (nI 0), .ref m2, .ref m3, .ref m4, .ref m5, .ref m6, .ref m7, .ref m8, .long sp, .ref m9, .ref m10, .ref m11, .long ha], aI G m0 220 nw]
            refine J_if_eq F 49 (dcq dc_X4_missing_0 23 rfl) (by decide) (fun h_4 => absurd h_4 (by decide)) (fun _ => ?_)
            refine J_iload_n F 2 (dcq dc_X4_missing_0 24 rfl) rfl rfl ?_
            refine J_nif_ne F 46 (by omega) (dcq dc_X4_missing_0 25 rfl) (by decide) (fun h_5 => ?_) (fun h_5 => ?_)
            · skip
              refine J_iinc F (lv2 := [(2, .int (nI (lf - 1))), (0, .ref qm), (1, .int (nI i)), (3, .int (nI t))]) (v := nI (lf - 1)) 2 (dcq dc_X4_missing_0 28 rfl) rfl (nI_dec _ (by omega)) (Nat.le_of_ble_eq_true rfl) rfl ?_
              refine J_iinc F (lv2 := [(3, .int (nI (t + 1))), (2, .int (nI (lf - 1))), (0, .ref qm), (1, .int (nI i))]) (v := nI (t + 1)) 3 (dcq dc_X4_missing_0 29 rfl) rfl (nI_inc _) (Nat.le_of_ble_eq_true rfl) rfl ?_
              refine J_goto F 22 (dcq dc_X4_missing_0 30 rfl) (by decide) ?_
              refine J_locs [2, 3, 1, 0] rfl ?_
              exact ih22 (t + 1) (lf - 1) (by omega) (by omega) (by first | rw [iv, gpn_step (by omega), if_pos hg_34] | rw [iv, gpn_step (by omega), if_neg hg_34, if_neg (by omega)]) (by omega)
            · skip
              refine J_iload_n F 3 (dcq dc_X4_missing_0 26 rfl) rfl rfl ?_
              exact J_iret F (Or.inl ⟨nI t, i, rfl, rfl, by first | assumption | omega, by first | assumption | omega, by rw [iv, gpn_step (by omega), if_neg hg_34, if_pos (by omega)]; rfl⟩) (Nat.le_of_ble_eq_true rfl) (Nat.le_of_ble_eq_true rfl) (dcq dc_X4_missing_0 27 rfl)
          · skip
            have hg_34 : g t = 0 := hg_34
            change J p l e (cRm 1 21 0 0) s m args below meth c G A 4 (JQ below G A (po_X4_missing G qm m0 m1 m2 m3 m4 m5 m6 m7 m8 m9 m10 m11 hc rf sp ha nw P M R n v g d x) args s 0 0) 0 0 37 [(0, .ref qm), (1, .int (nI i)), (2, .int (nI lf)), (3, .int (nI t))] [.int (nI 0)] [oB 4 qm [.ref m0, .ref m1, .int (nI hc), .int (nI 0), .ref m2, .ref m3, .ref m4, .ref m5, .ref m6, .ref m7, .ref m8, .long sp, .ref m9, .ref m10, .ref m11, .long ha], aI G m0 220 nw]
            refine J_if_eq F 49 (dcq dc_X4_missing_0 23 rfl) (by decide) (fun _ => ?_) (fun h_6 => absurd h_6 (by decide))
            refine J_iinc F (lv2 := [(3, .int (nI (t + 1))), (0, .ref qm), (1, .int (nI i)), (2, .int (nI lf))]) (v := nI (t + 1)) 3 (dcq dc_X4_missing_0 29 rfl) rfl (nI_inc _) (Nat.le_of_ble_eq_true rfl) rfl ?_
            refine J_goto F 22 (dcq dc_X4_missing_0 30 rfl) (by decide) ?_
            refine J_locs [1, 2, 3, 0] rfl ?_
            exact ih22 (t + 1) lf (by omega) (by omega) (by first | rw [iv, gpn_step (by omega), if_pos hg_34] | rw [iv, gpn_step (by omega), if_neg hg_34, if_neg (by omega)]) (by omega)
    refine J_locs [2, 3, 1, 0] rfl ?_
    exact L22 (n - 0 + 1) 0 i (by omega) (hi) (rfl) (Nat.lt_succ_self _)
  · skip
    have h0 := h_1
    refine J_iconst F (dcq dc_X4_missing_0 3 rfl) ic_1 ?_
    refine J_goto F 10 (dcq dc_X4_missing_0 4 rfl) (by decide) ?_
    refine J_callV F (wc := [oB 4 qm [.ref m0, .ref m1, .int (nI hc), .int (nI rf), .ref m2, .ref m3, .ref m4, .ref m5, .ref m6, .ref m7, .ref m8, .long sp, .ref m9, .ref m10, .ref m11, .long ha]]) (wr := [aI G m0 220 nw]) (rest := []) (qc := 0) (c_X4_refused_1 l hl G qm m0 m1 m2 m3 m4 m5 m6 m7 m8 m9 m10 m11 hc rf sp ha) cd_X4_refused cv_X4_refused rfl rfl rfl tw_4_40 [0] [1] rfl rfl rfl rfl (by decide) rfl ⟨(Nat.le_of_ble_eq_true rfl), (Nat.le_of_ble_eq_true rfl), (Nat.le_of_ble_eq_true rfl), (Nat.le_of_ble_eq_true rfl)⟩ (Nat.le_of_ble_eq_true rfl) rfl (dcq dc_X4_missing_0 6 rfl) ?_
    rintro _ _ ⟨rfl, rfl⟩
    change J p l e (cRm 1 21 0 0) s m args below meth c G A 4 (JQ below G A (po_X4_missing G qm m0 m1 m2 m3 m4 m5 m6 m7 m8 m9 m10 m11 hc rf sp ha nw P M R n v g d x) args s 0 0) 0 0 13 [(0, .ref qm), (1, .int x)] [.int (nI 1)] [aI G m0 220 nw, oB 4 qm [.ref m0, .ref m1, .int (nI hc), .int (nI 1), .ref m2, .ref m3, .ref m4, .ref m5, .ref m6, .ref m7, .ref m8, .long sp, .ref m9, .ref m10, .ref m11, .long ha]]
    refine J_world (ws2 := [oB 4 qm [.ref m0, .ref m1, .int (nI hc), .int (nI 1), .ref m2, .ref m3, .ref m4, .ref m5, .ref m6, .ref m7, .ref m8, .long sp, .ref m9, .ref m10, .ref m11, .long ha], aI G m0 220 nw]) [1, 0] rfl rfl ?_
    refine J_if_eq F 18 (dcq dc_X4_missing_0 7 rfl) (by decide) (fun h_7 => absurd h_7 (by decide)) (fun _ => ?_)
    refine J_iconst F (dcq dc_X4_missing_0 8 rfl) ic_0 ?_
    exact J_iret F (Or.inr (⟨rfl, rfl, Int32.not_le.mp h0⟩)) (Nat.le_of_ble_eq_true rfl) (Nat.le_of_ble_eq_true rfl) (dcq dc_X4_missing_0 9 rfl)

abbrev po_X4_half (G : Gt) (qm m0 m1 m2 m3 m4 m5 m6 m7 m8 m9 m10 m11 hc rf : Nat) (sp ha : Int64) (nw : Nat → Int32) (P M R n : Nat) (v g d : Nat → Int32) : Option Value → va_W → Prop := fun (v9 : Option Value) (w9 : va_W) => v9 = some (.int (nI (P / 2))) ∧ w9 = [oB 4 qm [.ref m0, .ref m1, .int (nI hc), .int (nI rf), .ref m2, .ref m3, .ref m4, .ref m5, .ref m6, .ref m7, .ref m8, .long sp, .ref m9, .ref m10, .ref m11, .long ha], aI G m0 220 nw]
set_option maxHeartbeats 4000000 in
set_option maxRecDepth 100000 in
theorem c_X4_half (l : Launch) (hl : l.stackTraces = false) (G : Gt) (qm m0 m1 m2 m3 m4 m5 m6 m7 m8 m9 m10 m11 hc rf : Nat) (sp ha : Int64) (nw : Nat → Int32) (P M R n : Nat) (v g d : Nat → Int32) (hRM : RM nw P M R n v g d) (hP12 : P ≤ 12) : Con l G yX4_half cX4_half 1 (some .int) 0 0 0 0 [.ref qm] [oB 4 qm [.ref m0, .ref m1, .int (nI hc), .int (nI rf), .ref m2, .ref m3, .ref m4, .ref m5, .ref m6, .ref m7, .ref m8, .long sp, .ref m9, .ref m10, .ref m11, .long ha], aI G m0 220 nw] (po_X4_half G qm m0 m1 m2 m3 m4 m5 m6 m7 m8 m9 m10 m11 hc rf sp ha nw P M R n v g d) := by
  refine Con.of hl cd_X4_half (Nat.le_of_ble_eq_true rfl) ?_
  intro p e s m args below meth c A F hin9
  change Fx p l s m args meth c G A "SeasonalAdjusterModel" cX4_half 1 (some .int) at F
  change J p l e (cRm 0 0 0 0) s m args below meth c G A 1 (JQ below G A (po_X4_half G qm m0 m1 m2 m3 m4 m5 m6 m7 m8 m9 m10 m11 hc rf sp ha nw P M R n v g d) args s 0 0) 0 0 0 [(0, .ref qm)] [] [oB 4 qm [.ref m0, .ref m1, .int (nI hc), .int (nI rf), .ref m2, .ref m3, .ref m4, .ref m5, .ref m6, .ref m7, .ref m8, .long sp, .ref m9, .ref m10, .ref m11, .long ha], aI G m0 220 nw]
  refine J_aload_n F 0 (dcq dc_X4_half_0 0 rfl) rfl rfl ?_
  refine J_get F fcX4 0 0 rfl (Nat.le_of_ble_eq_true rfl) tw_3_223 rfl rfl (dcq dc_X4_half_0 1 rfl) ?_
  refine J_iconst F (dcq dc_X4_half_0 2 rfl) ic_0 ?_
  refine J_iald F 1 rfl (by omega) (Nat.le_of_ble_eq_true rfl) (dcq dc_X4_half_0 3 rfl) ?_
  refine J_cast rfl (st2 := [.int (nI P)]) (by rw [hRM.1]) rfl ?_
  refine J_iconst F (dcq dc_X4_half_0 4 rfl) ic_2 ?_
  refine J_idiv F (v := nI (P / 2)) (dcq dc_X4_half_0 5 rfl) (nI_ne0 (by omega) (by omega)) (pk_div (by omega) (by omega) (by omega)) ?_
  exact J_iret F ⟨rfl, rfl⟩ (Nat.le_of_ble_eq_true rfl) (Nat.le_of_ble_eq_true rfl) (dcq dc_X4_half_0 6 rfl)

abbrev po_X4_can (G : Gt) (qm m0 m1 m2 m3 m4 m5 m6 m7 m8 m9 m10 m11 hc rf : Nat) (sp ha : Int64) (nw : Nat → Int32) (P M R n : Nat) (v g d : Nat → Int32) : Option Value → va_W → Prop := fun (v9 : Option Value) (w9 : va_W) => (v9 = some (.int (nI 1)) ∧ w9 = [oB 4 qm [.ref m0, .ref m1, .int (nI hc), .int (nI rf), .ref m2, .ref m3, .ref m4, .ref m5, .ref m6, .ref m7, .ref m8, .long sp, .ref m9, .ref m10, .ref m11, .long ha], aI G m0 220 nw] ∧ (dcm P n g)) ∨ (v9 = some (.int (nI 0)) ∧ w9 = [oB 4 qm [.ref m0, .ref m1, .int (nI hc), .int (nI rf), .ref m2, .ref m3, .ref m4, .ref m5, .ref m6, .ref m7, .ref m8, .long sp, .ref m9, .ref m10, .ref m11, .long ha], aI G m0 220 nw] ∧ (¬ dcm P n g))
set_option maxHeartbeats 4000000 in
set_option maxRecDepth 100000 in
theorem c_X4_can (l : Launch) (hl : l.stackTraces = false) (G : Gt) (qm m0 m1 m2 m3 m4 m5 m6 m7 m8 m9 m10 m11 hc rf : Nat) (sp ha : Int64) (nw : Nat → Int32) (P M R n : Nat) (v g d : Nat → Int32) (hRM : RM nw P M R n v g d) (hn : n ≤ 72) (h01 : G01 n g) (hP12 : P ≤ 12) : Con l G yX4_can cX4_can 1 (some .boolean) 1 22 0 0 [.ref qm] [oB 4 qm [.ref m0, .ref m1, .int (nI hc), .int (nI rf), .ref m2, .ref m3, .ref m4, .ref m5, .ref m6, .ref m7, .ref m8, .long sp, .ref m9, .ref m10, .ref m11, .long ha], aI G m0 220 nw] (po_X4_can G qm m0 m1 m2 m3 m4 m5 m6 m7 m8 m9 m10 m11 hc rf sp ha nw P M R n v g d) := by
  refine Con.of hl cd_X4_can (Nat.le_of_ble_eq_true rfl) ?_
  intro p e s m args below meth c A F hin9
  change Fx p l s m args meth c G A "SeasonalAdjusterModel" cX4_can 1 (some .boolean) at F
  change J p l e (cRm 1 22 0 0) s m args below meth c G A 1 (JQ below G A (po_X4_can G qm m0 m1 m2 m3 m4 m5 m6 m7 m8 m9 m10 m11 hc rf sp ha nw P M R n v g d) args s 0 0) 0 0 0 [(0, .ref qm)] [] [oB 4 qm [.ref m0, .ref m1, .int (nI hc), .int (nI rf), .ref m2, .ref m3, .ref m4, .ref m5, .ref m6, .ref m7, .ref m8, .long sp, .ref m9, .ref m10, .ref m11, .long ha], aI G m0 220 nw]
  refine J_aload_n F 0 (dcq dc_X4_can_0 0 rfl) rfl rfl ?_
  refine J_callV F (wc := [oB 4 qm [.ref m0, .ref m1, .int (nI hc), .int (nI rf), .ref m2, .ref m3, .ref m4, .ref m5, .ref m6, .ref m7, .ref m8, .long sp, .ref m9, .ref m10, .ref m11, .long ha], aI G m0 220 nw]) (wr := []) (rest := []) (qc := 0) (c_X4_missingOnes l hl G qm m0 m1 m2 m3 m4 m5 m6 m7 m8 m9 m10 m11 hc rf sp ha nw P M R n v g d (by first | assumption | omega) (by first | assumption | omega) (by first | assumption | omega)) cd_X4_missingOnes cv_X4_missingOnes rfl rfl rfl tw_4_108 [0, 1] [] rfl rfl rfl rfl (by decide) rfl ⟨(Nat.le_of_ble_eq_true rfl), (Nat.le_of_ble_eq_true rfl), (Nat.le_of_ble_eq_true rfl), (Nat.le_of_ble_eq_true rfl)⟩ (Nat.le_of_ble_eq_true rfl) rfl (dcq dc_X4_can_0 1 rfl) ?_
  rintro _ _ ⟨rc, rfl, rfl, hrc⟩
  change J p l e (cRm 1 22 0 0) s m args below meth c G A 1 (JQ below G A (po_X4_can G qm m0 m1 m2 m3 m4 m5 m6 m7 m8 m9 m10 m11 hc rf sp ha nw P M R n v g d) args s 0 0) 0 0 4 [(0, .ref qm)] [.int (nI rc)] [oB 4 qm [.ref m0, .ref m1, .int (nI hc), .int (nI rf), .ref m2, .ref m3, .ref m4, .ref m5, .ref m6, .ref m7, .ref m8, .long sp, .ref m9, .ref m10, .ref m11, .long ha], aI G m0 220 nw]
  have hrc : rc = cg g n := hrc
  have hcl := cg_le g n
  refine J_nif_ne F 43 (by omega) (dcq dc_X4_can_0 2 rfl) (by decide) (fun h_1 => ?_) (fun h_1 => ?_)
  · skip
    refine J_iconst F (dcq dc_X4_can_0 25 rfl) ic_0 ?_
    exact J_zret F (by decide) (Or.inr (⟨rfl, rfl, by unfold dcm; omega⟩)) (Nat.le_of_ble_eq_true rfl) (Nat.le_of_ble_eq_true rfl) (dcq dc_X4_can_0 26 rfl)
  · skip
    refine J_aload_n F 0 (dcq dc_X4_can_0 3 rfl) rfl rfl ?_
    refine J_get F fcX4 0 0 rfl (Nat.le_of_ble_eq_true rfl) tw_3_223 rfl rfl (dcq dc_X4_can_0 4 rfl) ?_
    refine J_iconst F (dcq dc_X4_can_0 5 rfl) ic_3 ?_
    refine J_iald F 1 rfl (by omega) (Nat.le_of_ble_eq_true rfl) (dcq dc_X4_can_0 6 rfl) ?_
    refine J_cast rfl (st2 := [.int (nI n)]) (by rw [hRM.2.2.2.1]) rfl ?_
    refine J_iconst F (dcq dc_X4_can_0 7 rfl) ic_5 ?_
    refine J_ncmp_lt F 43 (by omega) (by omega) (dcq dc_X4_can_0 8 rfl) (by decide) (fun h_2 => ?_) (fun h_2 => ?_)
    · skip
      refine J_iconst F (dcq dc_X4_can_0 25 rfl) ic_0 ?_
      exact J_zret F (by decide) (Or.inr (⟨rfl, rfl, by unfold dcm; omega⟩)) (Nat.le_of_ble_eq_true rfl) (Nat.le_of_ble_eq_true rfl) (dcq dc_X4_can_0 26 rfl)
    · skip
      refine J_aload_n F 0 (dcq dc_X4_can_0 9 rfl) rfl rfl ?_
      refine J_get F fcX4 0 0 rfl (Nat.le_of_ble_eq_true rfl) tw_3_223 rfl rfl (dcq dc_X4_can_0 10 rfl) ?_
      refine J_iconst F (dcq dc_X4_can_0 11 rfl) ic_3 ?_
      refine J_iald F 1 rfl (by omega) (Nat.le_of_ble_eq_true rfl) (dcq dc_X4_can_0 12 rfl) ?_
      refine J_cast rfl (st2 := [.int (nI n)]) (by rw [hRM.2.2.2.1]) rfl ?_
      refine J_aload_n F 0 (dcq dc_X4_can_0 13 rfl) rfl rfl ?_
      refine J_get F fcX4 0 0 rfl (Nat.le_of_ble_eq_true rfl) tw_3_223 rfl rfl (dcq dc_X4_can_0 14 rfl) ?_
      refine J_iconst F (dcq dc_X4_can_0 15 rfl) ic_0 ?_
      refine J_iald F 1 rfl (by omega) (Nat.le_of_ble_eq_true rfl) (dcq dc_X4_can_0 16 rfl) ?_
      refine J_cast rfl (st2 := [.int (nI P), .int (nI n)]) (by rw [hRM.1]) rfl ?_
      refine J_iconst F (dcq dc_X4_can_0 17 rfl) ic_2 ?_
      refine J_aload_n F 0 (dcq dc_X4_can_0 18 rfl) rfl rfl ?_
      refine J_callV F (wc := [oB 4 qm [.ref m0, .ref m1, .int (nI hc), .int (nI rf), .ref m2, .ref m3, .ref m4, .ref m5, .ref m6, .ref m7, .ref m8, .long sp, .ref m9, .ref m10, .ref m11, .long ha], aI G m0 220 nw]) (wr := []) (rest := [.int (nI 2), .int (nI P), .int (nI n)]) (qc := 0) (c_X4_half l hl G qm m0 m1 m2 m3 m4 m5 m6 m7 m8 m9 m10 m11 hc rf sp ha nw P M R n v g d (by first | assumption | omega) (by first | assumption | omega)) cd_X4_half cv_X4_half rfl rfl rfl tw_4_160 [0, 1] [] rfl rfl rfl rfl (by decide) rfl ⟨(Nat.le_of_ble_eq_true rfl), (Nat.le_of_ble_eq_true rfl), (Nat.le_of_ble_eq_true rfl), (Nat.le_of_ble_eq_true rfl)⟩ (Nat.le_of_ble_eq_true rfl) rfl (dcq dc_X4_can_0 19 rfl) ?_
      rintro _ _ ⟨rfl, rfl⟩
      change J p l e (cRm 1 22 0 0) s m args below meth c G A 1 (JQ below G A (po_X4_can G qm m0 m1 m2 m3 m4 m5 m6 m7 m8 m9 m10 m11 hc rf sp ha nw P M R n v g d) args s 0 0) 0 0 34 [(0, .ref qm)] [.int (nI (P / 2)), .int (nI 2), .int (nI P), .int (nI n)] [oB 4 qm [.ref m0, .ref m1, .int (nI hc), .int (nI rf), .ref m2, .ref m3, .ref m4, .ref m5, .ref m6, .ref m7, .ref m8, .long sp, .ref m9, .ref m10, .ref m11, .long ha], aI G m0 220 nw]
      refine J_imul F (v := nI (2 * (P / 2))) (dcq dc_X4_can_0 20 rfl) (pk_mul _ _) ?_
      refine J_iadd F (v := nI (P + 2 * (P / 2))) (dcq dc_X4_can_0 21 rfl) (nI_add _ _) ?_
      refine J_ncmp_lt F 43 (by omega) (by omega) (dcq dc_X4_can_0 22 rfl) (by decide) (fun h_3 => ?_) (fun h_3 => ?_)
      · skip
        refine J_iconst F (dcq dc_X4_can_0 25 rfl) ic_0 ?_
        exact J_zret F (by decide) (Or.inr (⟨rfl, rfl, by unfold dcm; omega⟩)) (Nat.le_of_ble_eq_true rfl) (Nat.le_of_ble_eq_true rfl) (dcq dc_X4_can_0 26 rfl)
      · skip
        refine J_iconst F (dcq dc_X4_can_0 23 rfl) ic_1 ?_
        refine J_goto F 44 (dcq dc_X4_can_0 24 rfl) (by decide) ?_
        exact J_zret F (by decide) (Or.inl ⟨rfl, rfl, by unfold dcm; omega⟩) (Nat.le_of_ble_eq_true rfl) (Nat.le_of_ble_eq_true rfl) (dcq dc_X4_can_0 26 rfl)

abbrev po_X4_canDecompose (G : Gt) (qm m0 m1 m2 m3 m4 m5 m6 m7 m8 m9 m10 m11 hc rf : Nat) (sp ha : Int64) (nw : Nat → Int32) (P M R n : Nat) (v g d : Nat → Int32) : Option Value → va_W → Prop := fun (v9 : Option Value) (w9 : va_W) => (v9 = some (.int (nI 1)) ∧ w9 = [oB 4 qm [.ref m0, .ref m1, .int (nI hc), .int (nI 0), .ref m2, .ref m3, .ref m4, .ref m5, .ref m6, .ref m7, .ref m8, .long sp, .ref m9, .ref m10, .ref m11, .long ha], aI G m0 220 nw] ∧ (dcm P n g)) ∨ (v9 = some (.int (nI 0)) ∧ w9 = [oB 4 qm [.ref m0, .ref m1, .int (nI hc), .int (nI 0), .ref m2, .ref m3, .ref m4, .ref m5, .ref m6, .ref m7, .ref m8, .long sp, .ref m9, .ref m10, .ref m11, .long ha], aI G m0 220 nw] ∧ (¬ dcm P n g))
set_option maxHeartbeats 4000000 in
set_option maxRecDepth 100000 in
theorem c_X4_canDecompose (l : Launch) (hl : l.stackTraces = false) (G : Gt) (qm m0 m1 m2 m3 m4 m5 m6 m7 m8 m9 m10 m11 hc rf : Nat) (sp ha : Int64) (nw : Nat → Int32) (P M R n : Nat) (v g d : Nat → Int32) (hRM : RM nw P M R n v g d) (hn : n ≤ 72) (h01 : G01 n g) (hP12 : P ≤ 12) : Con l G yX4_canDecompose cX4_canDecompose 1 (some .boolean) 2 42 0 0 [.ref qm] [oB 4 qm [.ref m0, .ref m1, .int (nI hc), .int (nI rf), .ref m2, .ref m3, .ref m4, .ref m5, .ref m6, .ref m7, .ref m8, .long sp, .ref m9, .ref m10, .ref m11, .long ha], aI G m0 220 nw] (po_X4_canDecompose G qm m0 m1 m2 m3 m4 m5 m6 m7 m8 m9 m10 m11 hc rf sp ha nw P M R n v g d) := by
  refine Con.of hl cd_X4_canDecompose (Nat.le_of_ble_eq_true rfl) ?_
  intro p e s m args below meth c A F hin9
  change Fx p l s m args meth c G A "SeasonalAdjusterModel" cX4_canDecompose 1 (some .boolean) at F
  change J p l e (cRm 2 42 0 0) s m args below meth c G A 1 (JQ below G A (po_X4_canDecompose G qm m0 m1 m2 m3 m4 m5 m6 m7 m8 m9 m10 m11 hc rf sp ha nw P M R n v g d) args s 0 0) 0 0 0 [(0, .ref qm)] [] [oB 4 qm [.ref m0, .ref m1, .int (nI hc), .int (nI rf), .ref m2, .ref m3, .ref m4, .ref m5, .ref m6, .ref m7, .ref m8, .long sp, .ref m9, .ref m10, .ref m11, .long ha], aI G m0 220 nw]
  refine J_aload_n F 0 (dcq dc_X4_canDecompose_0 0 rfl) rfl rfl ?_
  refine J_iconst F (dcq dc_X4_canDecompose_0 1 rfl) ic_0 ?_
  refine J_put F (ws2 := [oB 4 qm [.ref m0, .ref m1, .int (nI hc), .int (nI 0), .ref m2, .ref m3, .ref m4, .ref m5, .ref m6, .ref m7, .ref m8, .long sp, .ref m9, .ref m10, .ref m11, .long ha], aI G m0 220 nw]) fcX4 0 3 rfl (Nat.le_of_ble_eq_true rfl) tw_3_226 rfl rfl rfl rfl (Nat.le_of_ble_eq_true rfl) rfl (dcq dc_X4_canDecompose_0 2 rfl) ?_
  refine J_aload_n F 0 (dcq dc_X4_canDecompose_0 3 rfl) rfl rfl ?_
  refine J_callV F (wc := [oB 4 qm [.ref m0, .ref m1, .int (nI hc), .int (nI 0), .ref m2, .ref m3, .ref m4, .ref m5, .ref m6, .ref m7, .ref m8, .long sp, .ref m9, .ref m10, .ref m11, .long ha], aI G m0 220 nw]) (wr := []) (rest := []) (qc := 0) (c_X4_can l hl G qm m0 m1 m2 m3 m4 m5 m6 m7 m8 m9 m10 m11 hc 0 sp ha nw P M R n v g d (by first | assumption | omega) (by first | assumption | omega) (by first | assumption | omega) (by first | assumption | omega)) cd_X4_can cv_X4_can rfl rfl rfl tw_4_156 [0, 1] [] rfl rfl rfl rfl (by decide) rfl ⟨(Nat.le_of_ble_eq_true rfl), (Nat.le_of_ble_eq_true rfl), (Nat.le_of_ble_eq_true rfl), (Nat.le_of_ble_eq_true rfl)⟩ (Nat.le_of_ble_eq_true rfl) rfl (dcq dc_X4_canDecompose_0 4 rfl) ?_
  rintro _ _ h9x
  rcases h9x with ⟨rfl, rfl, hd_6⟩ | ⟨rfl, rfl, hd_6⟩
  · skip
    have hd_6 : dcm P n g := hd_6
    change J p l e (cRm 2 42 0 0) s m args below meth c G A 1 (JQ below G A (po_X4_canDecompose G qm m0 m1 m2 m3 m4 m5 m6 m7 m8 m9 m10 m11 hc rf sp ha nw P M R n v g d) args s 0 0) 0 0 9 [(0, .ref qm)] [.int (nI 1)] [oB 4 qm [.ref m0, .ref m1, .int (nI hc), .int (nI 0), .ref m2, .ref m3, .ref m4, .ref m5, .ref m6, .ref m7, .ref m8, .long sp, .ref m9, .ref m10, .ref m11, .long ha], aI G m0 220 nw]
    exact J_zret F (by decide) (Or.inl ⟨rfl, rfl, hd_6⟩) (Nat.le_of_ble_eq_true rfl) (Nat.le_of_ble_eq_true rfl) (dcq dc_X4_canDecompose_0 5 rfl)
  · skip
    have hd_6 : ¬ dcm P n g := hd_6
    change J p l e (cRm 2 42 0 0) s m args below meth c G A 1 (JQ below G A (po_X4_canDecompose G qm m0 m1 m2 m3 m4 m5 m6 m7 m8 m9 m10 m11 hc rf sp ha nw P M R n v g d) args s 0 0) 0 0 9 [(0, .ref qm)] [.int (nI 0)] [oB 4 qm [.ref m0, .ref m1, .int (nI hc), .int (nI 0), .ref m2, .ref m3, .ref m4, .ref m5, .ref m6, .ref m7, .ref m8, .long sp, .ref m9, .ref m10, .ref m11, .long ha], aI G m0 220 nw]
    exact J_zret F (by decide) (Or.inr (⟨rfl, rfl, hd_6⟩)) (Nat.le_of_ble_eq_true rfl) (Nat.le_of_ble_eq_true rfl) (dcq dc_X4_canDecompose_0 5 rfl)

abbrev po_X4_isInner (G : Gt) (qm m0 m1 m2 m3 m4 m5 m6 m7 m8 m9 m10 m11 hc rf : Nat) (sp ha : Int64) (nw : Nat → Int32) (P M R n : Nat) (v g d : Nat → Int32) (x : Int32) : Option Value → va_W → Prop := fun (v9 : Option Value) (w9 : va_W) => (∃ (j : Nat), v9 = some (.int (nI 1)) ∧ w9 = [oB 4 qm [.ref m0, .ref m1, .int (nI hc), .int (nI rf), .ref m2, .ref m3, .ref m4, .ref m5, .ref m6, .ref m7, .ref m8, .long sp, .ref m9, .ref m10, .ref m11, .long ha], aI G m0 220 nw] ∧ (x = nI j) ∧ (P / 2 ≤ j) ∧ (j + P / 2 < n)) ∨ (v9 = some (.int (nI 0)) ∧ w9 = [oB 4 qm [.ref m0, .ref m1, .int (nI hc), .int (nI rf), .ref m2, .ref m3, .ref m4, .ref m5, .ref m6, .ref m7, .ref m8, .long sp, .ref m9, .ref m10, .ref m11, .long ha], aI G m0 220 nw] ∧ (∀ j, P / 2 ≤ j → j + P / 2 < n → x ≠ nI j))
set_option maxHeartbeats 4000000 in
set_option maxRecDepth 100000 in
theorem c_X4_isInner (l : Launch) (hl : l.stackTraces = false) (G : Gt) (qm m0 m1 m2 m3 m4 m5 m6 m7 m8 m9 m10 m11 hc rf : Nat) (sp ha : Int64) (nw : Nat → Int32) (P M R n : Nat) (v g d : Nat → Int32) (x : Int32) (hRM : RM nw P M R n v g d) (hn : n ≤ 72) (hP : 2 ≤ P) (hP12 : P ≤ 12) (hPn : P + 2 * (P / 2) ≤ n) : Con l G yX4_isInner cX4_isInner 2 (some .boolean) 1 25 0 0 [.ref qm, .int x] [oB 4 qm [.ref m0, .ref m1, .int (nI hc), .int (nI rf), .ref m2, .ref m3, .ref m4, .ref m5, .ref m6, .ref m7, .ref m8, .long sp, .ref m9, .ref m10, .ref m11, .long ha], aI G m0 220 nw] (po_X4_isInner G qm m0 m1 m2 m3 m4 m5 m6 m7 m8 m9 m10 m11 hc rf sp ha nw P M R n v g d x) := by
  refine Con.of hl cd_X4_isInner (Nat.le_of_ble_eq_true rfl) ?_
  intro p e s m args below meth c A F hin9
  change Fx p l s m args meth c G A "SeasonalAdjusterModel" cX4_isInner 2 (some .boolean) at F
  change J p l e (cRm 1 25 0 0) s m args below meth c G A 2 (JQ below G A (po_X4_isInner G qm m0 m1 m2 m3 m4 m5 m6 m7 m8 m9 m10 m11 hc rf sp ha nw P M R n v g d x) args s 0 0) 0 0 0 [(0, .ref qm), (1, .int x)] [] [oB 4 qm [.ref m0, .ref m1, .int (nI hc), .int (nI rf), .ref m2, .ref m3, .ref m4, .ref m5, .ref m6, .ref m7, .ref m8, .long sp, .ref m9, .ref m10, .ref m11, .long ha], aI G m0 220 nw]
  refine J_iload_n F 1 (dcq dc_X4_isInner_0 0 rfl) rfl rfl ?_
  refine J_i2l F (v := x.toInt64) (dcq dc_X4_isInner_0 1 rfl) rfl ?_
  refine J_aload_n F 0 (dcq dc_X4_isInner_0 2 rfl) rfl rfl ?_
  refine J_callV F (wc := [oB 4 qm [.ref m0, .ref m1, .int (nI hc), .int (nI rf), .ref m2, .ref m3, .ref m4, .ref m5, .ref m6, .ref m7, .ref m8, .long sp, .ref m9, .ref m10, .ref m11, .long ha], aI G m0 220 nw]) (wr := []) (rest := [.long x.toInt64]) (qc := 0) (c_X4_half l hl G qm m0 m1 m2 m3 m4 m5 m6 m7 m8 m9 m10 m11 hc rf sp ha nw P M R n v g d (by first | assumption | omega) (by first | assumption | omega)) cd_X4_half cv_X4_half rfl rfl rfl tw_4_160 [0, 1] [] rfl rfl rfl rfl (by decide) rfl ⟨(Nat.le_of_ble_eq_true rfl), (Nat.le_of_ble_eq_true rfl), (Nat.le_of_ble_eq_true rfl), (Nat.le_of_ble_eq_true rfl)⟩ (Nat.le_of_ble_eq_true rfl) rfl (dcq dc_X4_isInner_0 3 rfl) ?_
  rintro _ _ ⟨rfl, rfl⟩
  change J p l e (cRm 1 25 0 0) s m args below meth c G A 2 (JQ below G A (po_X4_isInner G qm m0 m1 m2 m3 m4 m5 m6 m7 m8 m9 m10 m11 hc rf sp ha nw P M R n v g d x) args s 0 0) 0 0 6 [(0, .ref qm), (1, .int x)] [.int (nI (P / 2)), .long x.toInt64] [oB 4 qm [.ref m0, .ref m1, .int (nI hc), .int (nI rf), .ref m2, .ref m3, .ref m4, .ref m5, .ref m6, .ref m7, .ref m8, .long sp, .ref m9, .ref m10, .ref m11, .long ha], aI G m0 220 nw]
  refine J_i2l F (v := lN (P / 2)) (dcq dc_X4_isInner_0 4 rfl) (nI_l (by omega)) ?_
  refine J_aload_n F 0 (dcq dc_X4_isInner_0 5 rfl) rfl rfl ?_
  refine J_get F fcX4 0 0 rfl (Nat.le_of_ble_eq_true rfl) tw_3_223 rfl rfl (dcq dc_X4_isInner_0 6 rfl) ?_
  refine J_iconst F (dcq dc_X4_isInner_0 7 rfl) ic_3 ?_
  refine J_iald F 1 rfl (by omega) (Nat.le_of_ble_eq_true rfl) (dcq dc_X4_isInner_0 8 rfl) ?_
  refine J_cast rfl (st2 := [.int (nI n), .long (lN (P / 2)), .long x.toInt64]) (by rw [hRM.2.2.2.1]) rfl ?_
  refine J_iconst F (dcq dc_X4_isInner_0 9 rfl) ic_1 ?_
  refine J_isub F (v := nI (n - 1)) (dcq dc_X4_isInner_0 10 rfl) (pk_sub (by omega)) ?_
  refine J_aload_n F 0 (dcq dc_X4_isInner_0 11 rfl) rfl rfl ?_
  refine J_callV F (wc := [oB 4 qm [.ref m0, .ref m1, .int (nI hc), .int (nI rf), .ref m2, .ref m3, .ref m4, .ref m5, .ref m6, .ref m7, .ref m8, .long sp, .ref m9, .ref m10, .ref m11, .long ha], aI G m0 220 nw]) (wr := []) (rest := [.int (nI (n - 1)), .long (lN (P / 2)), .long x.toInt64]) (qc := 0) (c_X4_half l hl G qm m0 m1 m2 m3 m4 m5 m6 m7 m8 m9 m10 m11 hc rf sp ha nw P M R n v g d (by first | assumption | omega) (by first | assumption | omega)) cd_X4_half cv_X4_half rfl rfl rfl tw_4_160 [0, 1] [] rfl rfl rfl rfl (by decide) rfl ⟨(Nat.le_of_ble_eq_true rfl), (Nat.le_of_ble_eq_true rfl), (Nat.le_of_ble_eq_true rfl), (Nat.le_of_ble_eq_true rfl)⟩ (Nat.le_of_ble_eq_true rfl) rfl (dcq dc_X4_isInner_0 12 rfl) ?_
  rintro _ _ ⟨rfl, rfl⟩
  change J p l e (cRm 1 25 0 0) s m args below meth c G A 2 (JQ below G A (po_X4_isInner G qm m0 m1 m2 m3 m4 m5 m6 m7 m8 m9 m10 m11 hc rf sp ha nw P M R n v g d x) args s 0 0) 0 0 19 [(0, .ref qm), (1, .int x)] [.int (nI (P / 2)), .int (nI (n - 1)), .long (lN (P / 2)), .long x.toInt64] [oB 4 qm [.ref m0, .ref m1, .int (nI hc), .int (nI rf), .ref m2, .ref m3, .ref m4, .ref m5, .ref m6, .ref m7, .ref m8, .long sp, .ref m9, .ref m10, .ref m11, .long ha], aI G m0 220 nw]
  refine J_isub F (v := nI (n - 1 - P / 2)) (dcq dc_X4_isInner_0 13 rfl) (pk_sub (by omega)) ?_
  refine J_i2l F (v := lN (n - 1 - P / 2)) (dcq dc_X4_isInner_0 14 rfl) (nI_l (by omega)) ?_
  refine J_callS F (wc := []) (wr := [oB 4 qm [.ref m0, .ref m1, .int (nI hc), .int (nI rf), .ref m2, .ref m3, .ref m4, .ref m5, .ref m6, .ref m7, .ref m8, .long sp, .ref m9, .ref m10, .ref m11, .long ha], aI G m0 220 nw]) (rest := []) (c_X4_within l hl G x.toInt64 (lN (P / 2)) (lN (n - 1 - P / 2))) cd_X4_within tw_4_51 tw_4_50 [] [0, 1] rfl rfl rfl rfl (by decide) rfl ⟨(Nat.le_of_ble_eq_true rfl), (Nat.le_of_ble_eq_true rfl), (Nat.le_of_ble_eq_true rfl), (Nat.le_of_ble_eq_true rfl)⟩ (Nat.le_of_ble_eq_true rfl) rfl (dcq dc_X4_isInner_0 15 rfl) ?_
  rintro _ _ h9x
  rcases h9x with ⟨rfl, rfl, hw_21⟩ | ⟨rfl, rfl, hw_21⟩
  · skip
    have hw_21 : (lN (P / 2)) ≤ x.toInt64 ∧ x.toInt64 ≤ (lN (n - 1 - P / 2)) := hw_21
    change J p l e (cRm 1 25 0 0) s m args below meth c G A 2 (JQ below G A (po_X4_isInner G qm m0 m1 m2 m3 m4 m5 m6 m7 m8 m9 m10 m11 hc rf sp ha nw P M R n v g d x) args s 0 0) 0 0 24 [(0, .ref qm), (1, .int x)] [.int (nI 1)] [oB 4 qm [.ref m0, .ref m1, .int (nI hc), .int (nI rf), .ref m2, .ref m3, .ref m4, .ref m5, .ref m6, .ref m7, .ref m8, .long sp, .ref m9, .ref m10, .ref m11, .long ha], aI G m0 220 nw]
    obtain ⟨j9, ha9, hb9, hc9⟩ := inn_of (by omega) (by omega) hw_21
    exact J_zret F (by decide) (Or.inl ⟨j9, rfl, rfl, ha9, hb9, by omega⟩) (Nat.le_of_ble_eq_true rfl) (Nat.le_of_ble_eq_true rfl) (dcq dc_X4_isInner_0 16 rfl)
  · skip
    have hw_21 : ¬ ((lN (P / 2)) ≤ x.toInt64 ∧ x.toInt64 ≤ (lN (n - 1 - P / 2))) := hw_21
    change J p l e (cRm 1 25 0 0) s m args below meth c G A 2 (JQ below G A (po_X4_isInner G qm m0 m1 m2 m3 m4 m5 m6 m7 m8 m9 m10 m11 hc rf sp ha nw P M R n v g d x) args s 0 0) 0 0 24 [(0, .ref qm), (1, .int x)] [.int (nI 0)] [oB 4 qm [.ref m0, .ref m1, .int (nI hc), .int (nI rf), .ref m2, .ref m3, .ref m4, .ref m5, .ref m6, .ref m7, .ref m8, .long sp, .ref m9, .ref m10, .ref m11, .long ha], aI G m0 220 nw]
    exact J_zret F (by decide) (Or.inr (⟨rfl, rfl, fun j h1 h2 => inn_no (by omega) (by omega) hw_21 j h1 (by omega)⟩)) (Nat.le_of_ble_eq_true rfl) (Nat.le_of_ble_eq_true rfl) (dcq dc_X4_isInner_0 16 rfl)

abbrev po_X4_inner (G : Gt) (qm m0 m1 m2 m3 m4 m5 m6 m7 m8 m9 m10 m11 hc rf : Nat) (sp ha : Int64) (nw : Nat → Int32) (P M R n : Nat) (v g d : Nat → Int32) : Option Value → va_W → Prop := fun (v9 : Option Value) (w9 : va_W) => v9 = some (.int (nI (n - 2 * (P / 2)))) ∧ w9 = [oB 4 qm [.ref m0, .ref m1, .int (nI hc), .int (nI rf), .ref m2, .ref m3, .ref m4, .ref m5, .ref m6, .ref m7, .ref m8, .long sp, .ref m9, .ref m10, .ref m11, .long ha], aI G m0 220 nw]
set_option maxHeartbeats 4000000 in
set_option maxRecDepth 100000 in
theorem c_X4_inner (l : Launch) (hl : l.stackTraces = false) (G : Gt) (qm m0 m1 m2 m3 m4 m5 m6 m7 m8 m9 m10 m11 hc rf : Nat) (sp ha : Int64) (nw : Nat → Int32) (P M R n : Nat) (v g d : Nat → Int32) (hRM : RM nw P M R n v g d) (hn : n ≤ 72) (hP12 : P ≤ 12) (hPn : P + 2 * (P / 2) ≤ n) : Con l G yX4_inner cX4_inner 1 (some .int) 1 20 0 0 [.ref qm] [oB 4 qm [.ref m0, .ref m1, .int (nI hc), .int (nI rf), .ref m2, .ref m3, .ref m4, .ref m5, .ref m6, .ref m7, .ref m8, .long sp, .ref m9, .ref m10, .ref m11, .long ha], aI G m0 220 nw] (po_X4_inner G qm m0 m1 m2 m3 m4 m5 m6 m7 m8 m9 m10 m11 hc rf sp ha nw P M R n v g d) := by
  refine Con.of hl cd_X4_inner (Nat.le_of_ble_eq_true rfl) ?_
  intro p e s m args below meth c A F hin9
  change Fx p l s m args meth c G A "SeasonalAdjusterModel" cX4_inner 1 (some .int) at F
  change J p l e (cRm 1 20 0 0) s m args below meth c G A 1 (JQ below G A (po_X4_inner G qm m0 m1 m2 m3 m4 m5 m6 m7 m8 m9 m10 m11 hc rf sp ha nw P M R n v g d) args s 0 0) 0 0 0 [(0, .ref qm)] [] [oB 4 qm [.ref m0, .ref m1, .int (nI hc), .int (nI rf), .ref m2, .ref m3, .ref m4, .ref m5, .ref m6, .ref m7, .ref m8, .long sp, .ref m9, .ref m10, .ref m11, .long ha], aI G m0 220 nw]
  refine J_aload_n F 0 (dcq dc_X4_inner_0 0 rfl) rfl rfl ?_
  refine J_get F fcX4 0 0 rfl (Nat.le_of_ble_eq_true rfl) tw_3_223 rfl rfl (dcq dc_X4_inner_0 1 rfl) ?_
  refine J_iconst F (dcq dc_X4_inner_0 2 rfl) ic_3 ?_
  refine J_iald F 1 rfl (by omega) (Nat.le_of_ble_eq_true rfl) (dcq dc_X4_inner_0 3 rfl) ?_
  refine J_cast rfl (st2 := [.int (nI n)]) (by rw [hRM.2.2.2.1]) rfl ?_
  refine J_iconst F (dcq dc_X4_inner_0 4 rfl) ic_2 ?_
  refine J_aload_n F 0 (dcq dc_X4_inner_0 5 rfl) rfl rfl ?_
  refine J_callV F (wc := [oB 4 qm [.ref m0, .ref m1, .int (nI hc), .int (nI rf), .ref m2, .ref m3, .ref m4, .ref m5, .ref m6, .ref m7, .ref m8, .long sp, .ref m9, .ref m10, .ref m11, .long ha], aI G m0 220 nw]) (wr := []) (rest := [.int (nI 2), .int (nI n)]) (qc := 0) (c_X4_half l hl G qm m0 m1 m2 m3 m4 m5 m6 m7 m8 m9 m10 m11 hc rf sp ha nw P M R n v g d (by first | assumption | omega) (by first | assumption | omega)) cd_X4_half cv_X4_half rfl rfl rfl tw_4_160 [0, 1] [] rfl rfl rfl rfl (by decide) rfl ⟨(Nat.le_of_ble_eq_true rfl), (Nat.le_of_ble_eq_true rfl), (Nat.le_of_ble_eq_true rfl), (Nat.le_of_ble_eq_true rfl)⟩ (Nat.le_of_ble_eq_true rfl) rfl (dcq dc_X4_inner_0 6 rfl) ?_
  rintro _ _ ⟨rfl, rfl⟩
  change J p l e (cRm 1 20 0 0) s m args below meth c G A 1 (JQ below G A (po_X4_inner G qm m0 m1 m2 m3 m4 m5 m6 m7 m8 m9 m10 m11 hc rf sp ha nw P M R n v g d) args s 0 0) 0 0 11 [(0, .ref qm)] [.int (nI (P / 2)), .int (nI 2), .int (nI n)] [oB 4 qm [.ref m0, .ref m1, .int (nI hc), .int (nI rf), .ref m2, .ref m3, .ref m4, .ref m5, .ref m6, .ref m7, .ref m8, .long sp, .ref m9, .ref m10, .ref m11, .long ha], aI G m0 220 nw]
  refine J_imul F (v := nI (2 * (P / 2))) (dcq dc_X4_inner_0 7 rfl) (pk_mul _ _) ?_
  refine J_isub F (v := nI (n - 2 * (P / 2))) (dcq dc_X4_inner_0 8 rfl) (pk_sub (by omega)) ?_
  exact J_iret F ⟨rfl, rfl⟩ (Nat.le_of_ble_eq_true rfl) (Nat.le_of_ble_eq_true rfl) (dcq dc_X4_inner_0 9 rfl)

abbrev po_X4_isSeason (G : Gt) (qm m0 m1 m2 m3 m4 m5 m6 m7 m8 m9 m10 m11 hc rf : Nat) (sp ha : Int64) (nw : Nat → Int32) (P M R n : Nat) (v g d : Nat → Int32) (x : Int32) : Option Value → va_W → Prop := fun (v9 : Option Value) (w9 : va_W) => (∃ (j : Nat), v9 = some (.int (nI 1)) ∧ w9 = [oB 4 qm [.ref m0, .ref m1, .int (nI hc), .int (nI rf), .ref m2, .ref m3, .ref m4, .ref m5, .ref m6, .ref m7, .ref m8, .long sp, .ref m9, .ref m10, .ref m11, .long ha], aI G m0 220 nw] ∧ (x = nI j) ∧ (j < P)) ∨ (v9 = some (.int (nI 0)) ∧ w9 = [oB 4 qm [.ref m0, .ref m1, .int (nI hc), .int (nI rf), .ref m2, .ref m3, .ref m4, .ref m5, .ref m6, .ref m7, .ref m8, .long sp, .ref m9, .ref m10, .ref m11, .long ha], aI G m0 220 nw] ∧ (∀ j, j < P → x ≠ nI j))
set_option maxHeartbeats 4000000 in
set_option maxRecDepth 100000 in
theorem c_X4_isSeason (l : Launch) (hl : l.stackTraces = false) (G : Gt) (qm m0 m1 m2 m3 m4 m5 m6 m7 m8 m9 m10 m11 hc rf : Nat) (sp ha : Int64) (nw : Nat → Int32) (P M R n : Nat) (v g d : Nat → Int32) (x : Int32) (hRM : RM nw P M R n v g d) (hP12 : P ≤ 12) (hP : 2 ≤ P) : Con l G yX4_isSeason cX4_isSeason 2 (some .boolean) 1 25 0 0 [.ref qm, .int x] [oB 4 qm [.ref m0, .ref m1, .int (nI hc), .int (nI rf), .ref m2, .ref m3, .ref m4, .ref m5, .ref m6, .ref m7, .ref m8, .long sp, .ref m9, .ref m10, .ref m11, .long ha], aI G m0 220 nw] (po_X4_isSeason G qm m0 m1 m2 m3 m4 m5 m6 m7 m8 m9 m10 m11 hc rf sp ha nw P M R n v g d x) := by
  refine Con.of hl cd_X4_isSeason (Nat.le_of_ble_eq_true rfl) ?_
  intro p e s m args below meth c A F hin9
  change Fx p l s m args meth c G A "SeasonalAdjusterModel" cX4_isSeason 2 (some .boolean) at F
  change J p l e (cRm 1 25 0 0) s m args below meth c G A 2 (JQ below G A (po_X4_isSeason G qm m0 m1 m2 m3 m4 m5 m6 m7 m8 m9 m10 m11 hc rf sp ha nw P M R n v g d x) args s 0 0) 0 0 0 [(0, .ref qm), (1, .int x)] [] [oB 4 qm [.ref m0, .ref m1, .int (nI hc), .int (nI rf), .ref m2, .ref m3, .ref m4, .ref m5, .ref m6, .ref m7, .ref m8, .long sp, .ref m9, .ref m10, .ref m11, .long ha], aI G m0 220 nw]
  refine J_iload_n F 1 (dcq dc_X4_isSeason_0 0 rfl) rfl rfl ?_
  refine J_i2l F (v := x.toInt64) (dcq dc_X4_isSeason_0 1 rfl) rfl ?_
  refine J_lconst F (dcq dc_X4_isSeason_0 2 rfl) lc_0 ?_
  refine J_aload_n F 0 (dcq dc_X4_isSeason_0 3 rfl) rfl rfl ?_
  refine J_get F fcX4 0 0 rfl (Nat.le_of_ble_eq_true rfl) tw_3_223 rfl rfl (dcq dc_X4_isSeason_0 4 rfl) ?_
  refine J_iconst F (dcq dc_X4_isSeason_0 5 rfl) ic_0 ?_
  refine J_iald F 1 rfl (by omega) (Nat.le_of_ble_eq_true rfl) (dcq dc_X4_isSeason_0 6 rfl) ?_
  refine J_cast rfl (st2 := [.int (nI P), .long 0, .long x.toInt64]) (by rw [hRM.1]) rfl ?_
  refine J_iconst F (dcq dc_X4_isSeason_0 7 rfl) ic_1 ?_
  refine J_isub F (v := (nI P) - (nI 1)) (dcq dc_X4_isSeason_0 8 rfl) rfl ?_
  refine J_i2l F (v := ((nI P) - (nI 1)).toInt64) (dcq dc_X4_isSeason_0 9 rfl) rfl ?_
  refine J_callS F (wc := []) (wr := [oB 4 qm [.ref m0, .ref m1, .int (nI hc), .int (nI rf), .ref m2, .ref m3, .ref m4, .ref m5, .ref m6, .ref m7, .ref m8, .long sp, .ref m9, .ref m10, .ref m11, .long ha], aI G m0 220 nw]) (rest := []) (c_X4_within l hl G x.toInt64 0 (((nI P) - (nI 1)).toInt64)) cd_X4_within tw_4_51 tw_4_50 [] [0, 1] rfl rfl rfl rfl (by decide) rfl ⟨(Nat.le_of_ble_eq_true rfl), (Nat.le_of_ble_eq_true rfl), (Nat.le_of_ble_eq_true rfl), (Nat.le_of_ble_eq_true rfl)⟩ (Nat.le_of_ble_eq_true rfl) rfl (dcq dc_X4_isSeason_0 10 rfl) ?_
  rintro _ _ h9x
  rcases h9x with ⟨rfl, rfl, hw_12⟩ | ⟨rfl, rfl, hw_12⟩
  · skip
    have hw_12 : 0 ≤ x.toInt64 ∧ x.toInt64 ≤ (((nI P) - (nI 1)).toInt64) := hw_12
    change J p l e (cRm 1 25 0 0) s m args below meth c G A 2 (JQ below G A (po_X4_isSeason G qm m0 m1 m2 m3 m4 m5 m6 m7 m8 m9 m10 m11 hc rf sp ha nw P M R n v g d x) args s 0 0) 0 0 15 [(0, .ref qm), (1, .int x)] [.int (nI 1)] [oB 4 qm [.ref m0, .ref m1, .int (nI hc), .int (nI rf), .ref m2, .ref m3, .ref m4, .ref m5, .ref m6, .ref m7, .ref m8, .long sp, .ref m9, .ref m10, .ref m11, .long ha], aI G m0 220 nw]
    obtain ⟨j9, ha9, hb9⟩ := ent_of (by omega) hw_12
    exact J_zret F (by decide) (Or.inl ⟨j9, rfl, rfl, ha9, hb9⟩) (Nat.le_of_ble_eq_true rfl) (Nat.le_of_ble_eq_true rfl) (dcq dc_X4_isSeason_0 11 rfl)
  · skip
    have hw_12 : ¬ (0 ≤ x.toInt64 ∧ x.toInt64 ≤ (((nI P) - (nI 1)).toInt64)) := hw_12
    change J p l e (cRm 1 25 0 0) s m args below meth c G A 2 (JQ below G A (po_X4_isSeason G qm m0 m1 m2 m3 m4 m5 m6 m7 m8 m9 m10 m11 hc rf sp ha nw P M R n v g d x) args s 0 0) 0 0 15 [(0, .ref qm), (1, .int x)] [.int (nI 0)] [oB 4 qm [.ref m0, .ref m1, .int (nI hc), .int (nI rf), .ref m2, .ref m3, .ref m4, .ref m5, .ref m6, .ref m7, .ref m8, .long sp, .ref m9, .ref m10, .ref m11, .long ha], aI G m0 220 nw]
    exact J_zret F (by decide) (Or.inr (⟨rfl, rfl, ent_no (by omega) hw_12⟩)) (Nat.le_of_ble_eq_true rfl) (Nat.le_of_ble_eq_true rfl) (dcq dc_X4_isSeason_0 11 rfl)
