theorem osum_no {w : Nat → Int32} {F : Nat → Nat} {P n t : Nat} (h : ¬ (P / 2 ≤ t ∧ t + P / 2 < n ∧ ¬ nI 100 ≤ w t)) : osum w F (P / 2) (min (t + 1) (n - P / 2) - P / 2) = osum w F (P / 2) (min t (n - P / 2) - P / 2) := by
  by_cases h1 : P / 2 ≤ t
  · by_cases h2 : t + P / 2 < n
    · rw [osum_cA h1 (by omega), if_pos (Decidable.by_contra fun z => h ⟨h1, h2, z⟩), Nat.add_zero]
    · exact osum_cB (Or.inr (by omega))
  · exact osum_cB (Or.inl (by omega))

theorem fh_gt {F : Nat → Int64} {u t : Nat} (h : F t < F u) : fhB F u t = true := by
  unfold fhB
  rw [if_neg (fun z => by rw [z] at h; exact Int64.lt_irrefl h)]
  exact decide_eq_true h
theorem fh_eq {F : Nat → Int64} {u t : Nat} (h : F u = F t) (h2 : u < t) : fhB F u t = true := by
  unfold fhB
  rw [if_pos h]
  exact decide_eq_true h2
theorem fh_no {F : Nat → Int64} {u t : Nat} (h : ¬ F t < F u) (h2 : F u = F t → ¬ u < t) : ¬ fhB F u t = true := by
  unfold fhB
  by_cases e : F u = F t
  · rw [if_pos e, decide_eq_true_eq]; exact h2 e
  · rw [if_neg e, decide_eq_true_eq]; exact h

abbrev po_X4_isOut (G : Gt) (qm m0 m1 m2 m3 m4 m5 m6 m7 m8 m9 m10 m11 hc rf : Nat) (sp ha : Int64) (nw : Nat → Int32) (P M R n : Nat) (v g d : Nat → Int32) (e6 : Nat → Int32) (w : Nat → Int32) (t : Nat) : Option Value → va_W → Prop := fun (v9 : Option Value) (w9 : va_W) => (v9 = some (.int (nI 1)) ∧ w9 = [oB 4 qm [.ref m0, .ref m1, .int (nI hc), .int (nI rf), .ref m2, .ref m3, .ref m4, .ref m5, .ref m6, .ref m7, .ref m8, .long sp, .ref m9, .ref m10, .ref m11, .long ha], aI G m0 220 nw, aI G m6 72 e6] ∧ (P / 2 ≤ t ∧ t + P / 2 < n ∧ ¬ nI 100 ≤ w t)) ∨ (v9 = some (.int (nI 0)) ∧ w9 = [oB 4 qm [.ref m0, .ref m1, .int (nI hc), .int (nI rf), .ref m2, .ref m3, .ref m4, .ref m5, .ref m6, .ref m7, .ref m8, .long sp, .ref m9, .ref m10, .ref m11, .long ha], aI G m0 220 nw, aI G m6 72 e6] ∧ (¬ (P / 2 ≤ t ∧ t + P / 2 < n ∧ ¬ nI 100 ≤ w t)))
set_option maxHeartbeats 4000000 in
set_option maxRecDepth 100000 in
theorem c_X4_isOut (l : Launch) (hl : l.stackTraces = false) (G : Gt) (qm m0 m1 m2 m3 m4 m5 m6 m7 m8 m9 m10 m11 hc rf : Nat) (sp ha : Int64) (nw : Nat → Int32) (P M R n : Nat) (v g d : Nat → Int32) (e6 : Nat → Int32) (w : Nat → Int32) (t : Nat) (hRM : RM nw P M R n v g d) (hn : n ≤ 72) (hP : 2 ≤ P) (hP12 : P ≤ 12) (hPn : P + 2 * (P / 2) ≤ n) (hw6 : ∀ t, P / 2 ≤ t → t + P / 2 < n → e6 t = w t) (ht : t < n) : Con l G yX4_isOut cX4_isOut 2 (some .boolean) 2 46 0 0 [.ref qm, .int (nI t)] [oB 4 qm [.ref m0, .ref m1, .int (nI hc), .int (nI rf), .ref m2, .ref m3, .ref m4, .ref m5, .ref m6, .ref m7, .ref m8, .long sp, .ref m9, .ref m10, .ref m11, .long ha], aI G m0 220 nw, aI G m6 72 e6] (po_X4_isOut G qm m0 m1 m2 m3 m4 m5 m6 m7 m8 m9 m10 m11 hc rf sp ha nw P M R n v g d e6 w t) := by
  refine Con.of hl cd_X4_isOut (Nat.le_of_ble_eq_true rfl) ?_
  intro p e s m args below meth c A F hin9
  change Fx p l s m args meth c G A "SeasonalAdjusterModel" cX4_isOut 2 (some .boolean) at F
  change J p l e (cRm 2 46 0 0) s m args below meth c G A 2 (JQ below G A (po_X4_isOut G qm m0 m1 m2 m3 m4 m5 m6 m7 m8 m9 m10 m11 hc rf sp ha nw P M R n v g d e6 w t) args s 0 0) 0 0 0 [(0, .ref qm), (1, .int (nI t))] [] [oB 4 qm [.ref m0, .ref m1, .int (nI hc), .int (nI rf), .ref m2, .ref m3, .ref m4, .ref m5, .ref m6, .ref m7, .ref m8, .long sp, .ref m9, .ref m10, .ref m11, .long ha], aI G m0 220 nw, aI G m6 72 e6]
  refine J_aload_n F 0 (dcq dc_X4_isOut_0 0 rfl) rfl rfl ?_
  refine J_iload_n F 1 (dcq dc_X4_isOut_0 1 rfl) rfl rfl ?_
  refine J_callV F (wc := [oB 4 qm [.ref m0, .ref m1, .int (nI hc), .int (nI rf), .ref m2, .ref m3, .ref m4, .ref m5, .ref m6, .ref m7, .ref m8, .long sp, .ref m9, .ref m10, .ref m11, .long ha], aI G m0 220 nw]) (wr := [aI G m6 72 e6]) (rest := []) (qc := 0) (c_X4_isInner l hl G qm m0 m1 m2 m3 m4 m5 m6 m7 m8 m9 m10 m11 hc rf sp ha nw P M R n v g d (nI t) (by first | assumption | omega) (by first | assumption | omega) (by first | assumption | omega) (by first | assumption | omega) (by first | assumption | omega)) cd_X4_isInner cv_X4_isInner rfl rfl rfl tw_4_185 [0, 1] [2] rfl rfl rfl rfl (by decide) rfl ⟨(Nat.le_of_ble_eq_true rfl), (Nat.le_of_ble_eq_true rfl), (Nat.le_of_ble_eq_true rfl), (Nat.le_of_ble_eq_true rfl)⟩ (Nat.le_of_ble_eq_true rfl) rfl (dcq dc_X4_isOut_0 2 rfl) ?_
  rintro _ _ h9x
  rcases h9x with ⟨j_2, rfl, rfl, hxj_2, hj1_2, hj2_2⟩ | ⟨rfl, rfl, hx_2⟩
  · skip
    have hxj_2 : (nI t) = nI j_2 := hxj_2
    have hj1_2 : P / 2 ≤ j_2 := hj1_2
    have hj2_2 : j_2 + P / 2 < n := hj2_2
    change J p l e (cRm 2 46 0 0) s m args below meth c G A 2 (JQ below G A (po_X4_isOut G qm m0 m1 m2 m3 m4 m5 m6 m7 m8 m9 m10 m11 hc rf sp ha nw P M R n v g d e6 w t) args s 0 0) 0 0 5 [(0, .ref qm), (1, .int (nI t))] [.int (nI 1)] [aI G m6 72 e6, oB 4 qm [.ref m0, .ref m1, .int (nI hc), .int (nI rf), .ref m2, .ref m3, .ref m4, .ref m5, .ref m6, .ref m7, .ref m8, .long sp, .ref m9, .ref m10, .ref m11, .long ha], aI G m0 220 nw]
    refine J_world (ws2 := [oB 4 qm [.ref m0, .ref m1, .int (nI hc), .int (nI rf), .ref m2, .ref m3, .ref m4, .ref m5, .ref m6, .ref m7, .ref m8, .long sp, .ref m9, .ref m10, .ref m11, .long ha], aI G m0 220 nw, aI G m6 72 e6]) [1, 2, 0] rfl rfl ?_
    have htj : t = j_2 := (nI_eq (by omega) (by omega)).mp hxj_2
    have ht1 : P / 2 ≤ t := by omega
    have ht2 : t + P / 2 < n := by omega
    refine J_if_eq F 23 (dcq dc_X4_isOut_0 3 rfl) (by decide) (fun h_1 => absurd h_1 (by decide)) (fun _ => ?_)
    refine J_aload_n F 0 (dcq dc_X4_isOut_0 4 rfl) rfl rfl ?_
    refine J_get F fcX4 0 8 rfl (Nat.le_of_ble_eq_true rfl) tw_3_231 rfl rfl (dcq dc_X4_isOut_0 5 rfl) ?_
    refine J_iload_n F 1 (dcq dc_X4_isOut_0 6 rfl) rfl rfl ?_
    refine J_iald F 2 rfl (by omega) (Nat.le_of_ble_eq_true rfl) (dcq dc_X4_isOut_0 7 rfl) ?_
    refine J_bipush F (dcq dc_X4_isOut_0 8 rfl) bc_100 ?_
    refine J_icmp_ge F 23 (dcq dc_X4_isOut_0 9 rfl) (by decide) (fun h_2 => ?_) (fun h_2 => ?_)
    · skip
      have hw9 := h_2
      refine J_iconst F (dcq dc_X4_isOut_0 12 rfl) ic_0 ?_
      exact J_zret F (by decide) (Or.inr (⟨rfl, rfl, by first | exact ⟨ht1, ht2, by rw [← hw6 t ht1 ht2]; exact hw9⟩ | exact fun z => z.2.2 (by rw [← hw6 t ht1 ht2]; exact hw9) | exact fun z => hx_2 t z.1 z.2.1 rfl⟩)) (Nat.le_of_ble_eq_true rfl) (Nat.le_of_ble_eq_true rfl) (dcq dc_X4_isOut_0 13 rfl)
    · skip
      have hw9 := h_2
      refine J_iconst F (dcq dc_X4_isOut_0 10 rfl) ic_1 ?_
      refine J_goto F 24 (dcq dc_X4_isOut_0 11 rfl) (by decide) ?_
      exact J_zret F (by decide) (Or.inl ⟨rfl, rfl, by first | exact ⟨ht1, ht2, by rw [← hw6 t ht1 ht2]; exact hw9⟩ | exact fun z => z.2.2 (by rw [← hw6 t ht1 ht2]; exact hw9) | exact fun z => hx_2 t z.1 z.2.1 rfl⟩) (Nat.le_of_ble_eq_true rfl) (Nat.le_of_ble_eq_true rfl) (dcq dc_X4_isOut_0 13 rfl)
  · skip
    have hx_2 : ∀ j, P / 2 ≤ j → j + P / 2 < n → (nI t) ≠ nI j := hx_2
    change J p l e (cRm 2 46 0 0) s m args below meth c G A 2 (JQ below G A (po_X4_isOut G qm m0 m1 m2 m3 m4 m5 m6 m7 m8 m9 m10 m11 hc rf sp ha nw P M R n v g d e6 w t) args s 0 0) 0 0 5 [(0, .ref qm), (1, .int (nI t))] [.int (nI 0)] [aI G m6 72 e6, oB 4 qm [.ref m0, .ref m1, .int (nI hc), .int (nI rf), .ref m2, .ref m3, .ref m4, .ref m5, .ref m6, .ref m7, .ref m8, .long sp, .ref m9, .ref m10, .ref m11, .long ha], aI G m0 220 nw]
    refine J_world (ws2 := [oB 4 qm [.ref m0, .ref m1, .int (nI hc), .int (nI rf), .ref m2, .ref m3, .ref m4, .ref m5, .ref m6, .ref m7, .ref m8, .long sp, .ref m9, .ref m10, .ref m11, .long ha], aI G m0 220 nw, aI G m6 72 e6]) [1, 2, 0] rfl rfl ?_
    refine J_if_eq F 23 (dcq dc_X4_isOut_0 3 rfl) (by decide) (fun _ => ?_) (fun h_3 => absurd h_3 (by decide))
    refine J_iconst F (dcq dc_X4_isOut_0 12 rfl) ic_0 ?_
    exact J_zret F (by decide) (Or.inr (⟨rfl, rfl, by first | exact ⟨ht1, ht2, by rw [← hw6 t ht1 ht2]; exact hw9⟩ | exact fun z => z.2.2 (by rw [← hw6 t ht1 ht2]; exact hw9) | exact fun z => hx_2 t z.1 z.2.1 rfl⟩)) (Nat.le_of_ble_eq_true rfl) (Nat.le_of_ble_eq_true rfl) (dcq dc_X4_isOut_0 13 rfl)

abbrev po_X4_outs (G : Gt) (qm m0 m1 m2 m3 m4 m5 m6 m7 m8 m9 m10 m11 hc rf : Nat) (sp ha : Int64) (nw : Nat → Int32) (P M R n : Nat) (v g d : Nat → Int32) (e6 : Nat → Int32) (w : Nat → Int32) : Option Value → va_W → Prop := fun (v9 : Option Value) (w9 : va_W) => ∃ (r : Nat), v9 = some (.int (nI r)) ∧ w9 = [oB 4 qm [.ref m0, .ref m1, .int (nI hc), .int (nI rf), .ref m2, .ref m3, .ref m4, .ref m5, .ref m6, .ref m7, .ref m8, .long sp, .ref m9, .ref m10, .ref m11, .long ha], aI G m0 220 nw, aI G m6 72 e6] ∧ (r = osum w (fun _ => 1) (P / 2) (n - 2 * (P / 2)))
set_option maxHeartbeats 4000000 in
set_option maxRecDepth 100000 in
theorem c_X4_outs (l : Launch) (hl : l.stackTraces = false) (G : Gt) (qm m0 m1 m2 m3 m4 m5 m6 m7 m8 m9 m10 m11 hc rf : Nat) (sp ha : Int64) (nw : Nat → Int32) (P M R n : Nat) (v g d : Nat → Int32) (e6 : Nat → Int32) (w : Nat → Int32) (hRM : RM nw P M R n v g d) (hn : n ≤ 72) (hP : 2 ≤ P) (hP12 : P ≤ 12) (hPn : P + 2 * (P / 2) ≤ n) (hw6 : ∀ t, P / 2 ≤ t → t + P / 2 < n → e6 t = w t) : Con l G yX4_outs cX4_outs 3 (some .int) 3 67 0 0 [.ref qm] [oB 4 qm [.ref m0, .ref m1, .int (nI hc), .int (nI rf), .ref m2, .ref m3, .ref m4, .ref m5, .ref m6, .ref m7, .ref m8, .long sp, .ref m9, .ref m10, .ref m11, .long ha], aI G m0 220 nw, aI G m6 72 e6] (po_X4_outs G qm m0 m1 m2 m3 m4 m5 m6 m7 m8 m9 m10 m11 hc rf sp ha nw P M R n v g d e6 w) := by
  refine Con.of hl cd_X4_outs (Nat.le_of_ble_eq_true rfl) ?_
  intro p e s m args below meth c A F hin9
  change Fx p l s m args meth c G A "SeasonalAdjusterModel" cX4_outs 3 (some .int) at F
  change J p l e (cRm 3 67 0 0) s m args below meth c G A 3 (JQ below G A (po_X4_outs G qm m0 m1 m2 m3 m4 m5 m6 m7 m8 m9 m10 m11 hc rf sp ha nw P M R n v g d e6 w) args s 0 0) 0 0 0 [(0, .ref qm)] [] [oB 4 qm [.ref m0, .ref m1, .int (nI hc), .int (nI rf), .ref m2, .ref m3, .ref m4, .ref m5, .ref m6, .ref m7, .ref m8, .long sp, .ref m9, .ref m10, .ref m11, .long ha], aI G m0 220 nw, aI G m6 72 e6]
  refine J_iconst F (dcq dc_X4_outs_0 0 rfl) ic_0 ?_
  refine J_istore_n F (lv2 := [(1, .int (nI 0)), (0, .ref qm)]) (dcq dc_X4_outs_0 1 rfl) rfl (Nat.le_of_ble_eq_true rfl) rfl ?_
  refine J_iconst F (dcq dc_X4_outs_0 2 rfl) ic_0 ?_
  refine J_istore_n F (lv2 := [(2, .int (nI 0)), (1, .int (nI 0)), (0, .ref qm)]) (dcq dc_X4_outs_0 3 rfl) rfl (Nat.le_of_ble_eq_true rfl) rfl ?_
  have L4 : ∀ (fu4 : Nat), ∀ (t k : Nat), (t ≤ n) → (k ≤ t) → (k = osum w (fun _ => 1) (P / 2) (min t (n - P / 2) - P / 2)) → n - t < fu4 → J p l e (cRm 3 67 0 0) s m args below meth c G A 3 (JQ below G A (po_X4_outs G qm m0 m1 m2 m3 m4 m5 m6 m7 m8 m9 m10 m11 hc rf sp ha nw P M R n v g d e6 w) args s 0 0) 0 0 4 [(0, .ref qm), (1, .int (nI k)), (2, .int (nI t))] [] [oB 4 qm [.ref m0, .ref m1, .int (nI hc), .int (nI rf), .ref m2, .ref m3, .ref m4, .ref m5, .ref m6, .ref m7, .ref m8, .long sp, .ref m9, .ref m10, .ref m11, .long ha], aI G m0 220 nw, aI G m6 72 e6] := by
    intro fu4
    induction fu4 with
    | zero => intro t k ht hkt hk hm4; exact absurd hm4 (Nat.not_lt_zero _)
    | succ fu4 ih4 =>
      intro t k ht hkt hk hm4
      refine J_iload_n F 2 (dcq dc_X4_outs_0 4 rfl) rfl rfl ?_
      refine J_aload_n F 0 (dcq dc_X4_outs_0 5 rfl) rfl rfl ?_
      refine J_get F fcX4 0 0 rfl (Nat.le_of_ble_eq_true rfl) tw_3_223 rfl rfl (dcq dc_X4_outs_0 6 rfl) ?_
      refine J_iconst F (dcq dc_X4_outs_0 7 rfl) ic_3 ?_
      refine J_iald F 1 rfl (by omega) (Nat.le_of_ble_eq_true rfl) (dcq dc_X4_outs_0 8 rfl) ?_
      refine J_cast rfl (st2 := [.int (nI n), .int (nI t)]) (by rw [hRM.2.2.2.1]) rfl ?_
      refine J_ncmp_ge F 36 (by omega) (by omega) (dcq dc_X4_outs_0 9 rfl) (by decide) (fun h_1 => ?_) (fun h_1 => ?_)
      · skip
        refine J_iload_n F 1 (dcq dc_X4_outs_0 22 rfl) rfl rfl ?_
        exact J_iret F ⟨k, rfl, rfl, by rw [hk, show min t (n - P / 2) - P / 2 = n - 2 * (P / 2) by omega]⟩ (Nat.le_of_ble_eq_true rfl) (Nat.le_of_ble_eq_true rfl) (dcq dc_X4_outs_0 23 rfl)
      · skip
        refine J_iload_n F 1 (dcq dc_X4_outs_0 10 rfl) rfl rfl ?_
        refine J_aload_n F 0 (dcq dc_X4_outs_0 11 rfl) rfl rfl ?_
        refine J_iload_n F 2 (dcq dc_X4_outs_0 12 rfl) rfl rfl ?_
        refine J_callV F (wc := [oB 4 qm [.ref m0, .ref m1, .int (nI hc), .int (nI rf), .ref m2, .ref m3, .ref m4, .ref m5, .ref m6, .ref m7, .ref m8, .long sp, .ref m9, .ref m10, .ref m11, .long ha], aI G m0 220 nw, aI G m6 72 e6]) (wr := []) (rest := [.int (nI k)]) (qc := 0) (c_X4_isOut l hl G qm m0 m1 m2 m3 m4 m5 m6 m7 m8 m9 m10 m11 hc rf sp ha nw P M R n v g d e6 w t (by first | assumption | omega) (by first | assumption | omega) (by first | assumption | omega) (by first | assumption | omega) (by first | assumption | omega) (by first | assumption | omega) (by first | assumption | omega)) cd_X4_isOut cv_X4_isOut rfl rfl rfl tw_5_19 [0, 1, 2] [] rfl rfl rfl rfl (by decide) rfl ⟨(Nat.le_of_ble_eq_true rfl), (Nat.le_of_ble_eq_true rfl), (Nat.le_of_ble_eq_true rfl), (Nat.le_of_ble_eq_true rfl)⟩ (Nat.le_of_ble_eq_true rfl) rfl (dcq dc_X4_outs_0 13 rfl) ?_
        rintro _ _ h9x
        rcases h9x with ⟨rfl, rfl, ho_17⟩ | ⟨rfl, rfl, ho_17⟩
        · skip
          have ho_17 : P / 2 ≤ t ∧ t + P / 2 < n ∧ ¬ nI 100 ≤ w t := ho_17
          change J p l e (cRm 3 67 0 0) s m args below meth c G A 3 (JQ below G A (po_X4_outs G qm m0 m1 m2 m3 m4 m5 m6 m7 m8 m9 m10 m11 hc rf sp ha nw P M R n v g d e6 w) args s 0 0) 0 0 20 [(0, .ref qm), (1, .int (nI k)), (2, .int (nI t))] [.int (nI 1), .int (nI k)] [oB 4 qm [.ref m0, .ref m1, .int (nI hc), .int (nI rf), .ref m2, .ref m3, .ref m4, .ref m5, .ref m6, .ref m7, .ref m8, .long sp, .ref m9, .ref m10, .ref m11, .long ha], aI G m0 220 nw, aI G m6 72 e6]
          refine J_if_eq F 27 (dcq dc_X4_outs_0 14 rfl) (by decide) (fun h_2 => absurd h_2 (by decide)) (fun _ => ?_)
          refine J_iconst F (dcq dc_X4_outs_0 15 rfl) ic_1 ?_
          refine J_goto F 28 (dcq dc_X4_outs_0 16 rfl) (by decide) ?_
          refine J_iadd F (v := nI (k + 1)) (dcq dc_X4_outs_0 18 rfl) (nI_add _ _) ?_
          refine J_istore_n F (lv2 := [(1, .int (nI (k + 1))), (0, .ref qm), (2, .int (nI t))]) (dcq dc_X4_outs_0 19 rfl) rfl (Nat.le_of_ble_eq_true rfl) rfl ?_
          refine J_iinc F (lv2 := [(2, .int (nI (t + 1))), (1, .int (nI (k + 1))), (0, .ref qm)]) (v := nI (t + 1)) 2 (dcq dc_X4_outs_0 20 rfl) rfl (nI_inc _) (Nat.le_of_ble_eq_true rfl) rfl ?_
          refine J_goto F 4 (dcq dc_X4_outs_0 21 rfl) (by decide) ?_
          refine J_locs [2, 1, 0] rfl ?_
          exact ih4 (t + 1) (k + 1) (by omega) (by omega) (by rw [osum_cA ho_17.1 (by omega), if_neg ho_17.2.2, hk]) (by omega)
        · skip
          have ho_17 : ¬ (P / 2 ≤ t ∧ t + P / 2 < n ∧ ¬ nI 100 ≤ w t) := ho_17
          change J p l e (cRm 3 67 0 0) s m args below meth c G A 3 (JQ below G A (po_X4_outs G qm m0 m1 m2 m3 m4 m5 m6 m7 m8 m9 m10 m11 hc rf sp ha nw P M R n v g d e6 w) args s 0 0) 0 0 20 [(0, .ref qm), (1, .int (nI k)), (2, .int (nI t))] [.int (nI 0), .int (nI k)] [oB 4 qm [.ref m0, .ref m1, .int (nI hc), .int (nI rf), .ref m2, .ref m3, .ref m4, .ref m5, .ref m6, .ref m7, .ref m8, .long sp, .ref m9, .ref m10, .ref m11, .long ha], aI G m0 220 nw, aI G m6 72 e6]
          refine J_if_eq F 27 (dcq dc_X4_outs_0 14 rfl) (by decide) (fun _ => ?_) (fun h_3 => absurd h_3 (by decide))
          refine J_iconst F (dcq dc_X4_outs_0 17 rfl) ic_0 ?_
          refine J_iadd F (v := nI (k + 0)) (dcq dc_X4_outs_0 18 rfl) (nI_add _ _) ?_
          refine J_istore_n F (lv2 := [(1, .int (nI (k + 0))), (0, .ref qm), (2, .int (nI t))]) (dcq dc_X4_outs_0 19 rfl) rfl (Nat.le_of_ble_eq_true rfl) rfl ?_
          refine J_iinc F (lv2 := [(2, .int (nI (t + 1))), (1, .int (nI (k + 0))), (0, .ref qm)]) (v := nI (t + 1)) 2 (dcq dc_X4_outs_0 20 rfl) rfl (nI_inc _) (Nat.le_of_ble_eq_true rfl) rfl ?_
          refine J_goto F 4 (dcq dc_X4_outs_0 21 rfl) (by decide) ?_
          refine J_locs [2, 1, 0] rfl ?_
          exact ih4 (t + 1) (k + 0) (by omega) (by omega) (by rw [osum_no ho_17]; exact hk) (by omega)
  refine J_locs [2, 1, 0] rfl ?_
  exact L4 (n - 0 + 1) 0 0 (by omega) (by omega) (by rw [show min 0 (n - P / 2) - P / 2 = 0 by omega]; rfl) (Nat.lt_succ_self _)

abbrev po_X4_outlierCount (G : Gt) (qm m0 m1 m2 m3 m4 m5 m6 m7 m8 m9 m10 m11 hc rf : Nat) (sp ha : Int64) (nw : Nat → Int32) (P M R n : Nat) (v g d : Nat → Int32) (s3 : Nat → Int64) (e4 : Nat → Int64) (e5 : Nat → Int64) (e7 : Nat → Int64) (e8 : Nat → Int64) (e9 : Nat → Int64) (e10 : Nat → Int64) (e11 : Nat → Int64) (e6 : Nat → Int32) : Option Value → va_W → Prop := fun (v9 : Option Value) (w9 : va_W) => (∃ (sp2 : Int64), ∃ (k3 k4 k5 : Nat → Int64), ∃ (k6 : Nat → Int32), ∃ (k7 k8 k9 k10 k11 : Nat → Int64), ∃ (r : Nat), v9 = some (.int (nI r)) ∧ w9 = [oB 4 qm [.ref m0, .ref m1, .int (nI hc), .int (nI 0), .ref m2, .ref m3, .ref m4, .ref m5, .ref m6, .ref m7, .ref m8, .long sp2, .ref m9, .ref m10, .ref m11, .long ha], aI G m0 220 nw, aJ G m3 73 k3, aJ G m4 72 k4, aJ G m5 72 k5, aI G m6 72 k6, aJ G m7 72 k7, aJ G m8 12 k8, aJ G m9 72 k9, aJ G m10 72 k10, aJ G m11 72 k11] ∧ (dcm P n g) ∧ (MPT P M R n v sp2 k4 k5 k6 k7 k8 k9 k10 k11) ∧ (r = osum (wR P M R n v) (fun _ => 1) (P / 2) (n - 2 * (P / 2)))) ∨ (v9 = some (.int (nI 0)) ∧ w9 = [oB 4 qm [.ref m0, .ref m1, .int (nI hc), .int (nI 1), .ref m2, .ref m3, .ref m4, .ref m5, .ref m6, .ref m7, .ref m8, .long sp, .ref m9, .ref m10, .ref m11, .long ha], aI G m0 220 nw, aJ G m3 73 s3, aJ G m4 72 e4, aJ G m5 72 e5, aI G m6 72 e6, aJ G m7 72 e7, aJ G m8 12 e8, aJ G m9 72 e9, aJ G m10 72 e10, aJ G m11 72 e11] ∧ (¬ dcm P n g))
set_option maxHeartbeats 4000000 in
set_option maxRecDepth 100000 in
theorem c_X4_outlierCount (l : Launch) (hl : l.stackTraces = false) (G : Gt) (qm m0 m1 m2 m3 m4 m5 m6 m7 m8 m9 m10 m11 hc rf : Nat) (sp ha : Int64) (nw : Nat → Int32) (P M R n : Nat) (v g d : Nat → Int32) (s3 : Nat → Int64) (e4 : Nat → Int64) (e5 : Nat → Int64) (e7 : Nat → Int64) (e8 : Nat → Int64) (e9 : Nat → Int64) (e10 : Nat → Int64) (e11 : Nat → Int64) (e6 : Nat → Int32) (hRM : RM nw P M R n v g d) (hn : n ≤ 72) (h01 : G01 n g) (hP : 2 ≤ P) (hP12 : P ≤ 12) (hM : M ≤ 1) (hR : R ≤ 5) (hgv : GVg M n v g) : Con l G yX4_outlierCount cX4_outlierCount 1 (some .int) 5 107 0 0 [.ref qm] [oB 4 qm [.ref m0, .ref m1, .int (nI hc), .int (nI rf), .ref m2, .ref m3, .ref m4, .ref m5, .ref m6, .ref m7, .ref m8, .long sp, .ref m9, .ref m10, .ref m11, .long ha], aI G m0 220 nw, aJ G m3 73 s3, aJ G m4 72 e4, aJ G m5 72 e5, aI G m6 72 e6, aJ G m7 72 e7, aJ G m8 12 e8, aJ G m9 72 e9, aJ G m10 72 e10, aJ G m11 72 e11] (po_X4_outlierCount G qm m0 m1 m2 m3 m4 m5 m6 m7 m8 m9 m10 m11 hc rf sp ha nw P M R n v g d s3 e4 e5 e7 e8 e9 e10 e11 e6) := by
  refine Con.of hl cd_X4_outlierCount (Nat.le_of_ble_eq_true rfl) ?_
  intro p e s m args below meth c A F hin9
  change Fx p l s m args meth c G A "SeasonalAdjusterModel" cX4_outlierCount 1 (some .int) at F
  change J p l e (cRm 5 107 0 0) s m args below meth c G A 1 (JQ below G A (po_X4_outlierCount G qm m0 m1 m2 m3 m4 m5 m6 m7 m8 m9 m10 m11 hc rf sp ha nw P M R n v g d s3 e4 e5 e7 e8 e9 e10 e11 e6) args s 0 0) 0 0 0 [(0, .ref qm)] [] [oB 4 qm [.ref m0, .ref m1, .int (nI hc), .int (nI rf), .ref m2, .ref m3, .ref m4, .ref m5, .ref m6, .ref m7, .ref m8, .long sp, .ref m9, .ref m10, .ref m11, .long ha], aI G m0 220 nw, aJ G m3 73 s3, aJ G m4 72 e4, aJ G m5 72 e5, aI G m6 72 e6, aJ G m7 72 e7, aJ G m8 12 e8, aJ G m9 72 e9, aJ G m10 72 e10, aJ G m11 72 e11]
  refine J_aload_n F 0 (dcq dc_X4_outlierCount_0 0 rfl) rfl rfl ?_
  refine J_aload_n F 0 (dcq dc_X4_outlierCount_0 1 rfl) rfl rfl ?_
  refine J_callV F (wc := [oB 4 qm [.ref m0, .ref m1, .int (nI hc), .int (nI rf), .ref m2, .ref m3, .ref m4, .ref m5, .ref m6, .ref m7, .ref m8, .long sp, .ref m9, .ref m10, .ref m11, .long ha], aI G m0 220 nw, aJ G m3 73 s3, aJ G m4 72 e4, aJ G m5 72 e5, aI G m6 72 e6, aJ G m7 72 e7, aJ G m8 12 e8, aJ G m9 72 e9, aJ G m10 72 e10, aJ G m11 72 e11]) (wr := []) (rest := [.ref qm]) (qc := 0) (c_X4_decomposes l hl G qm m0 m1 m2 m3 m4 m5 m6 m7 m8 m9 m10 m11 hc rf sp ha nw P M R n v g d s3 e4 e5 e7 e8 e9 e10 e11 e6 (by first | assumption | omega) (by first | assumption | omega) (by first | assumption | omega) (by first | assumption | omega) (by first | assumption | omega) (by first | assumption | omega) (by first | assumption | omega) (by first | assumption | omega)) cd_X4_decomposes cv_X4_decomposes rfl rfl rfl tw_4_172 [0, 1, 2, 3, 4, 5, 6, 7, 8, 9, 10] [] rfl rfl rfl rfl (by decide) rfl ⟨(Nat.le_of_ble_eq_true rfl), (Nat.le_of_ble_eq_true rfl), (Nat.le_of_ble_eq_true rfl), (Nat.le_of_ble_eq_true rfl)⟩ (Nat.le_of_ble_eq_true rfl) rfl (dcq dc_X4_outlierCount_0 2 rfl) ?_
  rintro _ _ h9x
  rcases h9x with ⟨sp2, k3, k4, k5, k6, k7, k8, k9, k10, k11, rfl, rfl, hd, hmp⟩ | ⟨rfl, rfl, hnd⟩
  · skip
    have hd : dcm P n g := hd
    have hmp : MPT P M R n v sp2 k4 k5 k6 k7 k8 k9 k10 k11 := hmp
    change J p l e (cRm 5 107 0 0) s m args below meth c G A 1 (JQ below G A (po_X4_outlierCount G qm m0 m1 m2 m3 m4 m5 m6 m7 m8 m9 m10 m11 hc rf sp ha nw P M R n v g d s3 e4 e5 e7 e8 e9 e10 e11 e6) args s 0 0) 0 0 5 [(0, .ref qm)] [.int (nI 1), .ref qm] [oB 4 qm [.ref m0, .ref m1, .int (nI hc), .int (nI rf), .ref m2, .ref m3, .ref m4, .ref m5, .ref m6, .ref m7, .ref m8, .long sp2, .ref m9, .ref m10, .ref m11, .long ha], aI G m0 220 nw, aJ G m3 73 k3, aJ G m4 72 k4, aJ G m5 72 k5, aI G m6 72 k6, aJ G m7 72 k7, aJ G m8 12 k8, aJ G m9 72 k9, aJ G m10 72 k10, aJ G m11 72 k11]
    obtain ⟨q4, q5, q6, q7, q8, q9, q10, q11, qsp⟩ := id hmp
    have hdu := hd
    unfold dcm at hdu
    obtain ⟨h5n, hPn, hcg⟩ := hdu
    refine J_if_eq F 12 (dcq dc_X4_outlierCount_0 3 rfl) (by decide) (fun h_1 => absurd h_1 (by decide)) (fun _ => ?_)
    refine J_iconst F (dcq dc_X4_outlierCount_0 4 rfl) ic_0 ?_
    refine J_goto F 13 (dcq dc_X4_outlierCount_0 5 rfl) (by decide) ?_
    refine J_callV F (wc := [oB 4 qm [.ref m0, .ref m1, .int (nI hc), .int (nI rf), .ref m2, .ref m3, .ref m4, .ref m5, .ref m6, .ref m7, .ref m8, .long sp2, .ref m9, .ref m10, .ref m11, .long ha]]) (wr := [aI G m0 220 nw, aJ G m3 73 k3, aJ G m4 72 k4, aJ G m5 72 k5, aI G m6 72 k6, aJ G m7 72 k7, aJ G m8 12 k8, aJ G m9 72 k9, aJ G m10 72 k10, aJ G m11 72 k11]) (rest := []) (qc := 0) (c_X4_refused_0 l hl G qm m0 m1 m2 m3 m4 m5 m6 m7 m8 m9 m10 m11 hc rf sp2 ha) cd_X4_refused cv_X4_refused rfl rfl rfl tw_4_40 [0] [1, 2, 3, 4, 5, 6, 7, 8, 9, 10] rfl rfl rfl rfl (by decide) rfl ⟨(Nat.le_of_ble_eq_true rfl), (Nat.le_of_ble_eq_true rfl), (Nat.le_of_ble_eq_true rfl), (Nat.le_of_ble_eq_true rfl)⟩ (Nat.le_of_ble_eq_true rfl) rfl (dcq dc_X4_outlierCount_0 7 rfl) ?_
    rintro _ _ ⟨rfl, rfl⟩
    change J p l e (cRm 5 107 0 0) s m args below meth c G A 1 (JQ below G A (po_X4_outlierCount G qm m0 m1 m2 m3 m4 m5 m6 m7 m8 m9 m10 m11 hc rf sp ha nw P M R n v g d s3 e4 e5 e7 e8 e9 e10 e11 e6) args s 0 0) 0 0 16 [(0, .ref qm)] [.int (nI 0)] [aI G m0 220 nw, aJ G m3 73 k3, aJ G m4 72 k4, aJ G m5 72 k5, aI G m6 72 k6, aJ G m7 72 k7, aJ G m8 12 k8, aJ G m9 72 k9, aJ G m10 72 k10, aJ G m11 72 k11, oB 4 qm [.ref m0, .ref m1, .int (nI hc), .int (nI 0), .ref m2, .ref m3, .ref m4, .ref m5, .ref m6, .ref m7, .ref m8, .long sp2, .ref m9, .ref m10, .ref m11, .long ha]]
    refine J_world (ws2 := [oB 4 qm [.ref m0, .ref m1, .int (nI hc), .int (nI 0), .ref m2, .ref m3, .ref m4, .ref m5, .ref m6, .ref m7, .ref m8, .long sp2, .ref m9, .ref m10, .ref m11, .long ha], aI G m0 220 nw, aJ G m3 73 k3, aJ G m4 72 k4, aJ G m5 72 k5, aI G m6 72 k6, aJ G m7 72 k7, aJ G m8 12 k8, aJ G m9 72 k9, aJ G m10 72 k10, aJ G m11 72 k11]) [10, 0, 1, 2, 3, 4, 5, 6, 7, 8, 9] rfl rfl ?_
    refine J_if_eq F 23 (dcq dc_X4_outlierCount_0 8 rfl) (by decide) (fun _ => ?_) (fun h_2 => absurd h_2 (by decide))
    refine J_aload_n F 0 (dcq dc_X4_outlierCount_0 11 rfl) rfl rfl ?_
    refine J_callV F (wc := [oB 4 qm [.ref m0, .ref m1, .int (nI hc), .int (nI 0), .ref m2, .ref m3, .ref m4, .ref m5, .ref m6, .ref m7, .ref m8, .long sp2, .ref m9, .ref m10, .ref m11, .long ha], aI G m0 220 nw, aI G m6 72 k6]) (wr := [aJ G m3 73 k3, aJ G m4 72 k4, aJ G m5 72 k5, aJ G m7 72 k7, aJ G m8 12 k8, aJ G m9 72 k9, aJ G m10 72 k10, aJ G m11 72 k11]) (rest := []) (qc := 0) (c_X4_outs l hl G qm m0 m1 m2 m3 m4 m5 m6 m7 m8 m9 m10 m11 hc 0 sp2 ha nw P M R n v g d k6 (wR P M R n v) (by first | assumption | omega) (by first | assumption | omega) (by first | assumption | omega) (by first | assumption | omega) (by first | assumption | omega) (q6)) cd_X4_outs cv_X4_outs rfl rfl rfl tw_5_15 [0, 1, 5] [2, 3, 4, 6, 7, 8, 9, 10] rfl rfl rfl rfl (by decide) rfl ⟨(Nat.le_of_ble_eq_true rfl), (Nat.le_of_ble_eq_true rfl), (Nat.le_of_ble_eq_true rfl), (Nat.le_of_ble_eq_true rfl)⟩ (Nat.le_of_ble_eq_true rfl) rfl (dcq dc_X4_outlierCount_0 12 rfl) ?_
    rintro _ _ ⟨ro, rfl, rfl, hro⟩
    change J p l e (cRm 5 107 0 0) s m args below meth c G A 1 (JQ below G A (po_X4_outlierCount G qm m0 m1 m2 m3 m4 m5 m6 m7 m8 m9 m10 m11 hc rf sp ha nw P M R n v g d s3 e4 e5 e7 e8 e9 e10 e11 e6) args s 0 0) 0 0 27 [(0, .ref qm)] [.int (nI ro)] [aJ G m3 73 k3, aJ G m4 72 k4, aJ G m5 72 k5, aJ G m7 72 k7, aJ G m8 12 k8, aJ G m9 72 k9, aJ G m10 72 k10, aJ G m11 72 k11, oB 4 qm [.ref m0, .ref m1, .int (nI hc), .int (nI 0), .ref m2, .ref m3, .ref m4, .ref m5, .ref m6, .ref m7, .ref m8, .long sp2, .ref m9, .ref m10, .ref m11, .long ha], aI G m0 220 nw, aI G m6 72 k6]
    have hro : ro = osum (wR P M R n v) (fun _ => 1) (P / 2) (n - 2 * (P / 2)) := hro
    refine J_world (ws2 := [oB 4 qm [.ref m0, .ref m1, .int (nI hc), .int (nI 0), .ref m2, .ref m3, .ref m4, .ref m5, .ref m6, .ref m7, .ref m8, .long sp2, .ref m9, .ref m10, .ref m11, .long ha], aI G m0 220 nw, aJ G m3 73 k3, aJ G m4 72 k4, aJ G m5 72 k5, aI G m6 72 k6, aJ G m7 72 k7, aJ G m8 12 k8, aJ G m9 72 k9, aJ G m10 72 k10, aJ G m11 72 k11]) [8, 9, 0, 1, 2, 10, 3, 4, 5, 6, 7] rfl rfl ?_
    exact J_iret F (Or.inl ⟨sp2, k3, k4, k5, k6, k7, k8, k9, k10, k11, ro, rfl, rfl, hd, hmp, hro⟩) (Nat.le_of_ble_eq_true rfl) (Nat.le_of_ble_eq_true rfl) (dcq dc_X4_outlierCount_0 13 rfl)
  · skip
    have hnd : ¬ dcm P n g := hnd
    change J p l e (cRm 5 107 0 0) s m args below meth c G A 1 (JQ below G A (po_X4_outlierCount G qm m0 m1 m2 m3 m4 m5 m6 m7 m8 m9 m10 m11 hc rf sp ha nw P M R n v g d s3 e4 e5 e7 e8 e9 e10 e11 e6) args s 0 0) 0 0 5 [(0, .ref qm)] [.int (nI 0), .ref qm] [oB 4 qm [.ref m0, .ref m1, .int (nI hc), .int (nI rf), .ref m2, .ref m3, .ref m4, .ref m5, .ref m6, .ref m7, .ref m8, .long sp, .ref m9, .ref m10, .ref m11, .long ha], aI G m0 220 nw, aJ G m3 73 s3, aJ G m4 72 e4, aJ G m5 72 e5, aI G m6 72 e6, aJ G m7 72 e7, aJ G m8 12 e8, aJ G m9 72 e9, aJ G m10 72 e10, aJ G m11 72 e11]
    refine J_if_eq F 12 (dcq dc_X4_outlierCount_0 3 rfl) (by decide) (fun _ => ?_) (fun h_3 => absurd h_3 (by decide))
    refine J_iconst F (dcq dc_X4_outlierCount_0 6 rfl) ic_1 ?_
    refine J_callV F (wc := [oB 4 qm [.ref m0, .ref m1, .int (nI hc), .int (nI rf), .ref m2, .ref m3, .ref m4, .ref m5, .ref m6, .ref m7, .ref m8, .long sp, .ref m9, .ref m10, .ref m11, .long ha]]) (wr := [aI G m0 220 nw, aJ G m3 73 s3, aJ G m4 72 e4, aJ G m5 72 e5, aI G m6 72 e6, aJ G m7 72 e7, aJ G m8 12 e8, aJ G m9 72 e9, aJ G m10 72 e10, aJ G m11 72 e11]) (rest := []) (qc := 0) (c_X4_refused_1 l hl G qm m0 m1 m2 m3 m4 m5 m6 m7 m8 m9 m10 m11 hc rf sp ha) cd_X4_refused cv_X4_refused rfl rfl rfl tw_4_40 [0] [1, 2, 3, 4, 5, 6, 7, 8, 9, 10] rfl rfl rfl rfl (by decide) rfl ⟨(Nat.le_of_ble_eq_true rfl), (Nat.le_of_ble_eq_true rfl), (Nat.le_of_ble_eq_true rfl), (Nat.le_of_ble_eq_true rfl)⟩ (Nat.le_of_ble_eq_true rfl) rfl (dcq dc_X4_outlierCount_0 7 rfl) ?_
    rintro _ _ ⟨rfl, rfl⟩
    change J p l e (cRm 5 107 0 0) s m args below meth c G A 1 (JQ below G A (po_X4_outlierCount G qm m0 m1 m2 m3 m4 m5 m6 m7 m8 m9 m10 m11 hc rf sp ha nw P M R n v g d s3 e4 e5 e7 e8 e9 e10 e11 e6) args s 0 0) 0 0 16 [(0, .ref qm)] [.int (nI 1)] [aI G m0 220 nw, aJ G m3 73 s3, aJ G m4 72 e4, aJ G m5 72 e5, aI G m6 72 e6, aJ G m7 72 e7, aJ G m8 12 e8, aJ G m9 72 e9, aJ G m10 72 e10, aJ G m11 72 e11, oB 4 qm [.ref m0, .ref m1, .int (nI hc), .int (nI 1), .ref m2, .ref m3, .ref m4, .ref m5, .ref m6, .ref m7, .ref m8, .long sp, .ref m9, .ref m10, .ref m11, .long ha]]
    refine J_world (ws2 := [oB 4 qm [.ref m0, .ref m1, .int (nI hc), .int (nI 1), .ref m2, .ref m3, .ref m4, .ref m5, .ref m6, .ref m7, .ref m8, .long sp, .ref m9, .ref m10, .ref m11, .long ha], aI G m0 220 nw, aJ G m3 73 s3, aJ G m4 72 e4, aJ G m5 72 e5, aI G m6 72 e6, aJ G m7 72 e7, aJ G m8 12 e8, aJ G m9 72 e9, aJ G m10 72 e10, aJ G m11 72 e11]) [10, 0, 1, 2, 3, 4, 5, 6, 7, 8, 9] rfl rfl ?_
    refine J_if_eq F 23 (dcq dc_X4_outlierCount_0 8 rfl) (by decide) (fun h_4 => absurd h_4 (by decide)) (fun _ => ?_)
    refine J_iconst F (dcq dc_X4_outlierCount_0 9 rfl) ic_0 ?_
    refine J_goto F 27 (dcq dc_X4_outlierCount_0 10 rfl) (by decide) ?_
    exact J_iret F (Or.inr (⟨rfl, rfl, hnd⟩)) (Nat.le_of_ble_eq_true rfl) (Nat.le_of_ble_eq_true rfl) (dcq dc_X4_outlierCount_0 13 rfl)

abbrev po_X4_isAhead (G : Gt) (qm m0 m1 m2 m3 m4 m5 m6 m7 m8 m9 m10 m11 hc rf : Nat) (sp ha : Int64) (nw : Nat → Int32) (P M R n : Nat) (v g d : Nat → Int32) (e7 : Nat → Int64) (ds : Nat → Int64) (e6 : Nat → Int32) (w : Nat → Int32) (t u : Nat) : Option Value → va_W → Prop := fun (v9 : Option Value) (w9 : va_W) => (v9 = some (.int (nI 1)) ∧ w9 = [oB 4 qm [.ref m0, .ref m1, .int (nI hc), .int (nI rf), .ref m2, .ref m3, .ref m4, .ref m5, .ref m6, .ref m7, .ref m8, .long sp, .ref m9, .ref m10, .ref m11, .long ha], aI G m6 72 e6, aJ G m7 72 e7] ∧ (ahB w ds t u = true)) ∨ (v9 = some (.int (nI 0)) ∧ w9 = [oB 4 qm [.ref m0, .ref m1, .int (nI hc), .int (nI rf), .ref m2, .ref m3, .ref m4, .ref m5, .ref m6, .ref m7, .ref m8, .long sp, .ref m9, .ref m10, .ref m11, .long ha], aI G m6 72 e6, aJ G m7 72 e7] ∧ (ahB w ds t u = false))
set_option maxHeartbeats 4000000 in
set_option maxRecDepth 100000 in
theorem c_X4_isAhead (l : Launch) (hl : l.stackTraces = false) (G : Gt) (qm m0 m1 m2 m3 m4 m5 m6 m7 m8 m9 m10 m11 hc rf : Nat) (sp ha : Int64) (nw : Nat → Int32) (P M R n : Nat) (v g d : Nat → Int32) (e7 : Nat → Int64) (ds : Nat → Int64) (e6 : Nat → Int32) (w : Nat → Int32) (t u : Nat) (hn : n ≤ 72) (hw6 : ∀ t, P / 2 ≤ t → t + P / 2 < n → e6 t = w t) (he7 : ∀ t, P / 2 ≤ t → t + P / 2 < n → absL (e7 t) = ds t) (ht1 : P / 2 ≤ t) (ht2 : t + P / 2 < n) (hu1 : P / 2 ≤ u) (hu2 : u + P / 2 < n) : Con l G yX4_isAhead cX4_isAhead 7 (some .boolean) 1 21 0 0 [.ref qm, .int (nI t), .int (nI u)] [oB 4 qm [.ref m0, .ref m1, .int (nI hc), .int (nI rf), .ref m2, .ref m3, .ref m4, .ref m5, .ref m6, .ref m7, .ref m8, .long sp, .ref m9, .ref m10, .ref m11, .long ha], aI G m6 72 e6, aJ G m7 72 e7] (po_X4_isAhead G qm m0 m1 m2 m3 m4 m5 m6 m7 m8 m9 m10 m11 hc rf sp ha nw P M R n v g d e7 ds e6 w t u) := by
  refine Con.of hl cd_X4_isAhead (Nat.le_of_ble_eq_true rfl) ?_
  intro p e s m args below meth c A F hin9
  change Fx p l s m args meth c G A "SeasonalAdjusterModel" cX4_isAhead 7 (some .boolean) at F
  change J p l e (cRm 1 21 0 0) s m args below meth c G A 7 (JQ below G A (po_X4_isAhead G qm m0 m1 m2 m3 m4 m5 m6 m7 m8 m9 m10 m11 hc rf sp ha nw P M R n v g d e7 ds e6 w t u) args s 0 0) 0 0 0 [(0, .ref qm), (1, .int (nI t)), (2, .int (nI u))] [] [oB 4 qm [.ref m0, .ref m1, .int (nI hc), .int (nI rf), .ref m2, .ref m3, .ref m4, .ref m5, .ref m6, .ref m7, .ref m8, .long sp, .ref m9, .ref m10, .ref m11, .long ha], aI G m6 72 e6, aJ G m7 72 e7]
  refine J_aload_n F 0 (dcq dc_X4_isAhead_0 0 rfl) rfl rfl ?_
  refine J_get F fcX4 0 8 rfl (Nat.le_of_ble_eq_true rfl) tw_3_231 rfl rfl (dcq dc_X4_isAhead_0 1 rfl) ?_
  refine J_iload_n F 1 (dcq dc_X4_isAhead_0 2 rfl) rfl rfl ?_
  refine J_iald F 1 rfl (by omega) (Nat.le_of_ble_eq_true rfl) (dcq dc_X4_isAhead_0 3 rfl) ?_
  refine J_aload_n F 0 (dcq dc_X4_isAhead_0 4 rfl) rfl rfl ?_
  refine J_get F fcX4 0 8 rfl (Nat.le_of_ble_eq_true rfl) tw_3_231 rfl rfl (dcq dc_X4_isAhead_0 5 rfl) ?_
  refine J_iload_n F 2 (dcq dc_X4_isAhead_0 6 rfl) rfl rfl ?_
  refine J_iald F 1 rfl (by omega) (Nat.le_of_ble_eq_true rfl) (dcq dc_X4_isAhead_0 7 rfl) ?_
  refine J_icmp_eq F 36 (dcq dc_X4_isAhead_0 8 rfl) (by decide) (fun h_1 => ?_) (fun h_1 => ?_)
  · skip
    have hw := h_1
    refine J_aload_n F 0 (dcq dc_X4_isAhead_0 22 rfl) rfl rfl ?_
    refine J_get F fcX4 0 9 rfl (Nat.le_of_ble_eq_true rfl) tw_3_232 rfl rfl (dcq dc_X4_isAhead_0 23 rfl) ?_
    refine J_iload_n F 1 (dcq dc_X4_isAhead_0 24 rfl) rfl rfl ?_
    refine J_lald F 2 rfl (by omega) (Nat.le_of_ble_eq_true rfl) (dcq dc_X4_isAhead_0 25 rfl) ?_
    refine J_callS F (wc := []) (wr := [oB 4 qm [.ref m0, .ref m1, .int (nI hc), .int (nI rf), .ref m2, .ref m3, .ref m4, .ref m5, .ref m6, .ref m7, .ref m8, .long sp, .ref m9, .ref m10, .ref m11, .long ha], aI G m6 72 e6, aJ G m7 72 e7]) (rest := []) (c_X4_size l hl G (e7 t)) cd_X4_size tw_4_198 tw_4_197 [] [0, 1, 2] rfl rfl rfl rfl (by decide) rfl ⟨(Nat.le_of_ble_eq_true rfl), (Nat.le_of_ble_eq_true rfl), (Nat.le_of_ble_eq_true rfl), (Nat.le_of_ble_eq_true rfl)⟩ (Nat.le_of_ble_eq_true rfl) rfl (dcq dc_X4_isAhead_0 26 rfl) ?_
    rintro _ _ ⟨ra, rfl, rfl, hra⟩
    change J p l e (cRm 1 21 0 0) s m args below meth c G A 7 (JQ below G A (po_X4_isAhead G qm m0 m1 m2 m3 m4 m5 m6 m7 m8 m9 m10 m11 hc rf sp ha nw P M R n v g d e7 ds e6 w t u) args s 0 0) 0 0 45 [(0, .ref qm), (1, .int (nI t)), (2, .int (nI u))] [.long ra] [oB 4 qm [.ref m0, .ref m1, .int (nI hc), .int (nI rf), .ref m2, .ref m3, .ref m4, .ref m5, .ref m6, .ref m7, .ref m8, .long sp, .ref m9, .ref m10, .ref m11, .long ha], aI G m6 72 e6, aJ G m7 72 e7]
    have hra : ra = absL (e7 t) := hra
    refine J_lstore_n F (lv2 := [(3, .long ra), (0, .ref qm), (1, .int (nI t)), (2, .int (nI u))]) (dcq dc_X4_isAhead_0 27 rfl) rfl (Nat.le_of_ble_eq_true rfl) rfl ?_
    refine J_aload_n F 1 (dcq dc_X4_isAhead_0 28 rfl) rfl rfl ?_
    refine J_get F fcX4 0 9 rfl (Nat.le_of_ble_eq_true rfl) tw_3_232 rfl rfl (dcq dc_X4_isAhead_0 29 rfl) ?_
    refine J_iload_n F 3 (dcq dc_X4_isAhead_0 30 rfl) rfl rfl ?_
    refine J_lald F 2 rfl (by omega) (Nat.le_of_ble_eq_true rfl) (dcq dc_X4_isAhead_0 31 rfl) ?_
    refine J_callS F (wc := []) (wr := [oB 4 qm [.ref m0, .ref m1, .int (nI hc), .int (nI rf), .ref m2, .ref m3, .ref m4, .ref m5, .ref m6, .ref m7, .ref m8, .long sp, .ref m9, .ref m10, .ref m11, .long ha], aI G m6 72 e6, aJ G m7 72 e7]) (rest := []) (c_X4_size l hl G (e7 u)) cd_X4_size tw_4_198 tw_4_197 [] [0, 1, 2] rfl rfl rfl rfl (by decide) rfl ⟨(Nat.le_of_ble_eq_true rfl), (Nat.le_of_ble_eq_true rfl), (Nat.le_of_ble_eq_true rfl), (Nat.le_of_ble_eq_true rfl)⟩ (Nat.le_of_ble_eq_true rfl) rfl (dcq dc_X4_isAhead_0 32 rfl) ?_
    rintro _ _ ⟨rb, rfl, rfl, hrb⟩
    change J p l e (cRm 1 21 0 0) s m args below meth c G A 7 (JQ below G A (po_X4_isAhead G qm m0 m1 m2 m3 m4 m5 m6 m7 m8 m9 m10 m11 hc rf sp ha nw P M R n v g d e7 ds e6 w t u) args s 0 0) 0 0 55 [(3, .long ra), (0, .ref qm), (1, .int (nI t)), (2, .int (nI u))] [.long rb] [oB 4 qm [.ref m0, .ref m1, .int (nI hc), .int (nI rf), .ref m2, .ref m3, .ref m4, .ref m5, .ref m6, .ref m7, .ref m8, .long sp, .ref m9, .ref m10, .ref m11, .long ha], aI G m6 72 e6, aJ G m7 72 e7]
    have hrb : rb = absL (e7 u) := hrb
    refine J_lstore F (lv2 := [(5, .long rb), (3, .long ra), (0, .ref qm), (1, .int (nI t)), (2, .int (nI u))]) (dcq dc_X4_isAhead_0 33 rfl) (Nat.le_of_ble_eq_true rfl) rfl ?_
    refine J_lload_n F 1 (dcq dc_X4_isAhead_0 34 rfl) rfl rfl ?_
    refine J_lload F 0 (dcq dc_X4_isAhead_0 35 rfl) rfl ?_
    refine J_lcmp_eq F 79 (dcq dc_X4_isAhead_0 36 rfl) (dcq dc_X4_isAhead_0 37 rfl) (by decide) (fun h_2 => ?_) (fun h_2 => ?_)
    · skip
      have hab := h_2
      refine J_iload_n F 3 (dcq dc_X4_isAhead_0 46 rfl) rfl rfl ?_
      refine J_iload_n F 4 (dcq dc_X4_isAhead_0 47 rfl) rfl rfl ?_
      refine J_ncmp_ge F 88 (by omega) (by omega) (dcq dc_X4_isAhead_1 0 rfl) (by decide) (fun h_3 => ?_) (fun h_3 => ?_)
      · skip
        have htu := h_3
        refine J_iconst F (dcq dc_X4_isAhead_1 3 rfl) ic_0 ?_
        rw [hw6 t ht1 ht2, hw6 u hu1 hu2] at hw
        rw [he7 t ht1 ht2] at hra
        rw [he7 u hu1 hu2] at hrb
        rw [hra, hrb] at hab
        exact J_zret F (by decide) (Or.inr (⟨rfl, rfl, by unfold ahB; rw [if_pos hw]; first | (rw [if_pos hab]; first | exact decide_eq_true (by omega) | exact decide_eq_false (by omega)) | (rw [if_neg hab]; rw [hra, hrb] at hab2; first | exact decide_eq_true hab2 | exact decide_eq_true (Int64.not_le.mp hab2) | exact decide_eq_false (Int64.not_lt.mpr hab2) | exact decide_eq_false hab2)⟩)) (Nat.le_of_ble_eq_true rfl) (Nat.le_of_ble_eq_true rfl) (dcq dc_X4_isAhead_1 4 rfl)
      · skip
        have htu := h_3
        refine J_iconst F (dcq dc_X4_isAhead_1 1 rfl) ic_1 ?_
        refine J_goto F 89 (dcq dc_X4_isAhead_1 2 rfl) (by decide) ?_
        rw [hw6 t ht1 ht2, hw6 u hu1 hu2] at hw
        rw [he7 t ht1 ht2] at hra
        rw [he7 u hu1 hu2] at hrb
        rw [hra, hrb] at hab
        exact J_zret F (by decide) (Or.inl ⟨rfl, rfl, by unfold ahB; rw [if_pos hw]; first | (rw [if_pos hab]; first | exact decide_eq_true (by omega) | exact decide_eq_false (by omega)) | (rw [if_neg hab]; rw [hra, hrb] at hab2; first | exact decide_eq_true hab2 | exact decide_eq_true (Int64.not_le.mp hab2) | exact decide_eq_false (Int64.not_lt.mpr hab2) | exact decide_eq_false hab2)⟩) (Nat.le_of_ble_eq_true rfl) (Nat.le_of_ble_eq_true rfl) (dcq dc_X4_isAhead_1 4 rfl)
    · skip
      have hab := h_2
      refine J_lload_n F 1 (dcq dc_X4_isAhead_0 38 rfl) rfl rfl ?_
      refine J_lload F 0 (dcq dc_X4_isAhead_0 39 rfl) rfl ?_
      refine J_lcmp_le F 75 (dcq dc_X4_isAhead_0 40 rfl) (dcq dc_X4_isAhead_0 41 rfl) (by decide) (fun h_4 => ?_) (fun h_4 => ?_)
      · skip
        have hab2 := h_4
        refine J_iconst F (dcq dc_X4_isAhead_0 44 rfl) ic_0 ?_
        refine J_goto F 89 (dcq dc_X4_isAhead_0 45 rfl) (by decide) ?_
        rw [hw6 t ht1 ht2, hw6 u hu1 hu2] at hw
        rw [he7 t ht1 ht2] at hra
        rw [he7 u hu1 hu2] at hrb
        rw [hra, hrb] at hab
        exact J_zret F (by decide) (Or.inr (⟨rfl, rfl, by unfold ahB; rw [if_pos hw]; first | (rw [if_pos hab]; first | exact decide_eq_true (by omega) | exact decide_eq_false (by omega)) | (rw [if_neg hab]; rw [hra, hrb] at hab2; first | exact decide_eq_true hab2 | exact decide_eq_true (Int64.not_le.mp hab2) | exact decide_eq_false (Int64.not_lt.mpr hab2) | exact decide_eq_false hab2)⟩)) (Nat.le_of_ble_eq_true rfl) (Nat.le_of_ble_eq_true rfl) (dcq dc_X4_isAhead_1 4 rfl)
      · skip
        have hab2 := h_4
        refine J_iconst F (dcq dc_X4_isAhead_0 42 rfl) ic_1 ?_
        refine J_goto F 89 (dcq dc_X4_isAhead_0 43 rfl) (by decide) ?_
        rw [hw6 t ht1 ht2, hw6 u hu1 hu2] at hw
        rw [he7 t ht1 ht2] at hra
        rw [he7 u hu1 hu2] at hrb
        rw [hra, hrb] at hab
        exact J_zret F (by decide) (Or.inl ⟨rfl, rfl, by unfold ahB; rw [if_pos hw]; first | (rw [if_pos hab]; first | exact decide_eq_true (by omega) | exact decide_eq_false (by omega)) | (rw [if_neg hab]; rw [hra, hrb] at hab2; first | exact decide_eq_true hab2 | exact decide_eq_true (Int64.not_le.mp hab2) | exact decide_eq_false (Int64.not_lt.mpr hab2) | exact decide_eq_false hab2)⟩) (Nat.le_of_ble_eq_true rfl) (Nat.le_of_ble_eq_true rfl) (dcq dc_X4_isAhead_1 4 rfl)
  · skip
    have hw := h_1
    refine J_aload_n F 0 (dcq dc_X4_isAhead_0 9 rfl) rfl rfl ?_
    refine J_get F fcX4 0 8 rfl (Nat.le_of_ble_eq_true rfl) tw_3_231 rfl rfl (dcq dc_X4_isAhead_0 10 rfl) ?_
    refine J_iload_n F 1 (dcq dc_X4_isAhead_0 11 rfl) rfl rfl ?_
    refine J_iald F 1 rfl (by omega) (Nat.le_of_ble_eq_true rfl) (dcq dc_X4_isAhead_0 12 rfl) ?_
    refine J_aload_n F 0 (dcq dc_X4_isAhead_0 13 rfl) rfl rfl ?_
    refine J_get F fcX4 0 8 rfl (Nat.le_of_ble_eq_true rfl) tw_3_231 rfl rfl (dcq dc_X4_isAhead_0 14 rfl) ?_
    refine J_iload_n F 2 (dcq dc_X4_isAhead_0 15 rfl) rfl rfl ?_
    refine J_iald F 1 rfl (by omega) (Nat.le_of_ble_eq_true rfl) (dcq dc_X4_isAhead_0 16 rfl) ?_
    refine J_icmp_ge F 34 (dcq dc_X4_isAhead_0 17 rfl) (by decide) (fun h_5 => ?_) (fun h_5 => ?_)
    · skip
      have hw2 := h_5
      refine J_iconst F (dcq dc_X4_isAhead_0 20 rfl) ic_0 ?_
      rw [hw6 t ht1 ht2, hw6 u hu1 hu2] at hw hw2
      exact J_zret F (by decide) (Or.inr (⟨rfl, rfl, by unfold ahB; rw [if_neg hw]; first | exact decide_eq_true (Int32.not_le.mp hw2) | exact decide_eq_false (Int32.not_lt.mpr hw2)⟩)) (Nat.le_of_ble_eq_true rfl) (Nat.le_of_ble_eq_true rfl) (dcq dc_X4_isAhead_0 21 rfl)
    · skip
      have hw2 := h_5
      refine J_iconst F (dcq dc_X4_isAhead_0 18 rfl) ic_1 ?_
      refine J_goto F 35 (dcq dc_X4_isAhead_0 19 rfl) (by decide) ?_
      rw [hw6 t ht1 ht2, hw6 u hu1 hu2] at hw hw2
      exact J_zret F (by decide) (Or.inl ⟨rfl, rfl, by unfold ahB; rw [if_neg hw]; first | exact decide_eq_true (Int32.not_le.mp hw2) | exact decide_eq_false (Int32.not_lt.mpr hw2)⟩) (Nat.le_of_ble_eq_true rfl) (Nat.le_of_ble_eq_true rfl) (dcq dc_X4_isAhead_0 21 rfl)

abbrev po_X4_outlier (G : Gt) (qm m0 m1 m2 m3 m4 m5 m6 m7 m8 m9 m10 m11 hc rf : Nat) (sp ha : Int64) (nw : Nat → Int32) (P M R n : Nat) (v g d : Nat → Int32) (s3 : Nat → Int64) (e4 : Nat → Int64) (e5 : Nat → Int64) (e7 : Nat → Int64) (e8 : Nat → Int64) (e9 : Nat → Int64) (e10 : Nat → Int64) (e11 : Nat → Int64) (e6 : Nat → Int32) (x : Int32) : Option Value → va_W → Prop := fun (v9 : Option Value) (w9 : va_W) => (∃ (sp2 : Int64), ∃ (k3 k4 k5 : Nat → Int64), ∃ (k6 : Nat → Int32), ∃ (k7 k8 k9 k10 k11 : Nat → Int64), ∃ (j T9 : Nat), v9 = some (.int (nI T9)) ∧ w9 = [oB 4 qm [.ref m0, .ref m1, .int (nI hc), .int (nI 0), .ref m2, .ref m3, .ref m4, .ref m5, .ref m6, .ref m7, .ref m8, .long sp2, .ref m9, .ref m10, .ref m11, .long ha], aI G m0 220 nw, aJ G m3 73 k3, aJ G m4 72 k4, aJ G m5 72 k5, aI G m6 72 k6, aJ G m7 72 k7, aJ G m8 12 k8, aJ G m9 72 k9, aJ G m10 72 k10, aJ G m11 72 k11] ∧ (dcm P n g) ∧ (MPT P M R n v sp2 k4 k5 k6 k7 k8 k9 k10 k11) ∧ (x = nI j) ∧ (j < osum (wR P M R n v) (fun _ => 1) (P / 2) (n - 2 * (P / 2))) ∧ (P / 2 ≤ T9 ∧ T9 + P / 2 < n ∧ ¬ nI 100 ≤ (wR P M R n v) T9) ∧ (orank (wR P M R n v) (dR P M R n v) (P / 2) n T9 = j)) ∨ (∃ (sp2 : Int64), ∃ (k3 k4 k5 : Nat → Int64), ∃ (k6 : Nat → Int32), ∃ (k7 k8 k9 k10 k11 : Nat → Int64), ∃ (j : Nat), v9 = some (.int (-1)) ∧ w9 = [oB 4 qm [.ref m0, .ref m1, .int (nI hc), .int (nI 0), .ref m2, .ref m3, .ref m4, .ref m5, .ref m6, .ref m7, .ref m8, .long sp2, .ref m9, .ref m10, .ref m11, .long ha], aI G m0 220 nw, aJ G m3 73 k3, aJ G m4 72 k4, aJ G m5 72 k5, aI G m6 72 k6, aJ G m7 72 k7, aJ G m8 12 k8, aJ G m9 72 k9, aJ G m10 72 k10, aJ G m11 72 k11] ∧ (dcm P n g) ∧ (MPT P M R n v sp2 k4 k5 k6 k7 k8 k9 k10 k11) ∧ (x = nI j) ∧ (j < osum (wR P M R n v) (fun _ => 1) (P / 2) (n - 2 * (P / 2))) ∧ (∀ q, q < n → P / 2 ≤ q ∧ q + P / 2 < n ∧ ¬ nI 100 ≤ (wR P M R n v) q → orank (wR P M R n v) (dR P M R n v) (P / 2) n q ≠ j)) ∨ (v9 = some (.int (nI 0)) ∧ w9 = [oB 4 qm [.ref m0, .ref m1, .int (nI hc), .int (nI 1), .ref m2, .ref m3, .ref m4, .ref m5, .ref m6, .ref m7, .ref m8, .long sp, .ref m9, .ref m10, .ref m11, .long ha], aI G m0 220 nw, aJ G m3 73 s3, aJ G m4 72 e4, aJ G m5 72 e5, aI G m6 72 e6, aJ G m7 72 e7, aJ G m8 12 e8, aJ G m9 72 e9, aJ G m10 72 e10, aJ G m11 72 e11] ∧ (¬ dcm P n g)) ∨ (∃ (sp2 : Int64), ∃ (k3 k4 k5 : Nat → Int64), ∃ (k6 : Nat → Int32), ∃ (k7 k8 k9 k10 k11 : Nat → Int64), v9 = some (.int (nI 0)) ∧ w9 = [oB 4 qm [.ref m0, .ref m1, .int (nI hc), .int (nI 2), .ref m2, .ref m3, .ref m4, .ref m5, .ref m6, .ref m7, .ref m8, .long sp2, .ref m9, .ref m10, .ref m11, .long ha], aI G m0 220 nw, aJ G m3 73 k3, aJ G m4 72 k4, aJ G m5 72 k5, aI G m6 72 k6, aJ G m7 72 k7, aJ G m8 12 k8, aJ G m9 72 k9, aJ G m10 72 k10, aJ G m11 72 k11] ∧ (dcm P n g) ∧ (MPT P M R n v sp2 k4 k5 k6 k7 k8 k9 k10 k11) ∧ (∀ j, j < osum (wR P M R n v) (fun _ => 1) (P / 2) (n - 2 * (P / 2)) → x ≠ nI j))
set_option maxHeartbeats 4000000 in
set_option maxRecDepth 100000 in
theorem c_X4_outlier (l : Launch) (hl : l.stackTraces = false) (G : Gt) (qm m0 m1 m2 m3 m4 m5 m6 m7 m8 m9 m10 m11 hc rf : Nat) (sp ha : Int64) (nw : Nat → Int32) (P M R n : Nat) (v g d : Nat → Int32) (s3 : Nat → Int64) (e4 : Nat → Int64) (e5 : Nat → Int64) (e7 : Nat → Int64) (e8 : Nat → Int64) (e9 : Nat → Int64) (e10 : Nat → Int64) (e11 : Nat → Int64) (e6 : Nat → Int32) (x : Int32) (hRM : RM nw P M R n v g d) (hn : n ≤ 72) (h01 : G01 n g) (hP : 2 ≤ P) (hP12 : P ≤ 12) (hM : M ≤ 1) (hR : R ≤ 5) (hgv : GVg M n v g) : Con l G yX4_outlier cX4_outlier 5 (some .int) 5 107 0 0 [.ref qm, .int x] [oB 4 qm [.ref m0, .ref m1, .int (nI hc), .int (nI rf), .ref m2, .ref m3, .ref m4, .ref m5, .ref m6, .ref m7, .ref m8, .long sp, .ref m9, .ref m10, .ref m11, .long ha], aI G m0 220 nw, aJ G m3 73 s3, aJ G m4 72 e4, aJ G m5 72 e5, aI G m6 72 e6, aJ G m7 72 e7, aJ G m8 12 e8, aJ G m9 72 e9, aJ G m10 72 e10, aJ G m11 72 e11] (po_X4_outlier G qm m0 m1 m2 m3 m4 m5 m6 m7 m8 m9 m10 m11 hc rf sp ha nw P M R n v g d s3 e4 e5 e7 e8 e9 e10 e11 e6 x) := by
  refine Con.of hl cd_X4_outlier (Nat.le_of_ble_eq_true rfl) ?_
  intro p e s m args below meth c A F hin9
  change Fx p l s m args meth c G A "SeasonalAdjusterModel" cX4_outlier 5 (some .int) at F
  change J p l e (cRm 5 107 0 0) s m args below meth c G A 5 (JQ below G A (po_X4_outlier G qm m0 m1 m2 m3 m4 m5 m6 m7 m8 m9 m10 m11 hc rf sp ha nw P M R n v g d s3 e4 e5 e7 e8 e9 e10 e11 e6 x) args s 0 0) 0 0 0 [(0, .ref qm), (1, .int x)] [] [oB 4 qm [.ref m0, .ref m1, .int (nI hc), .int (nI rf), .ref m2, .ref m3, .ref m4, .ref m5, .ref m6, .ref m7, .ref m8, .long sp, .ref m9, .ref m10, .ref m11, .long ha], aI G m0 220 nw, aJ G m3 73 s3, aJ G m4 72 e4, aJ G m5 72 e5, aI G m6 72 e6, aJ G m7 72 e7, aJ G m8 12 e8, aJ G m9 72 e9, aJ G m10 72 e10, aJ G m11 72 e11]
  refine J_aload_n F 0 (dcq dc_X4_outlier_0 0 rfl) rfl rfl ?_
  refine J_aload_n F 0 (dcq dc_X4_outlier_0 1 rfl) rfl rfl ?_
  refine J_callV F (wc := [oB 4 qm [.ref m0, .ref m1, .int (nI hc), .int (nI rf), .ref m2, .ref m3, .ref m4, .ref m5, .ref m6, .ref m7, .ref m8, .long sp, .ref m9, .ref m10, .ref m11, .long ha], aI G m0 220 nw, aJ G m3 73 s3, aJ G m4 72 e4, aJ G m5 72 e5, aI G m6 72 e6, aJ G m7 72 e7, aJ G m8 12 e8, aJ G m9 72 e9, aJ G m10 72 e10, aJ G m11 72 e11]) (wr := []) (rest := [.ref qm]) (qc := 0) (c_X4_decomposes l hl G qm m0 m1 m2 m3 m4 m5 m6 m7 m8 m9 m10 m11 hc rf sp ha nw P M R n v g d s3 e4 e5 e7 e8 e9 e10 e11 e6 (by first | assumption | omega) (by first | assumption | omega) (by first | assumption | omega) (by first | assumption | omega) (by first | assumption | omega) (by first | assumption | omega) (by first | assumption | omega) (by first | assumption | omega)) cd_X4_decomposes cv_X4_decomposes rfl rfl rfl tw_4_172 [0, 1, 2, 3, 4, 5, 6, 7, 8, 9, 10] [] rfl rfl rfl rfl (by decide) rfl ⟨(Nat.le_of_ble_eq_true rfl), (Nat.le_of_ble_eq_true rfl), (Nat.le_of_ble_eq_true rfl), (Nat.le_of_ble_eq_true rfl)⟩ (Nat.le_of_ble_eq_true rfl) rfl (dcq dc_X4_outlier_0 2 rfl) ?_
  rintro _ _ h9x
  rcases h9x with ⟨sp2, k3, k4, k5, k6, k7, k8, k9, k10, k11, rfl, rfl, hd, hmp⟩ | ⟨rfl, rfl, hnd⟩
  · skip
    have hd : dcm P n g := hd
    have hmp : MPT P M R n v sp2 k4 k5 k6 k7 k8 k9 k10 k11 := hmp
    change J p l e (cRm 5 107 0 0) s m args below meth c G A 5 (JQ below G A (po_X4_outlier G qm m0 m1 m2 m3 m4 m5 m6 m7 m8 m9 m10 m11 hc rf sp ha nw P M R n v g d s3 e4 e5 e7 e8 e9 e10 e11 e6 x) args s 0 0) 0 0 5 [(0, .ref qm), (1, .int x)] [.int (nI 1), .ref qm] [oB 4 qm [.ref m0, .ref m1, .int (nI hc), .int (nI rf), .ref m2, .ref m3, .ref m4, .ref m5, .ref m6, .ref m7, .ref m8, .long sp2, .ref m9, .ref m10, .ref m11, .long ha], aI G m0 220 nw, aJ G m3 73 k3, aJ G m4 72 k4, aJ G m5 72 k5, aI G m6 72 k6, aJ G m7 72 k7, aJ G m8 12 k8, aJ G m9 72 k9, aJ G m10 72 k10, aJ G m11 72 k11]
    obtain ⟨q4, q5, q6, q7, q8, q9, q10, q11, qsp⟩ := id hmp
    have hdu := hd
    unfold dcm at hdu
    obtain ⟨h5n, hPn, hcg⟩ := hdu
    refine J_if_ne F 12 (dcq dc_X4_outlier_0 3 rfl) (by decide) (fun _ => ?_) (fun h_1 => absurd h_1 (by decide))
    refine J_iload_n F 1 (dcq dc_X4_outlier_0 6 rfl) rfl rfl ?_
    refine J_i2l F (v := x.toInt64) (dcq dc_X4_outlier_0 7 rfl) rfl ?_
    refine J_lconst F (dcq dc_X4_outlier_0 8 rfl) lc_0 ?_
    refine J_aload_n F 0 (dcq dc_X4_outlier_0 9 rfl) rfl rfl ?_
    refine J_callV F (wc := [oB 4 qm [.ref m0, .ref m1, .int (nI hc), .int (nI rf), .ref m2, .ref m3, .ref m4, .ref m5, .ref m6, .ref m7, .ref m8, .long sp2, .ref m9, .ref m10, .ref m11, .long ha], aI G m0 220 nw, aI G m6 72 k6]) (wr := [aJ G m3 73 k3, aJ G m4 72 k4, aJ G m5 72 k5, aJ G m7 72 k7, aJ G m8 12 k8, aJ G m9 72 k9, aJ G m10 72 k10, aJ G m11 72 k11]) (rest := [.long 0, .long x.toInt64, .ref qm]) (qc := 0) (c_X4_outs l hl G qm m0 m1 m2 m3 m4 m5 m6 m7 m8 m9 m10 m11 hc rf sp2 ha nw P M R n v g d k6 (wR P M R n v) (by first | assumption | omega) (by first | assumption | omega) (by first | assumption | omega) (by first | assumption | omega) (by first | assumption | omega) (q6)) cd_X4_outs cv_X4_outs rfl rfl rfl tw_5_15 [0, 1, 5] [2, 3, 4, 6, 7, 8, 9, 10] rfl rfl rfl rfl (by decide) rfl ⟨(Nat.le_of_ble_eq_true rfl), (Nat.le_of_ble_eq_true rfl), (Nat.le_of_ble_eq_true rfl), (Nat.le_of_ble_eq_true rfl)⟩ (Nat.le_of_ble_eq_true rfl) rfl (dcq dc_X4_outlier_0 10 rfl) ?_
    rintro _ _ ⟨oc, rfl, rfl, hoc⟩
    change J p l e (cRm 5 107 0 0) s m args below meth c G A 5 (JQ below G A (po_X4_outlier G qm m0 m1 m2 m3 m4 m5 m6 m7 m8 m9 m10 m11 hc rf sp ha nw P M R n v g d s3 e4 e5 e7 e8 e9 e10 e11 e6 x) args s 0 0) 0 0 19 [(0, .ref qm), (1, .int x)] [.int (nI oc), .long 0, .long x.toInt64, .ref qm] [aJ G m3 73 k3, aJ G m4 72 k4, aJ G m5 72 k5, aJ G m7 72 k7, aJ G m8 12 k8, aJ G m9 72 k9, aJ G m10 72 k10, aJ G m11 72 k11, oB 4 qm [.ref m0, .ref m1, .int (nI hc), .int (nI rf), .ref m2, .ref m3, .ref m4, .ref m5, .ref m6, .ref m7, .ref m8, .long sp2, .ref m9, .ref m10, .ref m11, .long ha], aI G m0 220 nw, aI G m6 72 k6]
    have hoc : oc = osum (wR P M R n v) (fun _ => 1) (P / 2) (n - 2 * (P / 2)) := hoc
    refine J_world (ws2 := [oB 4 qm [.ref m0, .ref m1, .int (nI hc), .int (nI rf), .ref m2, .ref m3, .ref m4, .ref m5, .ref m6, .ref m7, .ref m8, .long sp2, .ref m9, .ref m10, .ref m11, .long ha], aI G m0 220 nw, aJ G m3 73 k3, aJ G m4 72 k4, aJ G m5 72 k5, aI G m6 72 k6, aJ G m7 72 k7, aJ G m8 12 k8, aJ G m9 72 k9, aJ G m10 72 k10, aJ G m11 72 k11]) [8, 9, 0, 1, 2, 10, 3, 4, 5, 6, 7] rfl rfl ?_
    have hol : oc ≤ 72 := by have := osum_le (wR P M R n v) (P / 2) (n - 2 * (P / 2)); omega
    refine J_iconst F (dcq dc_X4_outlier_0 11 rfl) ic_1 ?_
    refine J_isub F (v := (nI oc) - (nI 1)) (dcq dc_X4_outlier_0 12 rfl) rfl ?_
    refine J_i2l F (v := ((nI oc) - (nI 1)).toInt64) (dcq dc_X4_outlier_0 13 rfl) rfl ?_
    refine J_callS F (wc := []) (wr := [oB 4 qm [.ref m0, .ref m1, .int (nI hc), .int (nI rf), .ref m2, .ref m3, .ref m4, .ref m5, .ref m6, .ref m7, .ref m8, .long sp2, .ref m9, .ref m10, .ref m11, .long ha], aI G m0 220 nw, aJ G m3 73 k3, aJ G m4 72 k4, aJ G m5 72 k5, aI G m6 72 k6, aJ G m7 72 k7, aJ G m8 12 k8, aJ G m9 72 k9, aJ G m10 72 k10, aJ G m11 72 k11]) (rest := [.ref qm]) (c_X4_within l hl G x.toInt64 0 (((nI oc) - (nI 1)).toInt64)) cd_X4_within tw_4_51 tw_4_50 [] [0, 1, 2, 3, 4, 5, 6, 7, 8, 9, 10] rfl rfl rfl rfl (by decide) rfl ⟨(Nat.le_of_ble_eq_true rfl), (Nat.le_of_ble_eq_true rfl), (Nat.le_of_ble_eq_true rfl), (Nat.le_of_ble_eq_true rfl)⟩ (Nat.le_of_ble_eq_true rfl) rfl (dcq dc_X4_outlier_0 14 rfl) ?_
    rintro _ _ h9x
    rcases h9x with ⟨rfl, rfl, hw_22⟩ | ⟨rfl, rfl, hw_22⟩
    · skip
      have hw_22 : 0 ≤ x.toInt64 ∧ x.toInt64 ≤ (((nI oc) - (nI 1)).toInt64) := hw_22
      change J p l e (cRm 5 107 0 0) s m args below meth c G A 5 (JQ below G A (po_X4_outlier G qm m0 m1 m2 m3 m4 m5 m6 m7 m8 m9 m10 m11 hc rf sp ha nw P M R n v g d s3 e4 e5 e7 e8 e9 e10 e11 e6 x) args s 0 0) 0 0 25 [(0, .ref qm), (1, .int x)] [.int (nI 1), .ref qm] [oB 4 qm [.ref m0, .ref m1, .int (nI hc), .int (nI rf), .ref m2, .ref m3, .ref m4, .ref m5, .ref m6, .ref m7, .ref m8, .long sp2, .ref m9, .ref m10, .ref m11, .long ha], aI G m0 220 nw, aJ G m3 73 k3, aJ G m4 72 k4, aJ G m5 72 k5, aI G m6 72 k6, aJ G m7 72 k7, aJ G m8 12 k8, aJ G m9 72 k9, aJ G m10 72 k10, aJ G m11 72 k11]
      obtain ⟨j, hxj, hj⟩ := ent_of (by omega) hw_22
      refine J_cast (lv2 := [(0, .ref qm), (1, .int (nI j))]) (st2 := [.int (nI 1), .ref qm]) (ws2 := [oB 4 qm [.ref m0, .ref m1, .int (nI hc), .int (nI rf), .ref m2, .ref m3, .ref m4, .ref m5, .ref m6, .ref m7, .ref m8, .long sp2, .ref m9, .ref m10, .ref m11, .long ha], aI G m0 220 nw, aJ G m3 73 k3, aJ G m4 72 k4, aJ G m5 72 k5, aI G m6 72 k6, aJ G m7 72 k7, aJ G m8 12 k8, aJ G m9 72 k9, aJ G m10 72 k10, aJ G m11 72 k11]) (by rw [hxj]) (rfl) (rfl) ?_
      refine J_if_eq F 32 (dcq dc_X4_outlier_0 15 rfl) (by decide) (fun h_2 => absurd h_2 (by decide)) (fun _ => ?_)
      refine J_iconst F (dcq dc_X4_outlier_0 16 rfl) ic_0 ?_
      refine J_goto F 33 (dcq dc_X4_outlier_0 17 rfl) (by decide) ?_
      refine J_callV F (wc := [oB 4 qm [.ref m0, .ref m1, .int (nI hc), .int (nI rf), .ref m2, .ref m3, .ref m4, .ref m5, .ref m6, .ref m7, .ref m8, .long sp2, .ref m9, .ref m10, .ref m11, .long ha]]) (wr := [aI G m0 220 nw, aJ G m3 73 k3, aJ G m4 72 k4, aJ G m5 72 k5, aI G m6 72 k6, aJ G m7 72 k7, aJ G m8 12 k8, aJ G m9 72 k9, aJ G m10 72 k10, aJ G m11 72 k11]) (rest := []) (qc := 0) (c_X4_refused_0 l hl G qm m0 m1 m2 m3 m4 m5 m6 m7 m8 m9 m10 m11 hc rf sp2 ha) cd_X4_refused cv_X4_refused rfl rfl rfl tw_4_40 [0] [1, 2, 3, 4, 5, 6, 7, 8, 9, 10] rfl rfl rfl rfl (by decide) rfl ⟨(Nat.le_of_ble_eq_true rfl), (Nat.le_of_ble_eq_true rfl), (Nat.le_of_ble_eq_true rfl), (Nat.le_of_ble_eq_true rfl)⟩ (Nat.le_of_ble_eq_true rfl) rfl (dcq dc_X4_outlier_0 19 rfl) ?_
      rintro _ _ ⟨rfl, rfl⟩
      change J p l e (cRm 5 107 0 0) s m args below meth c G A 5 (JQ below G A (po_X4_outlier G qm m0 m1 m2 m3 m4 m5 m6 m7 m8 m9 m10 m11 hc rf sp ha nw P M R n v g d s3 e4 e5 e7 e8 e9 e10 e11 e6 x) args s 0 0) 0 0 36 [(0, .ref qm), (1, .int (nI j))] [.int (nI 0)] [aI G m0 220 nw, aJ G m3 73 k3, aJ G m4 72 k4, aJ G m5 72 k5, aI G m6 72 k6, aJ G m7 72 k7, aJ G m8 12 k8, aJ G m9 72 k9, aJ G m10 72 k10, aJ G m11 72 k11, oB 4 qm [.ref m0, .ref m1, .int (nI hc), .int (nI 0), .ref m2, .ref m3, .ref m4, .ref m5, .ref m6, .ref m7, .ref m8, .long sp2, .ref m9, .ref m10, .ref m11, .long ha]]
      refine J_world (ws2 := [oB 4 qm [.ref m0, .ref m1, .int (nI hc), .int (nI 0), .ref m2, .ref m3, .ref m4, .ref m5, .ref m6, .ref m7, .ref m8, .long sp2, .ref m9, .ref m10, .ref m11, .long ha], aI G m0 220 nw, aJ G m3 73 k3, aJ G m4 72 k4, aJ G m5 72 k5, aI G m6 72 k6, aJ G m7 72 k7, aJ G m8 12 k8, aJ G m9 72 k9, aJ G m10 72 k10, aJ G m11 72 k11]) [10, 0, 1, 2, 3, 4, 5, 6, 7, 8, 9] rfl rfl ?_
      refine J_if_eq F 41 (dcq dc_X4_outlier_0 20 rfl) (by decide) (fun _ => ?_) (fun h_3 => absurd h_3 (by decide))
      refine J_iconst F (dcq dc_X4_outlier_0 23 rfl) ic_0 ?_
      refine J_istore_n F (lv2 := [(2, .int (nI 0)), (0, .ref qm), (1, .int (nI j))]) (dcq dc_X4_outlier_0 24 rfl) rfl (Nat.le_of_ble_eq_true rfl) rfl ?_
      have L43 : ∀ (fu43 : Nat), ∀ (t : Nat), (t ≤ n) → (∀ q, q < t → P / 2 ≤ q ∧ q + P / 2 < n ∧ ¬ nI 100 ≤ (wR P M R n v) q → orank (wR P M R n v) (dR P M R n v) (P / 2) n q ≠ j) → n - t < fu43 → J p l e (cRm 5 107 0 0) s m args below meth c G A 5 (JQ below G A (po_X4_outlier G qm m0 m1 m2 m3 m4 m5 m6 m7 m8 m9 m10 m11 hc rf sp ha nw P M R n v g d s3 e4 e5 e7 e8 e9 e10 e11 e6 x) args s 0 0) 0 0 43 [(0, .ref qm), (1, .int (nI j)), (2, .int (nI t))] [] [oB 4 qm [.ref m0, .ref m1, .int (nI hc), .int (nI 0), .ref m2, .ref m3, .ref m4, .ref m5, .ref m6, .ref m7, .ref m8, .long sp2, .ref m9, .ref m10, .ref m11, .long ha], aI G m0 220 nw, aJ G m3 73 k3, aJ G m4 72 k4, aJ G m5 72 k5, aI G m6 72 k6, aJ G m7 72 k7, aJ G m8 12 k8, aJ G m9 72 k9, aJ G m10 72 k10, aJ G m11 72 k11] := by
        intro fu43
        induction fu43 with
        | zero => intro t ht hno hm43; exact absurd hm43 (Nat.not_lt_zero _)
        | succ fu43 ih43 =>
          intro t ht hno hm43
          refine J_iload_n F 2 (dcq dc_X4_outlier_0 25 rfl) rfl rfl ?_
          refine J_aload_n F 0 (dcq dc_X4_outlier_0 26 rfl) rfl rfl ?_
          refine J_get F fcX4 0 0 rfl (Nat.le_of_ble_eq_true rfl) tw_3_223 rfl rfl (dcq dc_X4_outlier_0 27 rfl) ?_
          refine J_iconst F (dcq dc_X4_outlier_0 28 rfl) ic_3 ?_
          refine J_iald F 1 rfl (by omega) (Nat.le_of_ble_eq_true rfl) (dcq dc_X4_outlier_0 29 rfl) ?_
          refine J_cast rfl (st2 := [.int (nI n), .int (nI t)]) (by rw [hRM.2.2.2.1]) rfl ?_
          refine J_ncmp_ge F 131 (by omega) (by omega) (dcq dc_X4_outlier_0 30 rfl) (by decide) (fun h_4 => ?_) (fun h_4 => ?_)
          · skip
            refine J_iconst F (dcq dc_X4_outlier_1 25 rfl) ic_m1 ?_
            exact J_iret F (Or.inr (Or.inl ⟨sp2, k3, k4, k5, k6, k7, k8, k9, k10, k11, j, rfl, rfl, hd, hmp, hxj, by rw [← hoc]; exact hj, fun q h => hno q (by omega)⟩)) (Nat.le_of_ble_eq_true rfl) (Nat.le_of_ble_eq_true rfl) (dcq dc_X4_outlier_1 26 rfl)
          · skip
            refine J_iconst F (dcq dc_X4_outlier_0 31 rfl) ic_0 ?_
            refine J_istore_n F (lv2 := [(3, .int (nI 0)), (0, .ref qm), (1, .int (nI j)), (2, .int (nI t))]) (dcq dc_X4_outlier_0 32 rfl) rfl (Nat.le_of_ble_eq_true rfl) rfl ?_
            refine J_iconst F (dcq dc_X4_outlier_0 33 rfl) ic_0 ?_
            refine J_istore F (lv2 := [(4, .int (nI 0)), (3, .int (nI 0)), (0, .ref qm), (1, .int (nI j)), (2, .int (nI t))]) (dcq dc_X4_outlier_0 34 rfl) (Nat.le_of_ble_eq_true rfl) rfl ?_
            have L58 : ∀ (fu58 : Nat), ∀ (u ah : Nat), (u ≤ n) → (ah ≤ u) → (P / 2 ≤ t ∧ t + P / 2 < n ∧ ¬ nI 100 ≤ (wR P M R n v) t → ah = osum (wR P M R n v) (fun z => if ahB (wR P M R n v) (dR P M R n v) z t = true then 1 else 0) (P / 2) (min u (n - P / 2) - P / 2)) → n - u < fu58 → J p l e (cRm 5 107 0 0) s m args below meth c G A 5 (JQ below G A (po_X4_outlier G qm m0 m1 m2 m3 m4 m5 m6 m7 m8 m9 m10 m11 hc rf sp ha nw P M R n v g d s3 e4 e5 e7 e8 e9 e10 e11 e6 x) args s 0 0) 0 0 58 [(0, .ref qm), (1, .int (nI j)), (2, .int (nI t)), (3, .int (nI ah)), (4, .int (nI u))] [] [oB 4 qm [.ref m0, .ref m1, .int (nI hc), .int (nI 0), .ref m2, .ref m3, .ref m4, .ref m5, .ref m6, .ref m7, .ref m8, .long sp2, .ref m9, .ref m10, .ref m11, .long ha], aI G m0 220 nw, aJ G m3 73 k3, aJ G m4 72 k4, aJ G m5 72 k5, aI G m6 72 k6, aJ G m7 72 k7, aJ G m8 12 k8, aJ G m9 72 k9, aJ G m10 72 k10, aJ G m11 72 k11] := by
              intro fu58
              induction fu58 with
              | zero => intro u ah hu hau hah hm58; exact absurd hm58 (Nat.not_lt_zero _)
              | succ fu58 ih58 =>
                intro u ah hu hau hah hm58
                refine J_iload F 4 (dcq dc_X4_outlier_0 35 rfl) rfl ?_
                refine J_aload_n F 0 (dcq dc_X4_outlier_0 36 rfl) rfl rfl ?_
                refine J_get F fcX4 0 0 rfl (Nat.le_of_ble_eq_true rfl) tw_3_223 rfl rfl (dcq dc_X4_outlier_0 37 rfl) ?_
                refine J_iconst F (dcq dc_X4_outlier_0 38 rfl) ic_3 ?_
                refine J_iald F 1 rfl (by omega) (Nat.le_of_ble_eq_true rfl) (dcq dc_X4_outlier_0 39 rfl) ?_
                refine J_cast rfl (st2 := [.int (nI n), .int (nI u)]) (by rw [hRM.2.2.2.1]) rfl ?_
                refine J_ncmp_ge F 110 (by omega) (by omega) (dcq dc_X4_outlier_0 40 rfl) (by decide) (fun h_5 => ?_) (fun h_5 => ?_)
                · skip
                  refine J_aload_n F 0 (dcq dc_X4_outlier_1 14 rfl) rfl rfl ?_
                  refine J_iload_n F 2 (dcq dc_X4_outlier_1 15 rfl) rfl rfl ?_
                  refine J_callV F (wc := [oB 4 qm [.ref m0, .ref m1, .int (nI hc), .int (nI 0), .ref m2, .ref m3, .ref m4, .ref m5, .ref m6, .ref m7, .ref m8, .long sp2, .ref m9, .ref m10, .ref m11, .long ha], aI G m0 220 nw, aI G m6 72 k6]) (wr := [aJ G m3 73 k3, aJ G m4 72 k4, aJ G m5 72 k5, aJ G m7 72 k7, aJ G m8 12 k8, aJ G m9 72 k9, aJ G m10 72 k10, aJ G m11 72 k11]) (rest := []) (qc := 0) (c_X4_isOut l hl G qm m0 m1 m2 m3 m4 m5 m6 m7 m8 m9 m10 m11 hc 0 sp2 ha nw P M R n v g d k6 (wR P M R n v) t (by first | assumption | omega) (by first | assumption | omega) (by first | assumption | omega) (by first | assumption | omega) (by first | assumption | omega) (q6) (by first | assumption | omega)) cd_X4_isOut cv_X4_isOut rfl rfl rfl tw_5_19 [0, 1, 5] [2, 3, 4, 6, 7, 8, 9, 10] rfl rfl rfl rfl (by decide) rfl ⟨(Nat.le_of_ble_eq_true rfl), (Nat.le_of_ble_eq_true rfl), (Nat.le_of_ble_eq_true rfl), (Nat.le_of_ble_eq_true rfl)⟩ (Nat.le_of_ble_eq_true rfl) rfl (dcq dc_X4_outlier_1 16 rfl) ?_
                  rintro _ _ h9x
                  rcases h9x with ⟨rfl, rfl, ho_112⟩ | ⟨rfl, rfl, ho_112⟩
                  · skip
                    have ho_112 : P / 2 ≤ t ∧ t + P / 2 < n ∧ ¬ nI 100 ≤ (wR P M R n v) t := ho_112
                    change J p l e (cRm 5 107 0 0) s m args below meth c G A 5 (JQ below G A (po_X4_outlier G qm m0 m1 m2 m3 m4 m5 m6 m7 m8 m9 m10 m11 hc rf sp ha nw P M R n v g d s3 e4 e5 e7 e8 e9 e10 e11 e6 x) args s 0 0) 0 0 115 [(0, .ref qm), (1, .int (nI j)), (2, .int (nI t)), (3, .int (nI ah)), (4, .int (nI u))] [.int (nI 1)] [aJ G m3 73 k3, aJ G m4 72 k4, aJ G m5 72 k5, aJ G m7 72 k7, aJ G m8 12 k8, aJ G m9 72 k9, aJ G m10 72 k10, aJ G m11 72 k11, oB 4 qm [.ref m0, .ref m1, .int (nI hc), .int (nI 0), .ref m2, .ref m3, .ref m4, .ref m5, .ref m6, .ref m7, .ref m8, .long sp2, .ref m9, .ref m10, .ref m11, .long ha], aI G m0 220 nw, aI G m6 72 k6]
                    refine J_world (ws2 := [oB 4 qm [.ref m0, .ref m1, .int (nI hc), .int (nI 0), .ref m2, .ref m3, .ref m4, .ref m5, .ref m6, .ref m7, .ref m8, .long sp2, .ref m9, .ref m10, .ref m11, .long ha], aI G m0 220 nw, aJ G m3 73 k3, aJ G m4 72 k4, aJ G m5 72 k5, aI G m6 72 k6, aJ G m7 72 k7, aJ G m8 12 k8, aJ G m9 72 k9, aJ G m10 72 k10, aJ G m11 72 k11]) [8, 9, 0, 1, 2, 10, 3, 4, 5, 6, 7] rfl rfl ?_
                    refine J_if_eq F 125 (dcq dc_X4_outlier_1 17 rfl) (by decide) (fun h_6 => absurd h_6 (by decide)) (fun _ => ?_)
                    refine J_iload_n F 3 (dcq dc_X4_outlier_1 18 rfl) rfl rfl ?_
                    refine J_iload_n F 1 (dcq dc_X4_outlier_1 19 rfl) rfl rfl ?_
                    refine J_ncmp_ne F 125 (by omega) (by omega) (dcq dc_X4_outlier_1 20 rfl) (by decide) (fun h_7 => ?_) (fun h_7 => ?_)
                    · skip
                      have hcmp := h_7
                      refine J_iinc F (lv2 := [(2, .int (nI (t + 1))), (0, .ref qm), (1, .int (nI j)), (3, .int (nI ah)), (4, .int (nI u))]) (v := nI (t + 1)) 2 (dcq dc_X4_outlier_1 23 rfl) rfl (nI_inc _) (Nat.le_of_ble_eq_true rfl) rfl ?_
                      refine J_goto F 43 (dcq dc_X4_outlier_1 24 rfl) (by decide) ?_
                      refine J_locs [1, 2, 0] rfl ?_
                      exact ih43 (t + 1) (by omega) (fun q h1 h2 h3 => by rcases Nat.lt_or_ge q t with h9 | h9; exact hno q h9 h2 h3; (have e9 : q = t := by omega); subst e9; first | exact ho_112 h2 | exact hcmp ((hah h2).trans (by rw [show min u (n - P / 2) - P / 2 = n - 2 * (P / 2) by omega]; exact h3))) (by omega)
                    · skip
                      have hcmp := h_7
                      refine J_iload_n F 2 (dcq dc_X4_outlier_1 21 rfl) rfl rfl ?_
                      exact J_iret F (Or.inl ⟨sp2, k3, k4, k5, k6, k7, k8, k9, k10, k11, j, t, rfl, rfl, hd, hmp, hxj, by rw [← hoc]; exact hj, ho_112, by unfold orank; rw [← hcmp, hah ho_112, show min u (n - P / 2) - P / 2 = n - 2 * (P / 2) by omega]⟩) (Nat.le_of_ble_eq_true rfl) (Nat.le_of_ble_eq_true rfl) (dcq dc_X4_outlier_1 22 rfl)
                  · skip
                    have ho_112 : ¬ (P / 2 ≤ t ∧ t + P / 2 < n ∧ ¬ nI 100 ≤ (wR P M R n v) t) := ho_112
                    change J p l e (cRm 5 107 0 0) s m args below meth c G A 5 (JQ below G A (po_X4_outlier G qm m0 m1 m2 m3 m4 m5 m6 m7 m8 m9 m10 m11 hc rf sp ha nw P M R n v g d s3 e4 e5 e7 e8 e9 e10 e11 e6 x) args s 0 0) 0 0 115 [(0, .ref qm), (1, .int (nI j)), (2, .int (nI t)), (3, .int (nI ah)), (4, .int (nI u))] [.int (nI 0)] [aJ G m3 73 k3, aJ G m4 72 k4, aJ G m5 72 k5, aJ G m7 72 k7, aJ G m8 12 k8, aJ G m9 72 k9, aJ G m10 72 k10, aJ G m11 72 k11, oB 4 qm [.ref m0, .ref m1, .int (nI hc), .int (nI 0), .ref m2, .ref m3, .ref m4, .ref m5, .ref m6, .ref m7, .ref m8, .long sp2, .ref m9, .ref m10, .ref m11, .long ha], aI G m0 220 nw, aI G m6 72 k6]
                    refine J_world (ws2 := [oB 4 qm [.ref m0, .ref m1, .int (nI hc), .int (nI 0), .ref m2, .ref m3, .ref m4, .ref m5, .ref m6, .ref m7, .ref m8, .long sp2, .ref m9, .ref m10, .ref m11, .long ha], aI G m0 220 nw, aJ G m3 73 k3, aJ G m4 72 k4, aJ G m5 72 k5, aI G m6 72 k6, aJ G m7 72 k7, aJ G m8 12 k8, aJ G m9 72 k9, aJ G m10 72 k10, aJ G m11 72 k11]) [8, 9, 0, 1, 2, 10, 3, 4, 5, 6, 7] rfl rfl ?_
                    refine J_if_eq F 125 (dcq dc_X4_outlier_1 17 rfl) (by decide) (fun _ => ?_) (fun h_8 => absurd h_8 (by decide))
                    refine J_iinc F (lv2 := [(2, .int (nI (t + 1))), (0, .ref qm), (1, .int (nI j)), (3, .int (nI ah)), (4, .int (nI u))]) (v := nI (t + 1)) 2 (dcq dc_X4_outlier_1 23 rfl) rfl (nI_inc _) (Nat.le_of_ble_eq_true rfl) rfl ?_
                    refine J_goto F 43 (dcq dc_X4_outlier_1 24 rfl) (by decide) ?_
                    refine J_locs [1, 2, 0] rfl ?_
                    exact ih43 (t + 1) (by omega) (fun q h1 h2 h3 => by rcases Nat.lt_or_ge q t with h9 | h9; exact hno q h9 h2 h3; (have e9 : q = t := by omega); subst e9; first | exact ho_112 h2 | exact hcmp ((hah h2).trans (by rw [show min u (n - P / 2) - P / 2 = n - 2 * (P / 2) by omega]; exact h3))) (by omega)
                · skip
                  refine J_iload_n F 3 (dcq dc_X4_outlier_0 41 rfl) rfl rfl ?_
                  refine J_aload_n F 0 (dcq dc_X4_outlier_0 42 rfl) rfl rfl ?_
                  refine J_iload_n F 2 (dcq dc_X4_outlier_0 43 rfl) rfl rfl ?_
                  refine J_callV F (wc := [oB 4 qm [.ref m0, .ref m1, .int (nI hc), .int (nI 0), .ref m2, .ref m3, .ref m4, .ref m5, .ref m6, .ref m7, .ref m8, .long sp2, .ref m9, .ref m10, .ref m11, .long ha], aI G m0 220 nw, aI G m6 72 k6]) (wr := [aJ G m3 73 k3, aJ G m4 72 k4, aJ G m5 72 k5, aJ G m7 72 k7, aJ G m8 12 k8, aJ G m9 72 k9, aJ G m10 72 k10, aJ G m11 72 k11]) (rest := [.int (nI ah)]) (qc := 0) (c_X4_isOut l hl G qm m0 m1 m2 m3 m4 m5 m6 m7 m8 m9 m10 m11 hc 0 sp2 ha nw P M R n v g d k6 (wR P M R n v) t (by first | assumption | omega) (by first | assumption | omega) (by first | assumption | omega) (by first | assumption | omega) (by first | assumption | omega) (q6) (by first | assumption | omega)) cd_X4_isOut cv_X4_isOut rfl rfl rfl tw_5_19 [0, 1, 5] [2, 3, 4, 6, 7, 8, 9, 10] rfl rfl rfl rfl (by decide) rfl ⟨(Nat.le_of_ble_eq_true rfl), (Nat.le_of_ble_eq_true rfl), (Nat.le_of_ble_eq_true rfl), (Nat.le_of_ble_eq_true rfl)⟩ (Nat.le_of_ble_eq_true rfl) rfl (dcq dc_X4_outlier_0 44 rfl) ?_
                  rintro _ _ h9x
                  rcases h9x with ⟨rfl, rfl, ho_72⟩ | ⟨rfl, rfl, ho_72⟩
                  · skip
                    have ho_72 : P / 2 ≤ t ∧ t + P / 2 < n ∧ ¬ nI 100 ≤ (wR P M R n v) t := ho_72
                    change J p l e (cRm 5 107 0 0) s m args below meth c G A 5 (JQ below G A (po_X4_outlier G qm m0 m1 m2 m3 m4 m5 m6 m7 m8 m9 m10 m11 hc rf sp ha nw P M R n v g d s3 e4 e5 e7 e8 e9 e10 e11 e6 x) args s 0 0) 0 0 75 [(0, .ref qm), (1, .int (nI j)), (2, .int (nI t)), (3, .int (nI ah)), (4, .int (nI u))] [.int (nI 1), .int (nI ah)] [aJ G m3 73 k3, aJ G m4 72 k4, aJ G m5 72 k5, aJ G m7 72 k7, aJ G m8 12 k8, aJ G m9 72 k9, aJ G m10 72 k10, aJ G m11 72 k11, oB 4 qm [.ref m0, .ref m1, .int (nI hc), .int (nI 0), .ref m2, .ref m3, .ref m4, .ref m5, .ref m6, .ref m7, .ref m8, .long sp2, .ref m9, .ref m10, .ref m11, .long ha], aI G m0 220 nw, aI G m6 72 k6]
                    refine J_world (ws2 := [oB 4 qm [.ref m0, .ref m1, .int (nI hc), .int (nI 0), .ref m2, .ref m3, .ref m4, .ref m5, .ref m6, .ref m7, .ref m8, .long sp2, .ref m9, .ref m10, .ref m11, .long ha], aI G m0 220 nw, aJ G m3 73 k3, aJ G m4 72 k4, aJ G m5 72 k5, aI G m6 72 k6, aJ G m7 72 k7, aJ G m8 12 k8, aJ G m9 72 k9, aJ G m10 72 k10, aJ G m11 72 k11]) [8, 9, 0, 1, 2, 10, 3, 4, 5, 6, 7] rfl rfl ?_
                    refine J_if_eq F 101 (dcq dc_X4_outlier_0 45 rfl) (by decide) (fun h_9 => absurd h_9 (by decide)) (fun _ => ?_)
                    refine J_aload_n F 0 (dcq dc_X4_outlier_0 46 rfl) rfl rfl ?_
                    refine J_iload F 4 (dcq dc_X4_outlier_0 47 rfl) rfl ?_
                    refine J_callV F (wc := [oB 4 qm [.ref m0, .ref m1, .int (nI hc), .int (nI 0), .ref m2, .ref m3, .ref m4, .ref m5, .ref m6, .ref m7, .ref m8, .long sp2, .ref m9, .ref m10, .ref m11, .long ha], aI G m0 220 nw, aI G m6 72 k6]) (wr := [aJ G m3 73 k3, aJ G m4 72 k4, aJ G m5 72 k5, aJ G m7 72 k7, aJ G m8 12 k8, aJ G m9 72 k9, aJ G m10 72 k10, aJ G m11 72 k11]) (rest := [.int (nI ah)]) (qc := 0) (c_X4_isOut l hl G qm m0 m1 m2 m3 m4 m5 m6 m7 m8 m9 m10 m11 hc 0 sp2 ha nw P M R n v g d k6 (wR P M R n v) u (by first | assumption | omega) (by first | assumption | omega) (by first | assumption | omega) (by first | assumption | omega) (by first | assumption | omega) (q6) (by first | assumption | omega)) cd_X4_isOut cv_X4_isOut rfl rfl rfl tw_5_19 [0, 1, 5] [2, 3, 4, 6, 7, 8, 9, 10] rfl rfl rfl rfl (by decide) rfl ⟨(Nat.le_of_ble_eq_true rfl), (Nat.le_of_ble_eq_true rfl), (Nat.le_of_ble_eq_true rfl), (Nat.le_of_ble_eq_true rfl)⟩ (Nat.le_of_ble_eq_true rfl) rfl (dcq dc_X4_outlier_1 0 rfl) ?_
                    rintro _ _ h9x
                    rcases h9x with ⟨rfl, rfl, ho_81⟩ | ⟨rfl, rfl, ho_81⟩
                    · skip
                      have ho_81 : P / 2 ≤ u ∧ u + P / 2 < n ∧ ¬ nI 100 ≤ (wR P M R n v) u := ho_81
                      change J p l e (cRm 5 107 0 0) s m args below meth c G A 5 (JQ below G A (po_X4_outlier G qm m0 m1 m2 m3 m4 m5 m6 m7 m8 m9 m10 m11 hc rf sp ha nw P M R n v g d s3 e4 e5 e7 e8 e9 e10 e11 e6 x) args s 0 0) 0 0 84 [(0, .ref qm), (1, .int (nI j)), (2, .int (nI t)), (3, .int (nI ah)), (4, .int (nI u))] [.int (nI 1), .int (nI ah)] [aJ G m3 73 k3, aJ G m4 72 k4, aJ G m5 72 k5, aJ G m7 72 k7, aJ G m8 12 k8, aJ G m9 72 k9, aJ G m10 72 k10, aJ G m11 72 k11, oB 4 qm [.ref m0, .ref m1, .int (nI hc), .int (nI 0), .ref m2, .ref m3, .ref m4, .ref m5, .ref m6, .ref m7, .ref m8, .long sp2, .ref m9, .ref m10, .ref m11, .long ha], aI G m0 220 nw, aI G m6 72 k6]
                      refine J_world (ws2 := [oB 4 qm [.ref m0, .ref m1, .int (nI hc), .int (nI 0), .ref m2, .ref m3, .ref m4, .ref m5, .ref m6, .ref m7, .ref m8, .long sp2, .ref m9, .ref m10, .ref m11, .long ha], aI G m0 220 nw, aJ G m3 73 k3, aJ G m4 72 k4, aJ G m5 72 k5, aI G m6 72 k6, aJ G m7 72 k7, aJ G m8 12 k8, aJ G m9 72 k9, aJ G m10 72 k10, aJ G m11 72 k11]) [8, 9, 0, 1, 2, 10, 3, 4, 5, 6, 7] rfl rfl ?_
                      refine J_if_eq F 101 (dcq dc_X4_outlier_1 1 rfl) (by decide) (fun h_10 => absurd h_10 (by decide)) (fun _ => ?_)
                      refine J_aload_n F 0 (dcq dc_X4_outlier_1 2 rfl) rfl rfl ?_
                      refine J_iload F 4 (dcq dc_X4_outlier_1 3 rfl) rfl ?_
                      refine J_iload_n F 2 (dcq dc_X4_outlier_1 4 rfl) rfl rfl ?_
                      refine J_callV F (wc := [oB 4 qm [.ref m0, .ref m1, .int (nI hc), .int (nI 0), .ref m2, .ref m3, .ref m4, .ref m5, .ref m6, .ref m7, .ref m8, .long sp2, .ref m9, .ref m10, .ref m11, .long ha], aI G m6 72 k6, aJ G m7 72 k7]) (wr := [aI G m0 220 nw, aJ G m3 73 k3, aJ G m4 72 k4, aJ G m5 72 k5, aJ G m8 12 k8, aJ G m9 72 k9, aJ G m10 72 k10, aJ G m11 72 k11]) (rest := [.int (nI ah)]) (qc := 0) (c_X4_isAhead l hl G qm m0 m1 m2 m3 m4 m5 m6 m7 m8 m9 m10 m11 hc 0 sp2 ha nw P M R n v g d k7 (dR P M R n v) k6 (wR P M R n v) u t (by first | assumption | omega) (q6) (q7) (ho_81.1) (ho_81.2.1) (ho_72.1) (ho_72.2.1)) cd_X4_isAhead cv_X4_isAhead rfl rfl rfl tw_5_27 [0, 5, 6] [1, 2, 3, 4, 7, 8, 9, 10] rfl rfl rfl rfl (by decide) rfl ⟨(Nat.le_of_ble_eq_true rfl), (Nat.le_of_ble_eq_true rfl), (Nat.le_of_ble_eq_true rfl), (Nat.le_of_ble_eq_true rfl)⟩ (Nat.le_of_ble_eq_true rfl) rfl (dcq dc_X4_outlier_1 5 rfl) ?_
                      rintro _ _ h9x
                      rcases h9x with ⟨rfl, rfl, ha_91⟩ | ⟨rfl, rfl, ha_91⟩
                      · skip
                        have ha_91 : ahB (wR P M R n v) (dR P M R n v) u t = true := ha_91
                        change J p l e (cRm 5 107 0 0) s m args below meth c G A 5 (JQ below G A (po_X4_outlier G qm m0 m1 m2 m3 m4 m5 m6 m7 m8 m9 m10 m11 hc rf sp ha nw P M R n v g d s3 e4 e5 e7 e8 e9 e10 e11 e6 x) args s 0 0) 0 0 94 [(0, .ref qm), (1, .int (nI j)), (2, .int (nI t)), (3, .int (nI ah)), (4, .int (nI u))] [.int (nI 1), .int (nI ah)] [aI G m0 220 nw, aJ G m3 73 k3, aJ G m4 72 k4, aJ G m5 72 k5, aJ G m8 12 k8, aJ G m9 72 k9, aJ G m10 72 k10, aJ G m11 72 k11, oB 4 qm [.ref m0, .ref m1, .int (nI hc), .int (nI 0), .ref m2, .ref m3, .ref m4, .ref m5, .ref m6, .ref m7, .ref m8, .long sp2, .ref m9, .ref m10, .ref m11, .long ha], aI G m6 72 k6, aJ G m7 72 k7]
                        refine J_world (ws2 := [oB 4 qm [.ref m0, .ref m1, .int (nI hc), .int (nI 0), .ref m2, .ref m3, .ref m4, .ref m5, .ref m6, .ref m7, .ref m8, .long sp2, .ref m9, .ref m10, .ref m11, .long ha], aI G m0 220 nw, aJ G m3 73 k3, aJ G m4 72 k4, aJ G m5 72 k5, aI G m6 72 k6, aJ G m7 72 k7, aJ G m8 12 k8, aJ G m9 72 k9, aJ G m10 72 k10, aJ G m11 72 k11]) [8, 0, 1, 2, 3, 9, 10, 4, 5, 6, 7] rfl rfl ?_
                        refine J_if_eq F 101 (dcq dc_X4_outlier_1 6 rfl) (by decide) (fun h_11 => absurd h_11 (by decide)) (fun _ => ?_)
                        refine J_iconst F (dcq dc_X4_outlier_1 7 rfl) ic_1 ?_
                        refine J_goto F 102 (dcq dc_X4_outlier_1 8 rfl) (by decide) ?_
                        refine J_iadd F (v := nI (ah + 1)) (dcq dc_X4_outlier_1 10 rfl) (nI_add _ _) ?_
                        refine J_istore_n F (lv2 := [(3, .int (nI (ah + 1))), (0, .ref qm), (1, .int (nI j)), (2, .int (nI t)), (4, .int (nI u))]) (dcq dc_X4_outlier_1 11 rfl) rfl (Nat.le_of_ble_eq_true rfl) rfl ?_
                        refine J_iinc F (lv2 := [(4, .int (nI (u + 1))), (3, .int (nI (ah + 1))), (0, .ref qm), (1, .int (nI j)), (2, .int (nI t))]) (v := nI (u + 1)) 4 (dcq dc_X4_outlier_1 12 rfl) rfl (nI_inc _) (Nat.le_of_ble_eq_true rfl) rfl ?_
                        refine J_goto F 58 (dcq dc_X4_outlier_1 13 rfl) (by decide) ?_
                        refine J_locs [2, 3, 4, 1, 0] rfl ?_
                        exact ih58 (u + 1) (ah + 1) (by omega) (by omega) (fun h => by rw [osum_cA ho_81.1 (by omega), if_neg ho_81.2.2, if_pos ha_91, hah h]) (by omega)
                      · skip
                        have ha_91 : ahB (wR P M R n v) (dR P M R n v) u t = false := ha_91
                        change J p l e (cRm 5 107 0 0) s m args below meth c G A 5 (JQ below G A (po_X4_outlier G qm m0 m1 m2 m3 m4 m5 m6 m7 m8 m9 m10 m11 hc rf sp ha nw P M R n v g d s3 e4 e5 e7 e8 e9 e10 e11 e6 x) args s 0 0) 0 0 94 [(0, .ref qm), (1, .int (nI j)), (2, .int (nI t)), (3, .int (nI ah)), (4, .int (nI u))] [.int (nI 0), .int (nI ah)] [aI G m0 220 nw, aJ G m3 73 k3, aJ G m4 72 k4, aJ G m5 72 k5, aJ G m8 12 k8, aJ G m9 72 k9, aJ G m10 72 k10, aJ G m11 72 k11, oB 4 qm [.ref m0, .ref m1, .int (nI hc), .int (nI 0), .ref m2, .ref m3, .ref m4, .ref m5, .ref m6, .ref m7, .ref m8, .long sp2, .ref m9, .ref m10, .ref m11, .long ha], aI G m6 72 k6, aJ G m7 72 k7]
                        refine J_world (ws2 := [oB 4 qm [.ref m0, .ref m1, .int (nI hc), .int (nI 0), .ref m2, .ref m3, .ref m4, .ref m5, .ref m6, .ref m7, .ref m8, .long sp2, .ref m9, .ref m10, .ref m11, .long ha], aI G m0 220 nw, aJ G m3 73 k3, aJ G m4 72 k4, aJ G m5 72 k5, aI G m6 72 k6, aJ G m7 72 k7, aJ G m8 12 k8, aJ G m9 72 k9, aJ G m10 72 k10, aJ G m11 72 k11]) [8, 0, 1, 2, 3, 9, 10, 4, 5, 6, 7] rfl rfl ?_
                        refine J_if_eq F 101 (dcq dc_X4_outlier_1 6 rfl) (by decide) (fun _ => ?_) (fun h_12 => absurd h_12 (by decide))
                        refine J_iconst F (dcq dc_X4_outlier_1 9 rfl) ic_0 ?_
                        refine J_iadd F (v := nI (ah + 0)) (dcq dc_X4_outlier_1 10 rfl) (nI_add _ _) ?_
                        refine J_istore_n F (lv2 := [(3, .int (nI (ah + 0))), (0, .ref qm), (1, .int (nI j)), (2, .int (nI t)), (4, .int (nI u))]) (dcq dc_X4_outlier_1 11 rfl) rfl (Nat.le_of_ble_eq_true rfl) rfl ?_
                        refine J_iinc F (lv2 := [(4, .int (nI (u + 1))), (3, .int (nI (ah + 0))), (0, .ref qm), (1, .int (nI j)), (2, .int (nI t))]) (v := nI (u + 1)) 4 (dcq dc_X4_outlier_1 12 rfl) rfl (nI_inc _) (Nat.le_of_ble_eq_true rfl) rfl ?_
                        refine J_goto F 58 (dcq dc_X4_outlier_1 13 rfl) (by decide) ?_
                        refine J_locs [2, 3, 4, 1, 0] rfl ?_
                        exact ih58 (u + 1) (ah + 0) (by omega) (by omega) (fun h => by rw [osum_cA ho_81.1 (by omega), if_neg ho_81.2.2, if_neg (by rw [ha_91]; decide), hah h]) (by omega)
                    · skip
                      have ho_81 : ¬ (P / 2 ≤ u ∧ u + P / 2 < n ∧ ¬ nI 100 ≤ (wR P M R n v) u) := ho_81
                      change J p l e (cRm 5 107 0 0) s m args below meth c G A 5 (JQ below G A (po_X4_outlier G qm m0 m1 m2 m3 m4 m5 m6 m7 m8 m9 m10 m11 hc rf sp ha nw P M R n v g d s3 e4 e5 e7 e8 e9 e10 e11 e6 x) args s 0 0) 0 0 84 [(0, .ref qm), (1, .int (nI j)), (2, .int (nI t)), (3, .int (nI ah)), (4, .int (nI u))] [.int (nI 0), .int (nI ah)] [aJ G m3 73 k3, aJ G m4 72 k4, aJ G m5 72 k5, aJ G m7 72 k7, aJ G m8 12 k8, aJ G m9 72 k9, aJ G m10 72 k10, aJ G m11 72 k11, oB 4 qm [.ref m0, .ref m1, .int (nI hc), .int (nI 0), .ref m2, .ref m3, .ref m4, .ref m5, .ref m6, .ref m7, .ref m8, .long sp2, .ref m9, .ref m10, .ref m11, .long ha], aI G m0 220 nw, aI G m6 72 k6]
                      refine J_world (ws2 := [oB 4 qm [.ref m0, .ref m1, .int (nI hc), .int (nI 0), .ref m2, .ref m3, .ref m4, .ref m5, .ref m6, .ref m7, .ref m8, .long sp2, .ref m9, .ref m10, .ref m11, .long ha], aI G m0 220 nw, aJ G m3 73 k3, aJ G m4 72 k4, aJ G m5 72 k5, aI G m6 72 k6, aJ G m7 72 k7, aJ G m8 12 k8, aJ G m9 72 k9, aJ G m10 72 k10, aJ G m11 72 k11]) [8, 9, 0, 1, 2, 10, 3, 4, 5, 6, 7] rfl rfl ?_
                      refine J_if_eq F 101 (dcq dc_X4_outlier_1 1 rfl) (by decide) (fun _ => ?_) (fun h_13 => absurd h_13 (by decide))
                      refine J_iconst F (dcq dc_X4_outlier_1 9 rfl) ic_0 ?_
                      refine J_iadd F (v := nI (ah + 0)) (dcq dc_X4_outlier_1 10 rfl) (nI_add _ _) ?_
                      refine J_istore_n F (lv2 := [(3, .int (nI (ah + 0))), (0, .ref qm), (1, .int (nI j)), (2, .int (nI t)), (4, .int (nI u))]) (dcq dc_X4_outlier_1 11 rfl) rfl (Nat.le_of_ble_eq_true rfl) rfl ?_
                      refine J_iinc F (lv2 := [(4, .int (nI (u + 1))), (3, .int (nI (ah + 0))), (0, .ref qm), (1, .int (nI j)), (2, .int (nI t))]) (v := nI (u + 1)) 4 (dcq dc_X4_outlier_1 12 rfl) rfl (nI_inc _) (Nat.le_of_ble_eq_true rfl) rfl ?_
                      refine J_goto F 58 (dcq dc_X4_outlier_1 13 rfl) (by decide) ?_
                      refine J_locs [2, 3, 4, 1, 0] rfl ?_
                      exact ih58 (u + 1) (ah + 0) (by omega) (by omega) (fun h => by rw [osum_no ho_81]; exact hah h) (by omega)
                  · skip
                    have ho_72 : ¬ (P / 2 ≤ t ∧ t + P / 2 < n ∧ ¬ nI 100 ≤ (wR P M R n v) t) := ho_72
                    change J p l e (cRm 5 107 0 0) s m args below meth c G A 5 (JQ below G A (po_X4_outlier G qm m0 m1 m2 m3 m4 m5 m6 m7 m8 m9 m10 m11 hc rf sp ha nw P M R n v g d s3 e4 e5 e7 e8 e9 e10 e11 e6 x) args s 0 0) 0 0 75 [(0, .ref qm), (1, .int (nI j)), (2, .int (nI t)), (3, .int (nI ah)), (4, .int (nI u))] [.int (nI 0), .int (nI ah)] [aJ G m3 73 k3, aJ G m4 72 k4, aJ G m5 72 k5, aJ G m7 72 k7, aJ G m8 12 k8, aJ G m9 72 k9, aJ G m10 72 k10, aJ G m11 72 k11, oB 4 qm [.ref m0, .ref m1, .int (nI hc), .int (nI 0), .ref m2, .ref m3, .ref m4, .ref m5, .ref m6, .ref m7, .ref m8, .long sp2, .ref m9, .ref m10, .ref m11, .long ha], aI G m0 220 nw, aI G m6 72 k6]
                    refine J_world (ws2 := [oB 4 qm [.ref m0, .ref m1, .int (nI hc), .int (nI 0), .ref m2, .ref m3, .ref m4, .ref m5, .ref m6, .ref m7, .ref m8, .long sp2, .ref m9, .ref m10, .ref m11, .long ha], aI G m0 220 nw, aJ G m3 73 k3, aJ G m4 72 k4, aJ G m5 72 k5, aI G m6 72 k6, aJ G m7 72 k7, aJ G m8 12 k8, aJ G m9 72 k9, aJ G m10 72 k10, aJ G m11 72 k11]) [8, 9, 0, 1, 2, 10, 3, 4, 5, 6, 7] rfl rfl ?_
                    refine J_if_eq F 101 (dcq dc_X4_outlier_0 45 rfl) (by decide) (fun _ => ?_) (fun h_14 => absurd h_14 (by decide))
                    refine J_iconst F (dcq dc_X4_outlier_1 9 rfl) ic_0 ?_
                    refine J_iadd F (v := nI (ah + 0)) (dcq dc_X4_outlier_1 10 rfl) (nI_add _ _) ?_
                    refine J_istore_n F (lv2 := [(3, .int (nI (ah + 0))), (0, .ref qm), (1, .int (nI j)), (2, .int (nI t)), (4, .int (nI u))]) (dcq dc_X4_outlier_1 11 rfl) rfl (Nat.le_of_ble_eq_true rfl) rfl ?_
                    refine J_iinc F (lv2 := [(4, .int (nI (u + 1))), (3, .int (nI (ah + 0))), (0, .ref qm), (1, .int (nI j)), (2, .int (nI t))]) (v := nI (u + 1)) 4 (dcq dc_X4_outlier_1 12 rfl) rfl (nI_inc _) (Nat.le_of_ble_eq_true rfl) rfl ?_
                    refine J_goto F 58 (dcq dc_X4_outlier_1 13 rfl) (by decide) ?_
                    refine J_locs [2, 3, 4, 1, 0] rfl ?_
                    exact ih58 (u + 1) (ah + 0) (by omega) (by omega) (fun h => absurd h ho_72) (by omega)
            refine J_locs [2, 3, 4, 1, 0] rfl ?_
            exact L58 (n - 0 + 1) 0 0 (by omega) (by omega) (fun _ => by rw [show min 0 (n - P / 2) - P / 2 = 0 by omega]; rfl) (Nat.lt_succ_self _)
      refine J_locs [1, 2, 0] rfl ?_
      exact L43 (n - 0 + 1) 0 (by omega) (fun q h => absurd h (Nat.not_lt_zero _)) (Nat.lt_succ_self _)
    · skip
      have hw_22 : ¬ (0 ≤ x.toInt64 ∧ x.toInt64 ≤ (((nI oc) - (nI 1)).toInt64)) := hw_22
      change J p l e (cRm 5 107 0 0) s m args below meth c G A 5 (JQ below G A (po_X4_outlier G qm m0 m1 m2 m3 m4 m5 m6 m7 m8 m9 m10 m11 hc rf sp ha nw P M R n v g d s3 e4 e5 e7 e8 e9 e10 e11 e6 x) args s 0 0) 0 0 25 [(0, .ref qm), (1, .int x)] [.int (nI 0), .ref qm] [oB 4 qm [.ref m0, .ref m1, .int (nI hc), .int (nI rf), .ref m2, .ref m3, .ref m4, .ref m5, .ref m6, .ref m7, .ref m8, .long sp2, .ref m9, .ref m10, .ref m11, .long ha], aI G m0 220 nw, aJ G m3 73 k3, aJ G m4 72 k4, aJ G m5 72 k5, aI G m6 72 k6, aJ G m7 72 k7, aJ G m8 12 k8, aJ G m9 72 k9, aJ G m10 72 k10, aJ G m11 72 k11]
      have hxn := ent_no (by omega) hw_22
      refine J_if_eq F 32 (dcq dc_X4_outlier_0 15 rfl) (by decide) (fun _ => ?_) (fun h_15 => absurd h_15 (by decide))
      refine J_iconst F (dcq dc_X4_outlier_0 18 rfl) ic_2 ?_
      refine J_callV F (wc := [oB 4 qm [.ref m0, .ref m1, .int (nI hc), .int (nI rf), .ref m2, .ref m3, .ref m4, .ref m5, .ref m6, .ref m7, .ref m8, .long sp2, .ref m9, .ref m10, .ref m11, .long ha]]) (wr := [aI G m0 220 nw, aJ G m3 73 k3, aJ G m4 72 k4, aJ G m5 72 k5, aI G m6 72 k6, aJ G m7 72 k7, aJ G m8 12 k8, aJ G m9 72 k9, aJ G m10 72 k10, aJ G m11 72 k11]) (rest := []) (qc := 0) (c_X4_refused_2 l hl G qm m0 m1 m2 m3 m4 m5 m6 m7 m8 m9 m10 m11 hc rf sp2 ha) cd_X4_refused cv_X4_refused rfl rfl rfl tw_4_40 [0] [1, 2, 3, 4, 5, 6, 7, 8, 9, 10] rfl rfl rfl rfl (by decide) rfl ⟨(Nat.le_of_ble_eq_true rfl), (Nat.le_of_ble_eq_true rfl), (Nat.le_of_ble_eq_true rfl), (Nat.le_of_ble_eq_true rfl)⟩ (Nat.le_of_ble_eq_true rfl) rfl (dcq dc_X4_outlier_0 19 rfl) ?_
      rintro _ _ ⟨rfl, rfl⟩
      change J p l e (cRm 5 107 0 0) s m args below meth c G A 5 (JQ below G A (po_X4_outlier G qm m0 m1 m2 m3 m4 m5 m6 m7 m8 m9 m10 m11 hc rf sp ha nw P M R n v g d s3 e4 e5 e7 e8 e9 e10 e11 e6 x) args s 0 0) 0 0 36 [(0, .ref qm), (1, .int x)] [.int (nI 1)] [aI G m0 220 nw, aJ G m3 73 k3, aJ G m4 72 k4, aJ G m5 72 k5, aI G m6 72 k6, aJ G m7 72 k7, aJ G m8 12 k8, aJ G m9 72 k9, aJ G m10 72 k10, aJ G m11 72 k11, oB 4 qm [.ref m0, .ref m1, .int (nI hc), .int (nI 2), .ref m2, .ref m3, .ref m4, .ref m5, .ref m6, .ref m7, .ref m8, .long sp2, .ref m9, .ref m10, .ref m11, .long ha]]
      refine J_world (ws2 := [oB 4 qm [.ref m0, .ref m1, .int (nI hc), .int (nI 2), .ref m2, .ref m3, .ref m4, .ref m5, .ref m6, .ref m7, .ref m8, .long sp2, .ref m9, .ref m10, .ref m11, .long ha], aI G m0 220 nw, aJ G m3 73 k3, aJ G m4 72 k4, aJ G m5 72 k5, aI G m6 72 k6, aJ G m7 72 k7, aJ G m8 12 k8, aJ G m9 72 k9, aJ G m10 72 k10, aJ G m11 72 k11]) [10, 0, 1, 2, 3, 4, 5, 6, 7, 8, 9] rfl rfl ?_
      refine J_if_eq F 41 (dcq dc_X4_outlier_0 20 rfl) (by decide) (fun h_16 => absurd h_16 (by decide)) (fun _ => ?_)
      refine J_iconst F (dcq dc_X4_outlier_0 21 rfl) ic_0 ?_
      exact J_iret F (Or.inr (Or.inr (Or.inr (⟨sp2, k3, k4, k5, k6, k7, k8, k9, k10, k11, rfl, rfl, hd, hmp, fun j h => hxn j (by rw [hoc]; exact h)⟩)))) (Nat.le_of_ble_eq_true rfl) (Nat.le_of_ble_eq_true rfl) (dcq dc_X4_outlier_0 22 rfl)
  · skip
    have hnd : ¬ dcm P n g := hnd
    change J p l e (cRm 5 107 0 0) s m args below meth c G A 5 (JQ below G A (po_X4_outlier G qm m0 m1 m2 m3 m4 m5 m6 m7 m8 m9 m10 m11 hc rf sp ha nw P M R n v g d s3 e4 e5 e7 e8 e9 e10 e11 e6 x) args s 0 0) 0 0 5 [(0, .ref qm), (1, .int x)] [.int (nI 0), .ref qm] [oB 4 qm [.ref m0, .ref m1, .int (nI hc), .int (nI rf), .ref m2, .ref m3, .ref m4, .ref m5, .ref m6, .ref m7, .ref m8, .long sp, .ref m9, .ref m10, .ref m11, .long ha], aI G m0 220 nw, aJ G m3 73 s3, aJ G m4 72 e4, aJ G m5 72 e5, aI G m6 72 e6, aJ G m7 72 e7, aJ G m8 12 e8, aJ G m9 72 e9, aJ G m10 72 e10, aJ G m11 72 e11]
    refine J_if_ne F 12 (dcq dc_X4_outlier_0 3 rfl) (by decide) (fun h_17 => absurd h_17 (by decide)) (fun _ => ?_)
    refine J_iconst F (dcq dc_X4_outlier_0 4 rfl) ic_1 ?_
    refine J_goto F 33 (dcq dc_X4_outlier_0 5 rfl) (by decide) ?_
    refine J_callV F (wc := [oB 4 qm [.ref m0, .ref m1, .int (nI hc), .int (nI rf), .ref m2, .ref m3, .ref m4, .ref m5, .ref m6, .ref m7, .ref m8, .long sp, .ref m9, .ref m10, .ref m11, .long ha]]) (wr := [aI G m0 220 nw, aJ G m3 73 s3, aJ G m4 72 e4, aJ G m5 72 e5, aI G m6 72 e6, aJ G m7 72 e7, aJ G m8 12 e8, aJ G m9 72 e9, aJ G m10 72 e10, aJ G m11 72 e11]) (rest := []) (qc := 0) (c_X4_refused_1 l hl G qm m0 m1 m2 m3 m4 m5 m6 m7 m8 m9 m10 m11 hc rf sp ha) cd_X4_refused cv_X4_refused rfl rfl rfl tw_4_40 [0] [1, 2, 3, 4, 5, 6, 7, 8, 9, 10] rfl rfl rfl rfl (by decide) rfl ⟨(Nat.le_of_ble_eq_true rfl), (Nat.le_of_ble_eq_true rfl), (Nat.le_of_ble_eq_true rfl), (Nat.le_of_ble_eq_true rfl)⟩ (Nat.le_of_ble_eq_true rfl) rfl (dcq dc_X4_outlier_0 19 rfl) ?_
    rintro _ _ ⟨rfl, rfl⟩
    change J p l e (cRm 5 107 0 0) s m args below meth c G A 5 (JQ below G A (po_X4_outlier G qm m0 m1 m2 m3 m4 m5 m6 m7 m8 m9 m10 m11 hc rf sp ha nw P M R n v g d s3 e4 e5 e7 e8 e9 e10 e11 e6 x) args s 0 0) 0 0 36 [(0, .ref qm), (1, .int x)] [.int (nI 1)] [aI G m0 220 nw, aJ G m3 73 s3, aJ G m4 72 e4, aJ G m5 72 e5, aI G m6 72 e6, aJ G m7 72 e7, aJ G m8 12 e8, aJ G m9 72 e9, aJ G m10 72 e10, aJ G m11 72 e11, oB 4 qm [.ref m0, .ref m1, .int (nI hc), .int (nI 1), .ref m2, .ref m3, .ref m4, .ref m5, .ref m6, .ref m7, .ref m8, .long sp, .ref m9, .ref m10, .ref m11, .long ha]]
    refine J_world (ws2 := [oB 4 qm [.ref m0, .ref m1, .int (nI hc), .int (nI 1), .ref m2, .ref m3, .ref m4, .ref m5, .ref m6, .ref m7, .ref m8, .long sp, .ref m9, .ref m10, .ref m11, .long ha], aI G m0 220 nw, aJ G m3 73 s3, aJ G m4 72 e4, aJ G m5 72 e5, aI G m6 72 e6, aJ G m7 72 e7, aJ G m8 12 e8, aJ G m9 72 e9, aJ G m10 72 e10, aJ G m11 72 e11]) [10, 0, 1, 2, 3, 4, 5, 6, 7, 8, 9] rfl rfl ?_
    refine J_if_eq F 41 (dcq dc_X4_outlier_0 20 rfl) (by decide) (fun h_18 => absurd h_18 (by decide)) (fun _ => ?_)
    refine J_iconst F (dcq dc_X4_outlier_0 21 rfl) ic_0 ?_
    exact J_iret F (Or.inr (Or.inr (Or.inl ⟨rfl, rfl, hnd⟩))) (Nat.le_of_ble_eq_true rfl) (Nat.le_of_ble_eq_true rfl) (dcq dc_X4_outlier_0 22 rfl)

abbrev po_X4_seasonOfRank (G : Gt) (qm m0 m1 m2 m3 m4 m5 m6 m7 m8 m9 m10 m11 hc rf : Nat) (sp ha : Int64) (nw : Nat → Int32) (P M R n : Nat) (v g d : Nat → Int32) (s3 : Nat → Int64) (e4 : Nat → Int64) (e5 : Nat → Int64) (e7 : Nat → Int64) (e8 : Nat → Int64) (e9 : Nat → Int64) (e10 : Nat → Int64) (e11 : Nat → Int64) (e6 : Nat → Int32) (x : Int32) : Option Value → va_W → Prop := fun (v9 : Option Value) (w9 : va_W) => (∃ (sp2 : Int64), ∃ (k3 k4 k5 : Nat → Int64), ∃ (k6 : Nat → Int32), ∃ (k7 k8 k9 k10 k11 : Nat → Int64), ∃ (j T9 : Nat), v9 = some (.int (nI T9)) ∧ w9 = [oB 4 qm [.ref m0, .ref m1, .int (nI hc), .int (nI 0), .ref m2, .ref m3, .ref m4, .ref m5, .ref m6, .ref m7, .ref m8, .long sp2, .ref m9, .ref m10, .ref m11, .long ha], aI G m0 220 nw, aJ G m3 73 k3, aJ G m4 72 k4, aJ G m5 72 k5, aI G m6 72 k6, aJ G m7 72 k7, aJ G m8 12 k8, aJ G m9 72 k9, aJ G m10 72 k10, aJ G m11 72 k11] ∧ (dcm P n g) ∧ (MPT P M R n v sp2 k4 k5 k6 k7 k8 k9 k10 k11) ∧ (x = nI j) ∧ (j < P) ∧ (T9 < P) ∧ (frank (fR P M R n v) P T9 = j)) ∨ (∃ (sp2 : Int64), ∃ (k3 k4 k5 : Nat → Int64), ∃ (k6 : Nat → Int32), ∃ (k7 k8 k9 k10 k11 : Nat → Int64), ∃ (j : Nat), v9 = some (.int (-1)) ∧ w9 = [oB 4 qm [.ref m0, .ref m1, .int (nI hc), .int (nI 0), .ref m2, .ref m3, .ref m4, .ref m5, .ref m6, .ref m7, .ref m8, .long sp2, .ref m9, .ref m10, .ref m11, .long ha], aI G m0 220 nw, aJ G m3 73 k3, aJ G m4 72 k4, aJ G m5 72 k5, aI G m6 72 k6, aJ G m7 72 k7, aJ G m8 12 k8, aJ G m9 72 k9, aJ G m10 72 k10, aJ G m11 72 k11] ∧ (dcm P n g) ∧ (MPT P M R n v sp2 k4 k5 k6 k7 k8 k9 k10 k11) ∧ (x = nI j) ∧ (j < P) ∧ (∀ q, q < P → frank (fR P M R n v) P q ≠ j)) ∨ (v9 = some (.int (nI 0)) ∧ w9 = [oB 4 qm [.ref m0, .ref m1, .int (nI hc), .int (nI 1), .ref m2, .ref m3, .ref m4, .ref m5, .ref m6, .ref m7, .ref m8, .long sp, .ref m9, .ref m10, .ref m11, .long ha], aI G m0 220 nw, aJ G m3 73 s3, aJ G m4 72 e4, aJ G m5 72 e5, aI G m6 72 e6, aJ G m7 72 e7, aJ G m8 12 e8, aJ G m9 72 e9, aJ G m10 72 e10, aJ G m11 72 e11] ∧ (∀ j, j < P → x ≠ nI j)) ∨ (∃ (j : Nat), v9 = some (.int (nI 0)) ∧ w9 = [oB 4 qm [.ref m0, .ref m1, .int (nI hc), .int (nI 2), .ref m2, .ref m3, .ref m4, .ref m5, .ref m6, .ref m7, .ref m8, .long sp, .ref m9, .ref m10, .ref m11, .long ha], aI G m0 220 nw, aJ G m3 73 s3, aJ G m4 72 e4, aJ G m5 72 e5, aI G m6 72 e6, aJ G m7 72 e7, aJ G m8 12 e8, aJ G m9 72 e9, aJ G m10 72 e10, aJ G m11 72 e11] ∧ (¬ dcm P n g) ∧ (x = nI j) ∧ (j < P))
set_option maxHeartbeats 4000000 in
set_option maxRecDepth 100000 in
theorem c_X4_seasonOfRank (l : Launch) (hl : l.stackTraces = false) (G : Gt) (qm m0 m1 m2 m3 m4 m5 m6 m7 m8 m9 m10 m11 hc rf : Nat) (sp ha : Int64) (nw : Nat → Int32) (P M R n : Nat) (v g d : Nat → Int32) (s3 : Nat → Int64) (e4 : Nat → Int64) (e5 : Nat → Int64) (e7 : Nat → Int64) (e8 : Nat → Int64) (e9 : Nat → Int64) (e10 : Nat → Int64) (e11 : Nat → Int64) (e6 : Nat → Int32) (x : Int32) (hRM : RM nw P M R n v g d) (hn : n ≤ 72) (h01 : G01 n g) (hP : 2 ≤ P) (hP12 : P ≤ 12) (hM : M ≤ 1) (hR : R ≤ 5) (hgv : GVg M n v g) : Con l G yX4_seasonOfRank cX4_seasonOfRank 5 (some .int) 5 107 0 0 [.ref qm, .int x] [oB 4 qm [.ref m0, .ref m1, .int (nI hc), .int (nI rf), .ref m2, .ref m3, .ref m4, .ref m5, .ref m6, .ref m7, .ref m8, .long sp, .ref m9, .ref m10, .ref m11, .long ha], aI G m0 220 nw, aJ G m3 73 s3, aJ G m4 72 e4, aJ G m5 72 e5, aI G m6 72 e6, aJ G m7 72 e7, aJ G m8 12 e8, aJ G m9 72 e9, aJ G m10 72 e10, aJ G m11 72 e11] (po_X4_seasonOfRank G qm m0 m1 m2 m3 m4 m5 m6 m7 m8 m9 m10 m11 hc rf sp ha nw P M R n v g d s3 e4 e5 e7 e8 e9 e10 e11 e6 x) := by
  refine Con.of hl cd_X4_seasonOfRank (Nat.le_of_ble_eq_true rfl) ?_
  intro p e s m args below meth c A F hin9
  change Fx p l s m args meth c G A "SeasonalAdjusterModel" cX4_seasonOfRank 5 (some .int) at F
  change J p l e (cRm 5 107 0 0) s m args below meth c G A 5 (JQ below G A (po_X4_seasonOfRank G qm m0 m1 m2 m3 m4 m5 m6 m7 m8 m9 m10 m11 hc rf sp ha nw P M R n v g d s3 e4 e5 e7 e8 e9 e10 e11 e6 x) args s 0 0) 0 0 0 [(0, .ref qm), (1, .int x)] [] [oB 4 qm [.ref m0, .ref m1, .int (nI hc), .int (nI rf), .ref m2, .ref m3, .ref m4, .ref m5, .ref m6, .ref m7, .ref m8, .long sp, .ref m9, .ref m10, .ref m11, .long ha], aI G m0 220 nw, aJ G m3 73 s3, aJ G m4 72 e4, aJ G m5 72 e5, aI G m6 72 e6, aJ G m7 72 e7, aJ G m8 12 e8, aJ G m9 72 e9, aJ G m10 72 e10, aJ G m11 72 e11]
  refine J_aload_n F 0 (dcq dc_X4_seasonOfRank_0 0 rfl) rfl rfl ?_
  refine J_aload_n F 0 (dcq dc_X4_seasonOfRank_0 1 rfl) rfl rfl ?_
  refine J_iload_n F 1 (dcq dc_X4_seasonOfRank_0 2 rfl) rfl rfl ?_
  refine J_callV F (wc := [oB 4 qm [.ref m0, .ref m1, .int (nI hc), .int (nI rf), .ref m2, .ref m3, .ref m4, .ref m5, .ref m6, .ref m7, .ref m8, .long sp, .ref m9, .ref m10, .ref m11, .long ha], aI G m0 220 nw]) (wr := [aJ G m3 73 s3, aJ G m4 72 e4, aJ G m5 72 e5, aI G m6 72 e6, aJ G m7 72 e7, aJ G m8 12 e8, aJ G m9 72 e9, aJ G m10 72 e10, aJ G m11 72 e11]) (rest := [.ref qm]) (qc := 0) (c_X4_isSeason l hl G qm m0 m1 m2 m3 m4 m5 m6 m7 m8 m9 m10 m11 hc rf sp ha nw P M R n v g d x (by first | assumption | omega) (by first | assumption | omega) (by first | assumption | omega)) cd_X4_isSeason cv_X4_isSeason rfl rfl rfl tw_4_231 [0, 1] [2, 3, 4, 5, 6, 7, 8, 9, 10] rfl rfl rfl rfl (by decide) rfl ⟨(Nat.le_of_ble_eq_true rfl), (Nat.le_of_ble_eq_true rfl), (Nat.le_of_ble_eq_true rfl), (Nat.le_of_ble_eq_true rfl)⟩ (Nat.le_of_ble_eq_true rfl) rfl (dcq dc_X4_seasonOfRank_0 3 rfl) ?_
  rintro _ _ h9x
  rcases h9x with ⟨j_3, rfl, rfl, hxj_3, hj_3⟩ | ⟨rfl, rfl, hx_3⟩
  · skip
    have hxj_3 : x = nI j_3 := hxj_3
    have hj_3 : j_3 < P := hj_3
    change J p l e (cRm 5 107 0 0) s m args below meth c G A 5 (JQ below G A (po_X4_seasonOfRank G qm m0 m1 m2 m3 m4 m5 m6 m7 m8 m9 m10 m11 hc rf sp ha nw P M R n v g d s3 e4 e5 e7 e8 e9 e10 e11 e6 x) args s 0 0) 0 0 6 [(0, .ref qm), (1, .int x)] [.int (nI 1), .ref qm] [aJ G m3 73 s3, aJ G m4 72 e4, aJ G m5 72 e5, aI G m6 72 e6, aJ G m7 72 e7, aJ G m8 12 e8, aJ G m9 72 e9, aJ G m10 72 e10, aJ G m11 72 e11, oB 4 qm [.ref m0, .ref m1, .int (nI hc), .int (nI rf), .ref m2, .ref m3, .ref m4, .ref m5, .ref m6, .ref m7, .ref m8, .long sp, .ref m9, .ref m10, .ref m11, .long ha], aI G m0 220 nw]
    refine J_world (ws2 := [oB 4 qm [.ref m0, .ref m1, .int (nI hc), .int (nI rf), .ref m2, .ref m3, .ref m4, .ref m5, .ref m6, .ref m7, .ref m8, .long sp, .ref m9, .ref m10, .ref m11, .long ha], aI G m0 220 nw, aJ G m3 73 s3, aJ G m4 72 e4, aJ G m5 72 e5, aI G m6 72 e6, aJ G m7 72 e7, aJ G m8 12 e8, aJ G m9 72 e9, aJ G m10 72 e10, aJ G m11 72 e11]) [9, 10, 0, 1, 2, 3, 4, 5, 6, 7, 8] rfl rfl ?_
    refine J_cast (lv2 := [(0, .ref qm), (1, .int (nI j_3))]) (st2 := [.int (nI 1), .ref qm]) (ws2 := [oB 4 qm [.ref m0, .ref m1, .int (nI hc), .int (nI rf), .ref m2, .ref m3, .ref m4, .ref m5, .ref m6, .ref m7, .ref m8, .long sp, .ref m9, .ref m10, .ref m11, .long ha], aI G m0 220 nw, aJ G m3 73 s3, aJ G m4 72 e4, aJ G m5 72 e5, aI G m6 72 e6, aJ G m7 72 e7, aJ G m8 12 e8, aJ G m9 72 e9, aJ G m10 72 e10, aJ G m11 72 e11]) (by rw [hxj_3]) (rfl) (rfl) ?_
    refine J_if_ne F 13 (dcq dc_X4_seasonOfRank_0 4 rfl) (by decide) (fun _ => ?_) (fun h_1 => absurd h_1 (by decide))
    refine J_aload_n F 0 (dcq dc_X4_seasonOfRank_0 7 rfl) rfl rfl ?_
    refine J_callV F (wc := [oB 4 qm [.ref m0, .ref m1, .int (nI hc), .int (nI rf), .ref m2, .ref m3, .ref m4, .ref m5, .ref m6, .ref m7, .ref m8, .long sp, .ref m9, .ref m10, .ref m11, .long ha], aI G m0 220 nw, aJ G m3 73 s3, aJ G m4 72 e4, aJ G m5 72 e5, aI G m6 72 e6, aJ G m7 72 e7, aJ G m8 12 e8, aJ G m9 72 e9, aJ G m10 72 e10, aJ G m11 72 e11]) (wr := []) (rest := [.ref qm]) (qc := 0) (c_X4_decomposes l hl G qm m0 m1 m2 m3 m4 m5 m6 m7 m8 m9 m10 m11 hc rf sp ha nw P M R n v g d s3 e4 e5 e7 e8 e9 e10 e11 e6 (by first | assumption | omega) (by first | assumption | omega) (by first | assumption | omega) (by first | assumption | omega) (by first | assumption | omega) (by first | assumption | omega) (by first | assumption | omega) (by first | assumption | omega)) cd_X4_decomposes cv_X4_decomposes rfl rfl rfl tw_4_172 [0, 1, 2, 3, 4, 5, 6, 7, 8, 9, 10] [] rfl rfl rfl rfl (by decide) rfl ⟨(Nat.le_of_ble_eq_true rfl), (Nat.le_of_ble_eq_true rfl), (Nat.le_of_ble_eq_true rfl), (Nat.le_of_ble_eq_true rfl)⟩ (Nat.le_of_ble_eq_true rfl) rfl (dcq dc_X4_seasonOfRank_0 8 rfl) ?_
    rintro _ _ h9x
    rcases h9x with ⟨sp2, k3, k4, k5, k6, k7, k8, k9, k10, k11, rfl, rfl, hd, hmp⟩ | ⟨rfl, rfl, hnd⟩
    · skip
      have hd : dcm P n g := hd
      have hmp : MPT P M R n v sp2 k4 k5 k6 k7 k8 k9 k10 k11 := hmp
      change J p l e (cRm 5 107 0 0) s m args below meth c G A 5 (JQ below G A (po_X4_seasonOfRank G qm m0 m1 m2 m3 m4 m5 m6 m7 m8 m9 m10 m11 hc rf sp ha nw P M R n v g d s3 e4 e5 e7 e8 e9 e10 e11 e6 x) args s 0 0) 0 0 17 [(0, .ref qm), (1, .int (nI j_3))] [.int (nI 1), .ref qm] [oB 4 qm [.ref m0, .ref m1, .int (nI hc), .int (nI rf), .ref m2, .ref m3, .ref m4, .ref m5, .ref m6, .ref m7, .ref m8, .long sp2, .ref m9, .ref m10, .ref m11, .long ha], aI G m0 220 nw, aJ G m3 73 k3, aJ G m4 72 k4, aJ G m5 72 k5, aI G m6 72 k6, aJ G m7 72 k7, aJ G m8 12 k8, aJ G m9 72 k9, aJ G m10 72 k10, aJ G m11 72 k11]
      obtain ⟨q4, q5, q6, q7, q8, q9, q10, q11, qsp⟩ := id hmp
      have hdu := hd
      unfold dcm at hdu
      obtain ⟨h5n, hPn, hcg⟩ := hdu
      refine J_if_eq F 24 (dcq dc_X4_seasonOfRank_0 9 rfl) (by decide) (fun h_2 => absurd h_2 (by decide)) (fun _ => ?_)
      refine J_iconst F (dcq dc_X4_seasonOfRank_0 10 rfl) ic_0 ?_
      refine J_goto F 25 (dcq dc_X4_seasonOfRank_0 11 rfl) (by decide) ?_
      refine J_callV F (wc := [oB 4 qm [.ref m0, .ref m1, .int (nI hc), .int (nI rf), .ref m2, .ref m3, .ref m4, .ref m5, .ref m6, .ref m7, .ref m8, .long sp2, .ref m9, .ref m10, .ref m11, .long ha]]) (wr := [aI G m0 220 nw, aJ G m3 73 k3, aJ G m4 72 k4, aJ G m5 72 k5, aI G m6 72 k6, aJ G m7 72 k7, aJ G m8 12 k8, aJ G m9 72 k9, aJ G m10 72 k10, aJ G m11 72 k11]) (rest := []) (qc := 0) (c_X4_refused_0 l hl G qm m0 m1 m2 m3 m4 m5 m6 m7 m8 m9 m10 m11 hc rf sp2 ha) cd_X4_refused cv_X4_refused rfl rfl rfl tw_4_40 [0] [1, 2, 3, 4, 5, 6, 7, 8, 9, 10] rfl rfl rfl rfl (by decide) rfl ⟨(Nat.le_of_ble_eq_true rfl), (Nat.le_of_ble_eq_true rfl), (Nat.le_of_ble_eq_true rfl), (Nat.le_of_ble_eq_true rfl)⟩ (Nat.le_of_ble_eq_true rfl) rfl (dcq dc_X4_seasonOfRank_0 13 rfl) ?_
      rintro _ _ ⟨rfl, rfl⟩
      change J p l e (cRm 5 107 0 0) s m args below meth c G A 5 (JQ below G A (po_X4_seasonOfRank G qm m0 m1 m2 m3 m4 m5 m6 m7 m8 m9 m10 m11 hc rf sp ha nw P M R n v g d s3 e4 e5 e7 e8 e9 e10 e11 e6 x) args s 0 0) 0 0 28 [(0, .ref qm), (1, .int (nI j_3))] [.int (nI 0)] [aI G m0 220 nw, aJ G m3 73 k3, aJ G m4 72 k4, aJ G m5 72 k5, aI G m6 72 k6, aJ G m7 72 k7, aJ G m8 12 k8, aJ G m9 72 k9, aJ G m10 72 k10, aJ G m11 72 k11, oB 4 qm [.ref m0, .ref m1, .int (nI hc), .int (nI 0), .ref m2, .ref m3, .ref m4, .ref m5, .ref m6, .ref m7, .ref m8, .long sp2, .ref m9, .ref m10, .ref m11, .long ha]]
      refine J_world (ws2 := [oB 4 qm [.ref m0, .ref m1, .int (nI hc), .int (nI 0), .ref m2, .ref m3, .ref m4, .ref m5, .ref m6, .ref m7, .ref m8, .long sp2, .ref m9, .ref m10, .ref m11, .long ha], aI G m0 220 nw, aJ G m3 73 k3, aJ G m4 72 k4, aJ G m5 72 k5, aI G m6 72 k6, aJ G m7 72 k7, aJ G m8 12 k8, aJ G m9 72 k9, aJ G m10 72 k10, aJ G m11 72 k11]) [10, 0, 1, 2, 3, 4, 5, 6, 7, 8, 9] rfl rfl ?_
      refine J_if_eq F 33 (dcq dc_X4_seasonOfRank_0 14 rfl) (by decide) (fun _ => ?_) (fun h_3 => absurd h_3 (by decide))
      refine J_iconst F (dcq dc_X4_seasonOfRank_0 17 rfl) ic_0 ?_
      refine J_istore_n F (lv2 := [(2, .int (nI 0)), (0, .ref qm), (1, .int (nI j_3))]) (dcq dc_X4_seasonOfRank_0 18 rfl) rfl (Nat.le_of_ble_eq_true rfl) rfl ?_
      have L35 : ∀ (fu35 : Nat), ∀ (s9 : Nat), (s9 ≤ P) → (∀ q, q < s9 → frank (fR P M R n v) P q ≠ j_3) → P - s9 < fu35 → J p l e (cRm 5 107 0 0) s m args below meth c G A 5 (JQ below G A (po_X4_seasonOfRank G qm m0 m1 m2 m3 m4 m5 m6 m7 m8 m9 m10 m11 hc rf sp ha nw P M R n v g d s3 e4 e5 e7 e8 e9 e10 e11 e6 x) args s 0 0) 0 0 35 [(0, .ref qm), (1, .int (nI j_3)), (2, .int (nI s9))] [] [oB 4 qm [.ref m0, .ref m1, .int (nI hc), .int (nI 0), .ref m2, .ref m3, .ref m4, .ref m5, .ref m6, .ref m7, .ref m8, .long sp2, .ref m9, .ref m10, .ref m11, .long ha], aI G m0 220 nw, aJ G m3 73 k3, aJ G m4 72 k4, aJ G m5 72 k5, aI G m6 72 k6, aJ G m7 72 k7, aJ G m8 12 k8, aJ G m9 72 k9, aJ G m10 72 k10, aJ G m11 72 k11] := by
        intro fu35
        induction fu35 with
        | zero => intro s9 hs hno hm35; exact absurd hm35 (Nat.not_lt_zero _)
        | succ fu35 ih35 =>
          intro s9 hs hno hm35
          refine J_iload_n F 2 (dcq dc_X4_seasonOfRank_0 19 rfl) rfl rfl ?_
          refine J_aload_n F 0 (dcq dc_X4_seasonOfRank_0 20 rfl) rfl rfl ?_
          refine J_get F fcX4 0 0 rfl (Nat.le_of_ble_eq_true rfl) tw_3_223 rfl rfl (dcq dc_X4_seasonOfRank_0 21 rfl) ?_
          refine J_iconst F (dcq dc_X4_seasonOfRank_0 22 rfl) ic_0 ?_
          refine J_iald F 1 rfl (by omega) (Nat.le_of_ble_eq_true rfl) (dcq dc_X4_seasonOfRank_0 23 rfl) ?_
          refine J_cast rfl (st2 := [.int (nI P), .int (nI s9)]) (by rw [hRM.1]) rfl ?_
          refine J_ncmp_ge F 128 (by omega) (by omega) (dcq dc_X4_seasonOfRank_0 24 rfl) (by decide) (fun h_4 => ?_) (fun h_4 => ?_)
          · skip
            refine J_iconst F (dcq dc_X4_seasonOfRank_1 25 rfl) ic_m1 ?_
            exact J_iret F (Or.inr (Or.inl ⟨sp2, k3, k4, k5, k6, k7, k8, k9, k10, k11, j_3, rfl, rfl, hd, hmp, hxj_3, hj_3, fun q h => hno q (by omega)⟩)) (Nat.le_of_ble_eq_true rfl) (Nat.le_of_ble_eq_true rfl) (dcq dc_X4_seasonOfRank_1 26 rfl)
          · skip
            refine J_iconst F (dcq dc_X4_seasonOfRank_0 25 rfl) ic_0 ?_
            refine J_istore_n F (lv2 := [(3, .int (nI 0)), (0, .ref qm), (1, .int (nI j_3)), (2, .int (nI s9))]) (dcq dc_X4_seasonOfRank_0 26 rfl) rfl (Nat.le_of_ble_eq_true rfl) rfl ?_
            refine J_iconst F (dcq dc_X4_seasonOfRank_0 27 rfl) ic_0 ?_
            refine J_istore F (lv2 := [(4, .int (nI 0)), (3, .int (nI 0)), (0, .ref qm), (1, .int (nI j_3)), (2, .int (nI s9))]) (dcq dc_X4_seasonOfRank_0 28 rfl) (Nat.le_of_ble_eq_true rfl) rfl ?_
            have L50 : ∀ (fu50 : Nat), ∀ (u ah : Nat), (u ≤ P) → (ah ≤ u) → (ah = nsum (fun z => if fhB (fR P M R n v) z s9 = true then 1 else 0) u) → P - u < fu50 → J p l e (cRm 5 107 0 0) s m args below meth c G A 5 (JQ below G A (po_X4_seasonOfRank G qm m0 m1 m2 m3 m4 m5 m6 m7 m8 m9 m10 m11 hc rf sp ha nw P M R n v g d s3 e4 e5 e7 e8 e9 e10 e11 e6 x) args s 0 0) 0 0 50 [(0, .ref qm), (1, .int (nI j_3)), (2, .int (nI s9)), (3, .int (nI ah)), (4, .int (nI u))] [] [oB 4 qm [.ref m0, .ref m1, .int (nI hc), .int (nI 0), .ref m2, .ref m3, .ref m4, .ref m5, .ref m6, .ref m7, .ref m8, .long sp2, .ref m9, .ref m10, .ref m11, .long ha], aI G m0 220 nw, aJ G m3 73 k3, aJ G m4 72 k4, aJ G m5 72 k5, aI G m6 72 k6, aJ G m7 72 k7, aJ G m8 12 k8, aJ G m9 72 k9, aJ G m10 72 k10, aJ G m11 72 k11] := by
              intro fu50
              induction fu50 with
              | zero => intro u ah hu hau hah hm50; exact absurd hm50 (Nat.not_lt_zero _)
              | succ fu50 ih50 =>
                intro u ah hu hau hah hm50
                refine J_iload F 4 (dcq dc_X4_seasonOfRank_0 29 rfl) rfl ?_
                refine J_aload_n F 0 (dcq dc_X4_seasonOfRank_0 30 rfl) rfl rfl ?_
                refine J_get F fcX4 0 0 rfl (Nat.le_of_ble_eq_true rfl) tw_3_223 rfl rfl (dcq dc_X4_seasonOfRank_0 31 rfl) ?_
                refine J_iconst F (dcq dc_X4_seasonOfRank_0 32 rfl) ic_0 ?_
                refine J_iald F 1 rfl (by omega) (Nat.le_of_ble_eq_true rfl) (dcq dc_X4_seasonOfRank_0 33 rfl) ?_
                refine J_cast rfl (st2 := [.int (nI P), .int (nI u)]) (by rw [hRM.1]) rfl ?_
                refine J_ncmp_ge F 115 (by omega) (by omega) (dcq dc_X4_seasonOfRank_0 34 rfl) (by decide) (fun h_5 => ?_) (fun h_5 => ?_)
                · skip
                  refine J_iload_n F 3 (dcq dc_X4_seasonOfRank_1 18 rfl) rfl rfl ?_
                  refine J_iload_n F 1 (dcq dc_X4_seasonOfRank_1 19 rfl) rfl rfl ?_
                  refine J_ncmp_ne F 122 (by omega) (by omega) (dcq dc_X4_seasonOfRank_1 20 rfl) (by decide) (fun h_6 => ?_) (fun h_6 => ?_)
                  · skip
                    have hcmp := h_6
                    refine J_iinc F (lv2 := [(2, .int (nI (s9 + 1))), (0, .ref qm), (1, .int (nI j_3)), (3, .int (nI ah)), (4, .int (nI u))]) (v := nI (s9 + 1)) 2 (dcq dc_X4_seasonOfRank_1 23 rfl) rfl (nI_inc _) (Nat.le_of_ble_eq_true rfl) rfl ?_
                    refine J_goto F 35 (dcq dc_X4_seasonOfRank_1 24 rfl) (by decide) ?_
                    refine J_locs [1, 2, 0] rfl ?_
                    exact ih35 (s9 + 1) (by omega) (fun q h1 h3 => by rcases Nat.lt_or_ge q s9 with h9 | h9; exact hno q h9 h3; (have e9 : q = s9 := by omega); subst e9; exact hcmp (hah.trans (by rw [show u = P by omega]; exact h3))) (by omega)
                  · skip
                    have hcmp := h_6
                    refine J_iload_n F 2 (dcq dc_X4_seasonOfRank_1 21 rfl) rfl rfl ?_
                    exact J_iret F (Or.inl ⟨sp2, k3, k4, k5, k6, k7, k8, k9, k10, k11, j_3, s9, rfl, rfl, hd, hmp, hxj_3, hj_3, by first | assumption | omega, by unfold frank; rw [← hcmp, hah, show u = P by omega]⟩) (Nat.le_of_ble_eq_true rfl) (Nat.le_of_ble_eq_true rfl) (dcq dc_X4_seasonOfRank_1 22 rfl)
                · skip
                  refine J_iload_n F 3 (dcq dc_X4_seasonOfRank_0 35 rfl) rfl rfl ?_
                  refine J_aload_n F 0 (dcq dc_X4_seasonOfRank_0 36 rfl) rfl rfl ?_
                  refine J_get F fcX4 0 10 rfl (Nat.le_of_ble_eq_true rfl) tw_3_233 rfl rfl (dcq dc_X4_seasonOfRank_0 37 rfl) ?_
                  refine J_iload F 4 (dcq dc_X4_seasonOfRank_0 38 rfl) rfl ?_
                  refine J_lald F 7 rfl (by omega) (Nat.le_of_ble_eq_true rfl) (dcq dc_X4_seasonOfRank_0 39 rfl) ?_
                  refine J_aload_n F 0 (dcq dc_X4_seasonOfRank_0 40 rfl) rfl rfl ?_
                  refine J_get F fcX4 0 10 rfl (Nat.le_of_ble_eq_true rfl) tw_3_233 rfl rfl (dcq dc_X4_seasonOfRank_0 41 rfl) ?_
                  refine J_iload_n F 2 (dcq dc_X4_seasonOfRank_0 42 rfl) rfl rfl ?_
                  refine J_lald F 7 rfl (by omega) (Nat.le_of_ble_eq_true rfl) (dcq dc_X4_seasonOfRank_0 43 rfl) ?_
                  refine J_lcmp_gt F 102 (dcq dc_X4_seasonOfRank_0 44 rfl) (dcq dc_X4_seasonOfRank_0 45 rfl) (by decide) (fun h_7 => ?_) (fun h_7 => ?_)
                  · skip
                    have hgt := h_7
                    refine J_iconst F (dcq dc_X4_seasonOfRank_1 11 rfl) ic_1 ?_
                    refine J_goto F 107 (dcq dc_X4_seasonOfRank_1 12 rfl) (by decide) ?_
                    refine J_iadd F (v := nI (ah + 1)) (dcq dc_X4_seasonOfRank_1 14 rfl) (nI_add _ _) ?_
                    refine J_istore_n F (lv2 := [(3, .int (nI (ah + 1))), (0, .ref qm), (1, .int (nI j_3)), (2, .int (nI s9)), (4, .int (nI u))]) (dcq dc_X4_seasonOfRank_1 15 rfl) rfl (Nat.le_of_ble_eq_true rfl) rfl ?_
                    refine J_iinc F (lv2 := [(4, .int (nI (u + 1))), (3, .int (nI (ah + 1))), (0, .ref qm), (1, .int (nI j_3)), (2, .int (nI s9))]) (v := nI (u + 1)) 4 (dcq dc_X4_seasonOfRank_1 16 rfl) rfl (nI_inc _) (Nat.le_of_ble_eq_true rfl) rfl ?_
                    refine J_goto F 50 (dcq dc_X4_seasonOfRank_1 17 rfl) (by decide) ?_
                    refine J_locs [2, 3, 4, 1, 0] rfl ?_
                    exact ih50 (u + 1) (ah + 1) (by omega) (by omega) (by simp only [nsum]; rw [← hah, if_pos (fh_gt (by rw [← q8 u (by omega), ← q8 s9 (by omega)]; exact hgt))]) (by omega)
                  · skip
                    have hgt := h_7
                    refine J_aload_n F 0 (dcq dc_X4_seasonOfRank_0 46 rfl) rfl rfl ?_
                    refine J_get F fcX4 0 10 rfl (Nat.le_of_ble_eq_true rfl) tw_3_233 rfl rfl (dcq dc_X4_seasonOfRank_0 47 rfl) ?_
                    refine J_iload F 4 (dcq dc_X4_seasonOfRank_1 0 rfl) rfl ?_
                    refine J_lald F 7 rfl (by omega) (Nat.le_of_ble_eq_true rfl) (dcq dc_X4_seasonOfRank_1 1 rfl) ?_
                    refine J_aload_n F 0 (dcq dc_X4_seasonOfRank_1 2 rfl) rfl rfl ?_
                    refine J_get F fcX4 0 10 rfl (Nat.le_of_ble_eq_true rfl) tw_3_233 rfl rfl (dcq dc_X4_seasonOfRank_1 3 rfl) ?_
                    refine J_iload_n F 2 (dcq dc_X4_seasonOfRank_1 4 rfl) rfl rfl ?_
                    refine J_lald F 7 rfl (by omega) (Nat.le_of_ble_eq_true rfl) (dcq dc_X4_seasonOfRank_1 5 rfl) ?_
                    refine J_lcmp_ne F 106 (dcq dc_X4_seasonOfRank_1 6 rfl) (dcq dc_X4_seasonOfRank_1 7 rfl) (by decide) (fun h_8 => ?_) (fun h_8 => ?_)
                    · skip
                      have heq := h_8
                      refine J_iconst F (dcq dc_X4_seasonOfRank_1 13 rfl) ic_0 ?_
                      refine J_iadd F (v := nI (ah + 0)) (dcq dc_X4_seasonOfRank_1 14 rfl) (nI_add _ _) ?_
                      refine J_istore_n F (lv2 := [(3, .int (nI (ah + 0))), (0, .ref qm), (1, .int (nI j_3)), (2, .int (nI s9)), (4, .int (nI u))]) (dcq dc_X4_seasonOfRank_1 15 rfl) rfl (Nat.le_of_ble_eq_true rfl) rfl ?_
                      refine J_iinc F (lv2 := [(4, .int (nI (u + 1))), (3, .int (nI (ah + 0))), (0, .ref qm), (1, .int (nI j_3)), (2, .int (nI s9))]) (v := nI (u + 1)) 4 (dcq dc_X4_seasonOfRank_1 16 rfl) rfl (nI_inc _) (Nat.le_of_ble_eq_true rfl) rfl ?_
                      refine J_goto F 50 (dcq dc_X4_seasonOfRank_1 17 rfl) (by decide) ?_
                      refine J_locs [2, 3, 4, 1, 0] rfl ?_
                      exact ih50 (u + 1) (ah + 0) (by omega) (by omega) (by simp only [nsum]; rw [← hah, if_neg (fh_no (fun z => hgt (by rw [q8 u (by omega), q8 s9 (by omega)]; exact z)) (fun z => by first | exact fun _ => absurd (by rw [q8 u (by omega), q8 s9 (by omega)]; exact z) heq | omega)), Nat.add_zero]) (by omega)
                    · skip
                      have heq := h_8
                      refine J_iload F 4 (dcq dc_X4_seasonOfRank_1 8 rfl) rfl ?_
                      refine J_iload_n F 2 (dcq dc_X4_seasonOfRank_1 9 rfl) rfl rfl ?_
                      refine J_ncmp_ge F 106 (by omega) (by omega) (dcq dc_X4_seasonOfRank_1 10 rfl) (by decide) (fun h_9 => ?_) (fun h_9 => ?_)
                      · skip
                        have hlt := h_9
                        refine J_iconst F (dcq dc_X4_seasonOfRank_1 13 rfl) ic_0 ?_
                        refine J_iadd F (v := nI (ah + 0)) (dcq dc_X4_seasonOfRank_1 14 rfl) (nI_add _ _) ?_
                        refine J_istore_n F (lv2 := [(3, .int (nI (ah + 0))), (0, .ref qm), (1, .int (nI j_3)), (2, .int (nI s9)), (4, .int (nI u))]) (dcq dc_X4_seasonOfRank_1 15 rfl) rfl (Nat.le_of_ble_eq_true rfl) rfl ?_
                        refine J_iinc F (lv2 := [(4, .int (nI (u + 1))), (3, .int (nI (ah + 0))), (0, .ref qm), (1, .int (nI j_3)), (2, .int (nI s9))]) (v := nI (u + 1)) 4 (dcq dc_X4_seasonOfRank_1 16 rfl) rfl (nI_inc _) (Nat.le_of_ble_eq_true rfl) rfl ?_
                        refine J_goto F 50 (dcq dc_X4_seasonOfRank_1 17 rfl) (by decide) ?_
                        refine J_locs [2, 3, 4, 1, 0] rfl ?_
                        exact ih50 (u + 1) (ah + 0) (by omega) (by omega) (by simp only [nsum]; rw [← hah, if_neg (fh_no (fun z => hgt (by rw [q8 u (by omega), q8 s9 (by omega)]; exact z)) (fun z => by first | exact fun _ => absurd (by rw [q8 u (by omega), q8 s9 (by omega)]; exact z) heq | omega)), Nat.add_zero]) (by omega)
                      · skip
                        have hlt := h_9
                        refine J_iconst F (dcq dc_X4_seasonOfRank_1 11 rfl) ic_1 ?_
                        refine J_goto F 107 (dcq dc_X4_seasonOfRank_1 12 rfl) (by decide) ?_
                        refine J_iadd F (v := nI (ah + 1)) (dcq dc_X4_seasonOfRank_1 14 rfl) (nI_add _ _) ?_
                        refine J_istore_n F (lv2 := [(3, .int (nI (ah + 1))), (0, .ref qm), (1, .int (nI j_3)), (2, .int (nI s9)), (4, .int (nI u))]) (dcq dc_X4_seasonOfRank_1 15 rfl) rfl (Nat.le_of_ble_eq_true rfl) rfl ?_
                        refine J_iinc F (lv2 := [(4, .int (nI (u + 1))), (3, .int (nI (ah + 1))), (0, .ref qm), (1, .int (nI j_3)), (2, .int (nI s9))]) (v := nI (u + 1)) 4 (dcq dc_X4_seasonOfRank_1 16 rfl) rfl (nI_inc _) (Nat.le_of_ble_eq_true rfl) rfl ?_
                        refine J_goto F 50 (dcq dc_X4_seasonOfRank_1 17 rfl) (by decide) ?_
                        refine J_locs [2, 3, 4, 1, 0] rfl ?_
                        exact ih50 (u + 1) (ah + 1) (by omega) (by omega) (by simp only [nsum]; rw [← hah, if_pos (fh_eq (by rw [← q8 u (by omega), ← q8 s9 (by omega)]; exact heq) (by omega))]) (by omega)
            refine J_locs [2, 3, 4, 1, 0] rfl ?_
            exact L50 (P - 0 + 1) 0 0 (by omega) (by omega) (rfl) (Nat.lt_succ_self _)
      refine J_locs [1, 2, 0] rfl ?_
      exact L35 (P - 0 + 1) 0 (by omega) (fun q h => absurd h (Nat.not_lt_zero _)) (Nat.lt_succ_self _)
    · skip
      have hnd : ¬ dcm P n g := hnd
      change J p l e (cRm 5 107 0 0) s m args below meth c G A 5 (JQ below G A (po_X4_seasonOfRank G qm m0 m1 m2 m3 m4 m5 m6 m7 m8 m9 m10 m11 hc rf sp ha nw P M R n v g d s3 e4 e5 e7 e8 e9 e10 e11 e6 x) args s 0 0) 0 0 17 [(0, .ref qm), (1, .int (nI j_3))] [.int (nI 0), .ref qm] [oB 4 qm [.ref m0, .ref m1, .int (nI hc), .int (nI rf), .ref m2, .ref m3, .ref m4, .ref m5, .ref m6, .ref m7, .ref m8, .long sp, .ref m9, .ref m10, .ref m11, .long ha], aI G m0 220 nw, aJ G m3 73 s3, aJ G m4 72 e4, aJ G m5 72 e5, aI G m6 72 e6, aJ G m7 72 e7, aJ G m8 12 e8, aJ G m9 72 e9, aJ G m10 72 e10, aJ G m11 72 e11]
      refine J_if_eq F 24 (dcq dc_X4_seasonOfRank_0 9 rfl) (by decide) (fun _ => ?_) (fun h_10 => absurd h_10 (by decide))
      refine J_iconst F (dcq dc_X4_seasonOfRank_0 12 rfl) ic_2 ?_
      refine J_callV F (wc := [oB 4 qm [.ref m0, .ref m1, .int (nI hc), .int (nI rf), .ref m2, .ref m3, .ref m4, .ref m5, .ref m6, .ref m7, .ref m8, .long sp, .ref m9, .ref m10, .ref m11, .long ha]]) (wr := [aI G m0 220 nw, aJ G m3 73 s3, aJ G m4 72 e4, aJ G m5 72 e5, aI G m6 72 e6, aJ G m7 72 e7, aJ G m8 12 e8, aJ G m9 72 e9, aJ G m10 72 e10, aJ G m11 72 e11]) (rest := []) (qc := 0) (c_X4_refused_2 l hl G qm m0 m1 m2 m3 m4 m5 m6 m7 m8 m9 m10 m11 hc rf sp ha) cd_X4_refused cv_X4_refused rfl rfl rfl tw_4_40 [0] [1, 2, 3, 4, 5, 6, 7, 8, 9, 10] rfl rfl rfl rfl (by decide) rfl ⟨(Nat.le_of_ble_eq_true rfl), (Nat.le_of_ble_eq_true rfl), (Nat.le_of_ble_eq_true rfl), (Nat.le_of_ble_eq_true rfl)⟩ (Nat.le_of_ble_eq_true rfl) rfl (dcq dc_X4_seasonOfRank_0 13 rfl) ?_
      rintro _ _ ⟨rfl, rfl⟩
      change J p l e (cRm 5 107 0 0) s m args below meth c G A 5 (JQ below G A (po_X4_seasonOfRank G qm m0 m1 m2 m3 m4 m5 m6 m7 m8 m9 m10 m11 hc rf sp ha nw P M R n v g d s3 e4 e5 e7 e8 e9 e10 e11 e6 x) args s 0 0) 0 0 28 [(0, .ref qm), (1, .int (nI j_3))] [.int (nI 1)] [aI G m0 220 nw, aJ G m3 73 s3, aJ G m4 72 e4, aJ G m5 72 e5, aI G m6 72 e6, aJ G m7 72 e7, aJ G m8 12 e8, aJ G m9 72 e9, aJ G m10 72 e10, aJ G m11 72 e11, oB 4 qm [.ref m0, .ref m1, .int (nI hc), .int (nI 2), .ref m2, .ref m3, .ref m4, .ref m5, .ref m6, .ref m7, .ref m8, .long sp, .ref m9, .ref m10, .ref m11, .long ha]]
      refine J_world (ws2 := [oB 4 qm [.ref m0, .ref m1, .int (nI hc), .int (nI 2), .ref m2, .ref m3, .ref m4, .ref m5, .ref m6, .ref m7, .ref m8, .long sp, .ref m9, .ref m10, .ref m11, .long ha], aI G m0 220 nw, aJ G m3 73 s3, aJ G m4 72 e4, aJ G m5 72 e5, aI G m6 72 e6, aJ G m7 72 e7, aJ G m8 12 e8, aJ G m9 72 e9, aJ G m10 72 e10, aJ G m11 72 e11]) [10, 0, 1, 2, 3, 4, 5, 6, 7, 8, 9] rfl rfl ?_
      refine J_if_eq F 33 (dcq dc_X4_seasonOfRank_0 14 rfl) (by decide) (fun h_11 => absurd h_11 (by decide)) (fun _ => ?_)
      refine J_iconst F (dcq dc_X4_seasonOfRank_0 15 rfl) ic_0 ?_
      exact J_iret F (Or.inr (Or.inr (Or.inr (⟨j_3, rfl, rfl, hnd, hxj_3, hj_3⟩)))) (Nat.le_of_ble_eq_true rfl) (Nat.le_of_ble_eq_true rfl) (dcq dc_X4_seasonOfRank_0 16 rfl)
  · skip
    have hx_3 : ∀ j, j < P → x ≠ nI j := hx_3
    change J p l e (cRm 5 107 0 0) s m args below meth c G A 5 (JQ below G A (po_X4_seasonOfRank G qm m0 m1 m2 m3 m4 m5 m6 m7 m8 m9 m10 m11 hc rf sp ha nw P M R n v g d s3 e4 e5 e7 e8 e9 e10 e11 e6 x) args s 0 0) 0 0 6 [(0, .ref qm), (1, .int x)] [.int (nI 0), .ref qm] [aJ G m3 73 s3, aJ G m4 72 e4, aJ G m5 72 e5, aI G m6 72 e6, aJ G m7 72 e7, aJ G m8 12 e8, aJ G m9 72 e9, aJ G m10 72 e10, aJ G m11 72 e11, oB 4 qm [.ref m0, .ref m1, .int (nI hc), .int (nI rf), .ref m2, .ref m3, .ref m4, .ref m5, .ref m6, .ref m7, .ref m8, .long sp, .ref m9, .ref m10, .ref m11, .long ha], aI G m0 220 nw]
    refine J_world (ws2 := [oB 4 qm [.ref m0, .ref m1, .int (nI hc), .int (nI rf), .ref m2, .ref m3, .ref m4, .ref m5, .ref m6, .ref m7, .ref m8, .long sp, .ref m9, .ref m10, .ref m11, .long ha], aI G m0 220 nw, aJ G m3 73 s3, aJ G m4 72 e4, aJ G m5 72 e5, aI G m6 72 e6, aJ G m7 72 e7, aJ G m8 12 e8, aJ G m9 72 e9, aJ G m10 72 e10, aJ G m11 72 e11]) [9, 10, 0, 1, 2, 3, 4, 5, 6, 7, 8] rfl rfl ?_
    refine J_if_ne F 13 (dcq dc_X4_seasonOfRank_0 4 rfl) (by decide) (fun h_12 => absurd h_12 (by decide)) (fun _ => ?_)
    refine J_iconst F (dcq dc_X4_seasonOfRank_0 5 rfl) ic_1 ?_
    refine J_goto F 25 (dcq dc_X4_seasonOfRank_0 6 rfl) (by decide) ?_
    refine J_callV F (wc := [oB 4 qm [.ref m0, .ref m1, .int (nI hc), .int (nI rf), .ref m2, .ref m3, .ref m4, .ref m5, .ref m6, .ref m7, .ref m8, .long sp, .ref m9, .ref m10, .ref m11, .long ha]]) (wr := [aI G m0 220 nw, aJ G m3 73 s3, aJ G m4 72 e4, aJ G m5 72 e5, aI G m6 72 e6, aJ G m7 72 e7, aJ G m8 12 e8, aJ G m9 72 e9, aJ G m10 72 e10, aJ G m11 72 e11]) (rest := []) (qc := 0) (c_X4_refused_1 l hl G qm m0 m1 m2 m3 m4 m5 m6 m7 m8 m9 m10 m11 hc rf sp ha) cd_X4_refused cv_X4_refused rfl rfl rfl tw_4_40 [0] [1, 2, 3, 4, 5, 6, 7, 8, 9, 10] rfl rfl rfl rfl (by decide) rfl ⟨(Nat.le_of_ble_eq_true rfl), (Nat.le_of_ble_eq_true rfl), (Nat.le_of_ble_eq_true rfl), (Nat.le_of_ble_eq_true rfl)⟩ (Nat.le_of_ble_eq_true rfl) rfl (dcq dc_X4_seasonOfRank_0 13 rfl) ?_
    rintro _ _ ⟨rfl, rfl⟩
    change J p l e (cRm 5 107 0 0) s m args below meth c G A 5 (JQ below G A (po_X4_seasonOfRank G qm m0 m1 m2 m3 m4 m5 m6 m7 m8 m9 m10 m11 hc rf sp ha nw P M R n v g d s3 e4 e5 e7 e8 e9 e10 e11 e6 x) args s 0 0) 0 0 28 [(0, .ref qm), (1, .int x)] [.int (nI 1)] [aI G m0 220 nw, aJ G m3 73 s3, aJ G m4 72 e4, aJ G m5 72 e5, aI G m6 72 e6, aJ G m7 72 e7, aJ G m8 12 e8, aJ G m9 72 e9, aJ G m10 72 e10, aJ G m11 72 e11, oB 4 qm [.ref m0, .ref m1, .int (nI hc), .int (nI 1), .ref m2, .ref m3, .ref m4, .ref m5, .ref m6, .ref m7, .ref m8, .long sp, .ref m9, .ref m10, .ref m11, .long ha]]
    refine J_world (ws2 := [oB 4 qm [.ref m0, .ref m1, .int (nI hc), .int (nI 1), .ref m2, .ref m3, .ref m4, .ref m5, .ref m6, .ref m7, .ref m8, .long sp, .ref m9, .ref m10, .ref m11, .long ha], aI G m0 220 nw, aJ G m3 73 s3, aJ G m4 72 e4, aJ G m5 72 e5, aI G m6 72 e6, aJ G m7 72 e7, aJ G m8 12 e8, aJ G m9 72 e9, aJ G m10 72 e10, aJ G m11 72 e11]) [10, 0, 1, 2, 3, 4, 5, 6, 7, 8, 9] rfl rfl ?_
    refine J_if_eq F 33 (dcq dc_X4_seasonOfRank_0 14 rfl) (by decide) (fun h_13 => absurd h_13 (by decide)) (fun _ => ?_)
    refine J_iconst F (dcq dc_X4_seasonOfRank_0 15 rfl) ic_0 ?_
    exact J_iret F (Or.inr (Or.inr (Or.inl ⟨rfl, rfl, hx_3⟩))) (Nat.le_of_ble_eq_true rfl) (Nat.le_of_ble_eq_true rfl) (dcq dc_X4_seasonOfRank_0 16 rfl)

abbrev po_X4_forecast (G : Gt) (qm m0 m1 m2 m3 m4 m5 m6 m7 m8 m9 m10 m11 hc rf : Nat) (sp ha : Int64) (nw : Nat → Int32) (P M R n : Nat) (v g d : Nat → Int32) (s3 : Nat → Int64) (e4 : Nat → Int64) (e5 : Nat → Int64) (e7 : Nat → Int64) (e8 : Nat → Int64) (e9 : Nat → Int64) (e10 : Nat → Int64) (e11 : Nat → Int64) (e6 : Nat → Int32) (x : Int32) : Option Value → va_W → Prop := fun (v9 : Option Value) (w9 : va_W) => (∃ (sp2 : Int64), ∃ (k3 k4 k5 : Nat → Int64), ∃ (k6 : Nat → Int32), ∃ (k7 k8 k9 k10 k11 : Nat → Int64), ∃ (j : Nat), ∃ (r : Int64), v9 = some (.long r) ∧ w9 = [oB 4 qm [.ref m0, .ref m1, .int (nI hc), .int (nI 0), .ref m2, .ref m3, .ref m4, .ref m5, .ref m6, .ref m7, .ref m8, .long sp2, .ref m9, .ref m10, .ref m11, .long ha], aI G m0 220 nw, aJ G m3 73 k3, aJ G m4 72 k4, aJ G m5 72 k5, aI G m6 72 k6, aJ G m7 72 k7, aJ G m8 12 k8, aJ G m9 72 k9, aJ G m10 72 k10, aJ G m11 72 k11] ∧ (dcm P n g) ∧ (MPT P M R n v sp2 k4 k5 k6 k7 k8 k9 k10 k11) ∧ (x = nI j) ∧ (1 ≤ j) ∧ (j ≤ 24) ∧ (r = fct P M n (tR P M R n v) (fR P M R n v) j)) ∨ (v9 = some (.long 0) ∧ w9 = [oB 4 qm [.ref m0, .ref m1, .int (nI hc), .int (nI 1), .ref m2, .ref m3, .ref m4, .ref m5, .ref m6, .ref m7, .ref m8, .long sp, .ref m9, .ref m10, .ref m11, .long ha], aI G m0 220 nw, aJ G m3 73 s3, aJ G m4 72 e4, aJ G m5 72 e5, aI G m6 72 e6, aJ G m7 72 e7, aJ G m8 12 e8, aJ G m9 72 e9, aJ G m10 72 e10, aJ G m11 72 e11] ∧ (¬ (nI 1 ≤ x ∧ x ≤ nI 24))) ∨ (v9 = some (.long 0) ∧ w9 = [oB 4 qm [.ref m0, .ref m1, .int (nI hc), .int (nI 2), .ref m2, .ref m3, .ref m4, .ref m5, .ref m6, .ref m7, .ref m8, .long sp, .ref m9, .ref m10, .ref m11, .long ha], aI G m0 220 nw, aJ G m3 73 s3, aJ G m4 72 e4, aJ G m5 72 e5, aI G m6 72 e6, aJ G m7 72 e7, aJ G m8 12 e8, aJ G m9 72 e9, aJ G m10 72 e10, aJ G m11 72 e11] ∧ (¬ dcm P n g) ∧ (nI 1 ≤ x ∧ x ≤ nI 24))
set_option maxHeartbeats 4000000 in
set_option maxRecDepth 100000 in
theorem c_X4_forecast (l : Launch) (hl : l.stackTraces = false) (G : Gt) (qm m0 m1 m2 m3 m4 m5 m6 m7 m8 m9 m10 m11 hc rf : Nat) (sp ha : Int64) (nw : Nat → Int32) (P M R n : Nat) (v g d : Nat → Int32) (s3 : Nat → Int64) (e4 : Nat → Int64) (e5 : Nat → Int64) (e7 : Nat → Int64) (e8 : Nat → Int64) (e9 : Nat → Int64) (e10 : Nat → Int64) (e11 : Nat → Int64) (e6 : Nat → Int32) (x : Int32) (hRM : RM nw P M R n v g d) (hn : n ≤ 72) (h01 : G01 n g) (hP : 2 ≤ P) (hP12 : P ≤ 12) (hM : M ≤ 1) (hR : R ≤ 5) (hgv : GVg M n v g) : Con l G yX4_forecast cX4_forecast 8 (some .long) 5 107 0 0 [.ref qm, .int x] [oB 4 qm [.ref m0, .ref m1, .int (nI hc), .int (nI rf), .ref m2, .ref m3, .ref m4, .ref m5, .ref m6, .ref m7, .ref m8, .long sp, .ref m9, .ref m10, .ref m11, .long ha], aI G m0 220 nw, aJ G m3 73 s3, aJ G m4 72 e4, aJ G m5 72 e5, aI G m6 72 e6, aJ G m7 72 e7, aJ G m8 12 e8, aJ G m9 72 e9, aJ G m10 72 e10, aJ G m11 72 e11] (po_X4_forecast G qm m0 m1 m2 m3 m4 m5 m6 m7 m8 m9 m10 m11 hc rf sp ha nw P M R n v g d s3 e4 e5 e7 e8 e9 e10 e11 e6 x) := by
  refine Con.of hl cd_X4_forecast (Nat.le_of_ble_eq_true rfl) ?_
  intro p e s m args below meth c A F hin9
  change Fx p l s m args meth c G A "SeasonalAdjusterModel" cX4_forecast 8 (some .long) at F
  change J p l e (cRm 5 107 0 0) s m args below meth c G A 8 (JQ below G A (po_X4_forecast G qm m0 m1 m2 m3 m4 m5 m6 m7 m8 m9 m10 m11 hc rf sp ha nw P M R n v g d s3 e4 e5 e7 e8 e9 e10 e11 e6 x) args s 0 0) 0 0 0 [(0, .ref qm), (1, .int x)] [] [oB 4 qm [.ref m0, .ref m1, .int (nI hc), .int (nI rf), .ref m2, .ref m3, .ref m4, .ref m5, .ref m6, .ref m7, .ref m8, .long sp, .ref m9, .ref m10, .ref m11, .long ha], aI G m0 220 nw, aJ G m3 73 s3, aJ G m4 72 e4, aJ G m5 72 e5, aI G m6 72 e6, aJ G m7 72 e7, aJ G m8 12 e8, aJ G m9 72 e9, aJ G m10 72 e10, aJ G m11 72 e11]
  refine J_aload_n F 0 (dcq dc_X4_forecast_0 0 rfl) rfl rfl ?_
  refine J_iload_n F 1 (dcq dc_X4_forecast_0 1 rfl) rfl rfl ?_
  refine J_i2l F (v := x.toInt64) (dcq dc_X4_forecast_0 2 rfl) rfl ?_
  refine J_lconst F (dcq dc_X4_forecast_0 3 rfl) lc_1 ?_
  refine J_ldc2 F (v2 := (24)) tw_5_39 rfl (dcq dc_X4_forecast_0 4 rfl) ?_
  refine J_callS F (wc := []) (wr := [oB 4 qm [.ref m0, .ref m1, .int (nI hc), .int (nI rf), .ref m2, .ref m3, .ref m4, .ref m5, .ref m6, .ref m7, .ref m8, .long sp, .ref m9, .ref m10, .ref m11, .long ha], aI G m0 220 nw, aJ G m3 73 s3, aJ G m4 72 e4, aJ G m5 72 e5, aI G m6 72 e6, aJ G m7 72 e7, aJ G m8 12 e8, aJ G m9 72 e9, aJ G m10 72 e10, aJ G m11 72 e11]) (rest := [.ref qm]) (c_X4_within l hl G x.toInt64 1 24) cd_X4_within tw_4_51 tw_4_50 [] [0, 1, 2, 3, 4, 5, 6, 7, 8, 9, 10] rfl rfl rfl rfl (by decide) rfl ⟨(Nat.le_of_ble_eq_true rfl), (Nat.le_of_ble_eq_true rfl), (Nat.le_of_ble_eq_true rfl), (Nat.le_of_ble_eq_true rfl)⟩ (Nat.le_of_ble_eq_true rfl) rfl (dcq dc_X4_forecast_0 5 rfl) ?_
  rintro _ _ h9x
  rcases h9x with ⟨rfl, rfl, hw_7⟩ | ⟨rfl, rfl, hw_7⟩
  · skip
    have hw_7 : 1 ≤ x.toInt64 ∧ x.toInt64 ≤ 24 := hw_7
    change J p l e (cRm 5 107 0 0) s m args below meth c G A 8 (JQ below G A (po_X4_forecast G qm m0 m1 m2 m3 m4 m5 m6 m7 m8 m9 m10 m11 hc rf sp ha nw P M R n v g d s3 e4 e5 e7 e8 e9 e10 e11 e6 x) args s 0 0) 0 0 10 [(0, .ref qm), (1, .int x)] [.int (nI 1), .ref qm] [oB 4 qm [.ref m0, .ref m1, .int (nI hc), .int (nI rf), .ref m2, .ref m3, .ref m4, .ref m5, .ref m6, .ref m7, .ref m8, .long sp, .ref m9, .ref m10, .ref m11, .long ha], aI G m0 220 nw, aJ G m3 73 s3, aJ G m4 72 e4, aJ G m5 72 e5, aI G m6 72 e6, aJ G m7 72 e7, aJ G m8 12 e8, aJ G m9 72 e9, aJ G m10 72 e10, aJ G m11 72 e11]
    have hw7 : nI 1 ≤ x ∧ x ≤ nI 24 := (wi (by decide) (by decide)).mp hw_7
    obtain ⟨j, hxj, hj1, hj2⟩ := rng_of hw7.1 hw7.2 (by decide) (by decide)
    refine J_cast (lv2 := [(0, .ref qm), (1, .int (nI j))]) (st2 := [.int (nI 1), .ref qm]) (ws2 := [oB 4 qm [.ref m0, .ref m1, .int (nI hc), .int (nI rf), .ref m2, .ref m3, .ref m4, .ref m5, .ref m6, .ref m7, .ref m8, .long sp, .ref m9, .ref m10, .ref m11, .long ha], aI G m0 220 nw, aJ G m3 73 s3, aJ G m4 72 e4, aJ G m5 72 e5, aI G m6 72 e6, aJ G m7 72 e7, aJ G m8 12 e8, aJ G m9 72 e9, aJ G m10 72 e10, aJ G m11 72 e11]) (by rw [hxj]) (rfl) (rfl) ?_
    refine J_if_ne F 17 (dcq dc_X4_forecast_0 6 rfl) (by decide) (fun _ => ?_) (fun h_1 => absurd h_1 (by decide))
    refine J_aload_n F 0 (dcq dc_X4_forecast_0 9 rfl) rfl rfl ?_
    refine J_callV F (wc := [oB 4 qm [.ref m0, .ref m1, .int (nI hc), .int (nI rf), .ref m2, .ref m3, .ref m4, .ref m5, .ref m6, .ref m7, .ref m8, .long sp, .ref m9, .ref m10, .ref m11, .long ha], aI G m0 220 nw, aJ G m3 73 s3, aJ G m4 72 e4, aJ G m5 72 e5, aI G m6 72 e6, aJ G m7 72 e7, aJ G m8 12 e8, aJ G m9 72 e9, aJ G m10 72 e10, aJ G m11 72 e11]) (wr := []) (rest := [.ref qm]) (qc := 0) (c_X4_decomposes l hl G qm m0 m1 m2 m3 m4 m5 m6 m7 m8 m9 m10 m11 hc rf sp ha nw P M R n v g d s3 e4 e5 e7 e8 e9 e10 e11 e6 (by first | assumption | omega) (by first | assumption | omega) (by first | assumption | omega) (by first | assumption | omega) (by first | assumption | omega) (by first | assumption | omega) (by first | assumption | omega) (by first | assumption | omega)) cd_X4_decomposes cv_X4_decomposes rfl rfl rfl tw_4_172 [0, 1, 2, 3, 4, 5, 6, 7, 8, 9, 10] [] rfl rfl rfl rfl (by decide) rfl ⟨(Nat.le_of_ble_eq_true rfl), (Nat.le_of_ble_eq_true rfl), (Nat.le_of_ble_eq_true rfl), (Nat.le_of_ble_eq_true rfl)⟩ (Nat.le_of_ble_eq_true rfl) rfl (dcq dc_X4_forecast_0 10 rfl) ?_
    rintro _ _ h9x
    rcases h9x with ⟨sp2, k3, k4, k5, k6, k7, k8, k9, k10, k11, rfl, rfl, hd, hmp⟩ | ⟨rfl, rfl, hnd⟩
    · skip
      have hd : dcm P n g := hd
      have hmp : MPT P M R n v sp2 k4 k5 k6 k7 k8 k9 k10 k11 := hmp
      change J p l e (cRm 5 107 0 0) s m args below meth c G A 8 (JQ below G A (po_X4_forecast G qm m0 m1 m2 m3 m4 m5 m6 m7 m8 m9 m10 m11 hc rf sp ha nw P M R n v g d s3 e4 e5 e7 e8 e9 e10 e11 e6 x) args s 0 0) 0 0 21 [(0, .ref qm), (1, .int (nI j))] [.int (nI 1), .ref qm] [oB 4 qm [.ref m0, .ref m1, .int (nI hc), .int (nI rf), .ref m2, .ref m3, .ref m4, .ref m5, .ref m6, .ref m7, .ref m8, .long sp2, .ref m9, .ref m10, .ref m11, .long ha], aI G m0 220 nw, aJ G m3 73 k3, aJ G m4 72 k4, aJ G m5 72 k5, aI G m6 72 k6, aJ G m7 72 k7, aJ G m8 12 k8, aJ G m9 72 k9, aJ G m10 72 k10, aJ G m11 72 k11]
      obtain ⟨q4, q5, q6, q7, q8, q9, q10, q11, qsp⟩ := id hmp
      have hdu := hd
      unfold dcm at hdu
      obtain ⟨h5n, hPn, hcg⟩ := hdu
      refine J_if_eq F 28 (dcq dc_X4_forecast_0 11 rfl) (by decide) (fun h_2 => absurd h_2 (by decide)) (fun _ => ?_)
      refine J_iconst F (dcq dc_X4_forecast_0 12 rfl) ic_0 ?_
      refine J_goto F 29 (dcq dc_X4_forecast_0 13 rfl) (by decide) ?_
      refine J_callV F (wc := [oB 4 qm [.ref m0, .ref m1, .int (nI hc), .int (nI rf), .ref m2, .ref m3, .ref m4, .ref m5, .ref m6, .ref m7, .ref m8, .long sp2, .ref m9, .ref m10, .ref m11, .long ha]]) (wr := [aI G m0 220 nw, aJ G m3 73 k3, aJ G m4 72 k4, aJ G m5 72 k5, aI G m6 72 k6, aJ G m7 72 k7, aJ G m8 12 k8, aJ G m9 72 k9, aJ G m10 72 k10, aJ G m11 72 k11]) (rest := []) (qc := 0) (c_X4_refused_0 l hl G qm m0 m1 m2 m3 m4 m5 m6 m7 m8 m9 m10 m11 hc rf sp2 ha) cd_X4_refused cv_X4_refused rfl rfl rfl tw_4_40 [0] [1, 2, 3, 4, 5, 6, 7, 8, 9, 10] rfl rfl rfl rfl (by decide) rfl ⟨(Nat.le_of_ble_eq_true rfl), (Nat.le_of_ble_eq_true rfl), (Nat.le_of_ble_eq_true rfl), (Nat.le_of_ble_eq_true rfl)⟩ (Nat.le_of_ble_eq_true rfl) rfl (dcq dc_X4_forecast_0 15 rfl) ?_
      rintro _ _ ⟨rfl, rfl⟩
      change J p l e (cRm 5 107 0 0) s m args below meth c G A 8 (JQ below G A (po_X4_forecast G qm m0 m1 m2 m3 m4 m5 m6 m7 m8 m9 m10 m11 hc rf sp ha nw P M R n v g d s3 e4 e5 e7 e8 e9 e10 e11 e6 x) args s 0 0) 0 0 32 [(0, .ref qm), (1, .int (nI j))] [.int (nI 0)] [aI G m0 220 nw, aJ G m3 73 k3, aJ G m4 72 k4, aJ G m5 72 k5, aI G m6 72 k6, aJ G m7 72 k7, aJ G m8 12 k8, aJ G m9 72 k9, aJ G m10 72 k10, aJ G m11 72 k11, oB 4 qm [.ref m0, .ref m1, .int (nI hc), .int (nI 0), .ref m2, .ref m3, .ref m4, .ref m5, .ref m6, .ref m7, .ref m8, .long sp2, .ref m9, .ref m10, .ref m11, .long ha]]
      refine J_world (ws2 := [oB 4 qm [.ref m0, .ref m1, .int (nI hc), .int (nI 0), .ref m2, .ref m3, .ref m4, .ref m5, .ref m6, .ref m7, .ref m8, .long sp2, .ref m9, .ref m10, .ref m11, .long ha], aI G m0 220 nw, aJ G m3 73 k3, aJ G m4 72 k4, aJ G m5 72 k5, aI G m6 72 k6, aJ G m7 72 k7, aJ G m8 12 k8, aJ G m9 72 k9, aJ G m10 72 k10, aJ G m11 72 k11]) [10, 0, 1, 2, 3, 4, 5, 6, 7, 8, 9] rfl rfl ?_
      refine J_if_eq F 37 (dcq dc_X4_forecast_0 16 rfl) (by decide) (fun _ => ?_) (fun h_3 => absurd h_3 (by decide))
      refine J_aload_n F 0 (dcq dc_X4_forecast_0 19 rfl) rfl rfl ?_
      refine J_get F fcX4 0 0 rfl (Nat.le_of_ble_eq_true rfl) tw_3_223 rfl rfl (dcq dc_X4_forecast_0 20 rfl) ?_
      refine J_iconst F (dcq dc_X4_forecast_0 21 rfl) ic_3 ?_
      refine J_iald F 1 rfl (by omega) (Nat.le_of_ble_eq_true rfl) (dcq dc_X4_forecast_0 22 rfl) ?_
      refine J_cast rfl (st2 := [.int (nI n)]) (by rw [hRM.2.2.2.1]) rfl ?_
      refine J_iconst F (dcq dc_X4_forecast_0 23 rfl) ic_1 ?_
      refine J_isub F (v := nI (n - 1)) (dcq dc_X4_forecast_0 24 rfl) (pk_sub (by omega)) ?_
      refine J_istore_n F (lv2 := [(2, .int (nI (n - 1))), (0, .ref qm), (1, .int (nI j))]) (dcq dc_X4_forecast_0 25 rfl) rfl (Nat.le_of_ble_eq_true rfl) rfl ?_
      refine J_aload_n F 1 (dcq dc_X4_forecast_0 26 rfl) rfl rfl ?_
      refine J_get F fcX4 0 0 rfl (Nat.le_of_ble_eq_true rfl) tw_3_223 rfl rfl (dcq dc_X4_forecast_0 27 rfl) ?_
      refine J_iconst F (dcq dc_X4_forecast_0 28 rfl) ic_0 ?_
      refine J_iald F 1 rfl (by omega) (Nat.le_of_ble_eq_true rfl) (dcq dc_X4_forecast_0 29 rfl) ?_
      refine J_cast rfl (st2 := [.int (nI P)]) (by rw [hRM.1]) rfl ?_
      refine J_iload_n F 0 (dcq dc_X4_forecast_0 30 rfl) rfl rfl ?_
      refine J_ncmp_ge F 65 (by omega) (by omega) (dcq dc_X4_forecast_0 31 rfl) (by decide) (fun h_4 => ?_) (fun h_4 => ?_)
      · skip
        have hmn := h_4
        refine J_iload_n F 0 (dcq dc_X4_forecast_0 37 rfl) rfl rfl ?_
        refine J_cast (lv2 := [(2, .int (nI (n - 1))), (0, .ref qm), (1, .int (nI j))]) (st2 := [.int (nI (min P (n - 1)))]) (ws2 := [oB 4 qm [.ref m0, .ref m1, .int (nI hc), .int (nI 0), .ref m2, .ref m3, .ref m4, .ref m5, .ref m6, .ref m7, .ref m8, .long sp2, .ref m9, .ref m10, .ref m11, .long ha], aI G m0 220 nw, aJ G m3 73 k3, aJ G m4 72 k4, aJ G m5 72 k5, aI G m6 72 k6, aJ G m7 72 k7, aJ G m8 12 k8, aJ G m9 72 k9, aJ G m10 72 k10, aJ G m11 72 k11]) (rfl) (by rw [Nat.min_eq_right (show n - 1 ≤ P by omega)]) (rfl) ?_
        refine J_istore_n F (lv2 := [(3, .int (nI (min P (n - 1)))), (2, .int (nI (n - 1))), (0, .ref qm), (1, .int (nI j))]) (dcq dc_X4_forecast_0 38 rfl) rfl (Nat.le_of_ble_eq_true rfl) rfl ?_
        refine J_aload_n F 2 (dcq dc_X4_forecast_0 39 rfl) rfl rfl ?_
        refine J_get F fcX4 0 13 rfl (Nat.le_of_ble_eq_true rfl) tw_3_236 rfl rfl (dcq dc_X4_forecast_0 40 rfl) ?_
        refine J_iload_n F 1 (dcq dc_X4_forecast_0 41 rfl) rfl rfl ?_
        refine J_lald F 9 rfl (by omega) (Nat.le_of_ble_eq_true rfl) (dcq dc_X4_forecast_0 42 rfl) ?_
        refine J_iload_n F 3 (dcq dc_X4_forecast_0 43 rfl) rfl rfl ?_
        refine J_i2l F (v := lN j) (dcq dc_X4_forecast_0 44 rfl) (nI_l (by omega)) ?_
        refine J_aload_n F 2 (dcq dc_X4_forecast_0 45 rfl) rfl rfl ?_
        refine J_get F fcX4 0 13 rfl (Nat.le_of_ble_eq_true rfl) tw_3_236 rfl rfl (dcq dc_X4_forecast_0 46 rfl) ?_
        refine J_iload_n F 1 (dcq dc_X4_forecast_0 47 rfl) rfl rfl ?_
        refine J_lald F 9 rfl (by omega) (Nat.le_of_ble_eq_true rfl) (dcq dc_X4_forecast_1 0 rfl) ?_
        refine J_aload_n F 2 (dcq dc_X4_forecast_1 1 rfl) rfl rfl ?_
        refine J_get F fcX4 0 13 rfl (Nat.le_of_ble_eq_true rfl) tw_3_236 rfl rfl (dcq dc_X4_forecast_1 2 rfl) ?_
        refine J_iload_n F 1 (dcq dc_X4_forecast_1 3 rfl) rfl rfl ?_
        refine J_iload_n F 0 (dcq dc_X4_forecast_1 4 rfl) rfl rfl ?_
        refine J_isub F (v := nI (n - 1 - min P (n - 1))) (dcq dc_X4_forecast_1 5 rfl) (pk_sub (by omega)) ?_
        refine J_lald F 9 rfl (by omega) (Nat.le_of_ble_eq_true rfl) (dcq dc_X4_forecast_1 6 rfl) ?_
        refine J_lsub F (v := (k10 (n - 1)) - (k10 (n - 1 - min P (n - 1)))) (dcq dc_X4_forecast_1 7 rfl) rfl ?_
        refine J_lmul F (v := (lN j) * ((k10 (n - 1)) - (k10 (n - 1 - min P (n - 1))))) (dcq dc_X4_forecast_1 8 rfl) rfl ?_
        refine J_iload_n F 0 (dcq dc_X4_forecast_1 9 rfl) rfl rfl ?_
        refine J_i2l F (v := lN (min P (n - 1))) (dcq dc_X4_forecast_1 10 rfl) (nI_l (by omega)) ?_
        refine J_callS F (wc := []) (wr := [oB 4 qm [.ref m0, .ref m1, .int (nI hc), .int (nI 0), .ref m2, .ref m3, .ref m4, .ref m5, .ref m6, .ref m7, .ref m8, .long sp2, .ref m9, .ref m10, .ref m11, .long ha], aI G m0 220 nw, aJ G m3 73 k3, aJ G m4 72 k4, aJ G m5 72 k5, aI G m6 72 k6, aJ G m7 72 k7, aJ G m8 12 k8, aJ G m9 72 k9, aJ G m10 72 k10, aJ G m11 72 k11]) (rest := [.long (k10 (n - 1))]) (c_X4_over l hl G ((lN j) * ((k10 (n - 1)) - (k10 (n - 1 - min P (n - 1))))) (lN (min P (n - 1))) (by exact lNpos (by omega) (by omega))) cd_X4_over tw_4_138 tw_4_137 [] [0, 1, 2, 3, 4, 5, 6, 7, 8, 9, 10] rfl rfl rfl rfl (by decide) rfl ⟨(Nat.le_of_ble_eq_true rfl), (Nat.le_of_ble_eq_true rfl), (Nat.le_of_ble_eq_true rfl), (Nat.le_of_ble_eq_true rfl)⟩ (Nat.le_of_ble_eq_true rfl) rfl (dcq dc_X4_forecast_1 11 rfl) ?_
        rintro _ _ ⟨rq, rfl, rfl, hq⟩
        change J p l e (cRm 5 107 0 0) s m args below meth c G A 8 (JQ below G A (po_X4_forecast G qm m0 m1 m2 m3 m4 m5 m6 m7 m8 m9 m10 m11 hc rf sp ha nw P M R n v g d s3 e4 e5 e7 e8 e9 e10 e11 e6 x) args s 0 0) 0 0 96 [(3, .int (nI (min P (n - 1)))), (2, .int (nI (n - 1))), (0, .ref qm), (1, .int (nI j))] [.long rq, .long (k10 (n - 1))] [oB 4 qm [.ref m0, .ref m1, .int (nI hc), .int (nI 0), .ref m2, .ref m3, .ref m4, .ref m5, .ref m6, .ref m7, .ref m8, .long sp2, .ref m9, .ref m10, .ref m11, .long ha], aI G m0 220 nw, aJ G m3 73 k3, aJ G m4 72 k4, aJ G m5 72 k5, aI G m6 72 k6, aJ G m7 72 k7, aJ G m8 12 k8, aJ G m9 72 k9, aJ G m10 72 k10, aJ G m11 72 k11]
        have hq : rq = quo ((lN j) * ((k10 (n - 1)) - (k10 (n - 1 - min P (n - 1))))) (lN (min P (n - 1))) := hq
        have hml9 := Nat.mod_lt (n - 1 + j) (show 0 < P by omega)
        refine J_ladd F (v := (k10 (n - 1)) + rq) (dcq dc_X4_forecast_1 12 rfl) rfl ?_
        refine J_lstore F (lv2 := [(4, .long ((k10 (n - 1)) + rq)), (3, .int (nI (min P (n - 1)))), (2, .int (nI (n - 1))), (0, .ref qm), (1, .int (nI j))]) (dcq dc_X4_forecast_1 13 rfl) (Nat.le_of_ble_eq_true rfl) rfl ?_
        refine J_aload_n F 3 (dcq dc_X4_forecast_1 14 rfl) rfl rfl ?_
        refine J_get F fcX4 0 10 rfl (Nat.le_of_ble_eq_true rfl) tw_3_233 rfl rfl (dcq dc_X4_forecast_1 15 rfl) ?_
        refine J_iload_n F 2 (dcq dc_X4_forecast_1 16 rfl) rfl rfl ?_
        refine J_iload_n F 4 (dcq dc_X4_forecast_1 17 rfl) rfl rfl ?_
        refine J_iadd F (v := nI (n - 1 + j)) (dcq dc_X4_forecast_1 18 rfl) (nI_add _ _) ?_
        refine J_aload_n F 3 (dcq dc_X4_forecast_1 19 rfl) rfl rfl ?_
        refine J_get F fcX4 0 0 rfl (Nat.le_of_ble_eq_true rfl) tw_3_223 rfl rfl (dcq dc_X4_forecast_1 20 rfl) ?_
        refine J_iconst F (dcq dc_X4_forecast_1 21 rfl) ic_0 ?_
        refine J_iald F 1 rfl (by omega) (Nat.le_of_ble_eq_true rfl) (dcq dc_X4_forecast_1 22 rfl) ?_
        refine J_cast rfl (st2 := [.int (nI P), .int (nI (n - 1 + j)), .ref m8]) (by rw [hRM.1]) rfl ?_
        refine J_irem F (v := nI ((n - 1 + j) % P)) (dcq dc_X4_forecast_1 23 rfl) (nI_ne0 (by omega) (by omega)) (pk_rem (by omega) (by omega) (by omega)) ?_
        refine J_lald F 7 rfl (by omega) (Nat.le_of_ble_eq_true rfl) (dcq dc_X4_forecast_1 24 rfl) ?_
        refine J_lstore F (lv2 := [(6, .long (k8 ((n - 1 + j) % P))), (4, .long ((k10 (n - 1)) + rq)), (3, .int (nI (min P (n - 1)))), (2, .int (nI (n - 1))), (0, .ref qm), (1, .int (nI j))]) (dcq dc_X4_forecast_1 25 rfl) (Nat.le_of_ble_eq_true rfl) rfl ?_
        refine J_aload_n F 4 (dcq dc_X4_forecast_1 26 rfl) rfl rfl ?_
        refine J_get F fcX4 0 0 rfl (Nat.le_of_ble_eq_true rfl) tw_3_223 rfl rfl (dcq dc_X4_forecast_1 27 rfl) ?_
        refine J_iconst F (dcq dc_X4_forecast_1 28 rfl) ic_1 ?_
        refine J_iald F 1 rfl (by omega) (Nat.le_of_ble_eq_true rfl) (dcq dc_X4_forecast_1 29 rfl) ?_
        refine J_cast rfl (st2 := [.int (nI M)]) (by rw [hRM.2.1]) rfl ?_
        refine J_nif_ne F 133 (by omega) (dcq dc_X4_forecast_1 30 rfl) (by decide) (fun h_5 => ?_) (fun h_5 => ?_)
        · skip
          have hm := h_5
          refine J_lload F 1 (dcq dc_X4_forecast_1 35 rfl) rfl ?_
          refine J_lload F 0 (dcq dc_X4_forecast_1 36 rfl) rfl ?_
          refine J_lmul F (v := ((k10 (n - 1)) + rq) * (k8 ((n - 1 + j) % P))) (dcq dc_X4_forecast_1 37 rfl) rfl ?_
          refine J_ldc2 F (v2 := (10000)) tw_4_180 rfl (dcq dc_X4_forecast_1 38 rfl) ?_
          refine J_callS F (wc := []) (wr := [oB 4 qm [.ref m0, .ref m1, .int (nI hc), .int (nI 0), .ref m2, .ref m3, .ref m4, .ref m5, .ref m6, .ref m7, .ref m8, .long sp2, .ref m9, .ref m10, .ref m11, .long ha], aI G m0 220 nw, aJ G m3 73 k3, aJ G m4 72 k4, aJ G m5 72 k5, aI G m6 72 k6, aJ G m7 72 k7, aJ G m8 12 k8, aJ G m9 72 k9, aJ G m10 72 k10, aJ G m11 72 k11]) (rest := []) (c_X4_over l hl G (((k10 (n - 1)) + rq) * (k8 ((n - 1 + j) % P))) 10000 (by decide)) cd_X4_over tw_4_138 tw_4_137 [] [0, 1, 2, 3, 4, 5, 6, 7, 8, 9, 10] rfl rfl rfl rfl (by decide) rfl ⟨(Nat.le_of_ble_eq_true rfl), (Nat.le_of_ble_eq_true rfl), (Nat.le_of_ble_eq_true rfl), (Nat.le_of_ble_eq_true rfl)⟩ (Nat.le_of_ble_eq_true rfl) rfl (dcq dc_X4_forecast_1 39 rfl) ?_
          rintro _ _ ⟨rq2, rfl, rfl, hq2⟩
          change J p l e (cRm 5 107 0 0) s m args below meth c G A 8 (JQ below G A (po_X4_forecast G qm m0 m1 m2 m3 m4 m5 m6 m7 m8 m9 m10 m11 hc rf sp ha nw P M R n v g d s3 e4 e5 e7 e8 e9 e10 e11 e6 x) args s 0 0) 0 0 144 [(6, .long (k8 ((n - 1 + j) % P))), (4, .long ((k10 (n - 1)) + rq)), (3, .int (nI (min P (n - 1)))), (2, .int (nI (n - 1))), (0, .ref qm), (1, .int (nI j))] [.long rq2] [oB 4 qm [.ref m0, .ref m1, .int (nI hc), .int (nI 0), .ref m2, .ref m3, .ref m4, .ref m5, .ref m6, .ref m7, .ref m8, .long sp2, .ref m9, .ref m10, .ref m11, .long ha], aI G m0 220 nw, aJ G m3 73 k3, aJ G m4 72 k4, aJ G m5 72 k5, aI G m6 72 k6, aJ G m7 72 k7, aJ G m8 12 k8, aJ G m9 72 k9, aJ G m10 72 k10, aJ G m11 72 k11]
          have hq2 : rq2 = quo (((k10 (n - 1)) + rq) * (k8 ((n - 1 + j) % P))) 10000 := hq2
          exact J_lret F (Or.inl ⟨sp2, k3, k4, k5, k6, k7, k8, k9, k10, k11, j, rq2, rfl, rfl, hd, hmp, hxj, hj1, hj2, by unfold fct; first | rw [if_pos hm, hq, q10 _ (by omega), q10 _ (by omega), q8 _ hml9] | rw [if_neg (by omega), hq2, hq, q10 _ (by omega), q10 _ (by omega), q8 _ hml9]⟩) (Nat.le_of_ble_eq_true rfl) (Nat.le_of_ble_eq_true rfl) (dcq dc_X4_forecast_1 40 rfl)
        · skip
          have hm := h_5
          refine J_lload F 1 (dcq dc_X4_forecast_1 31 rfl) rfl ?_
          refine J_lload F 0 (dcq dc_X4_forecast_1 32 rfl) rfl ?_
          refine J_ladd F (v := ((k10 (n - 1)) + rq) + (k8 ((n - 1 + j) % P))) (dcq dc_X4_forecast_1 33 rfl) rfl ?_
          refine J_goto F 144 (dcq dc_X4_forecast_1 34 rfl) (by decide) ?_
          exact J_lret F (Or.inl ⟨sp2, k3, k4, k5, k6, k7, k8, k9, k10, k11, j, ((k10 (n - 1)) + rq) + (k8 ((n - 1 + j) % P)), rfl, rfl, hd, hmp, hxj, hj1, hj2, by unfold fct; first | rw [if_pos hm, hq, q10 _ (by omega), q10 _ (by omega), q8 _ hml9] | rw [if_neg (by omega), hq2, hq, q10 _ (by omega), q10 _ (by omega), q8 _ hml9]⟩) (Nat.le_of_ble_eq_true rfl) (Nat.le_of_ble_eq_true rfl) (dcq dc_X4_forecast_1 40 rfl)
      · skip
        have hmn := h_4
        refine J_aload_n F 1 (dcq dc_X4_forecast_0 32 rfl) rfl rfl ?_
        refine J_get F fcX4 0 0 rfl (Nat.le_of_ble_eq_true rfl) tw_3_223 rfl rfl (dcq dc_X4_forecast_0 33 rfl) ?_
        refine J_iconst F (dcq dc_X4_forecast_0 34 rfl) ic_0 ?_
        refine J_iald F 1 rfl (by omega) (Nat.le_of_ble_eq_true rfl) (dcq dc_X4_forecast_0 35 rfl) ?_
        refine J_cast rfl (st2 := [.int (nI P)]) (by rw [hRM.1]) rfl ?_
        refine J_goto F 66 (dcq dc_X4_forecast_0 36 rfl) (by decide) ?_
        refine J_cast (lv2 := [(2, .int (nI (n - 1))), (0, .ref qm), (1, .int (nI j))]) (st2 := [.int (nI (min P (n - 1)))]) (ws2 := [oB 4 qm [.ref m0, .ref m1, .int (nI hc), .int (nI 0), .ref m2, .ref m3, .ref m4, .ref m5, .ref m6, .ref m7, .ref m8, .long sp2, .ref m9, .ref m10, .ref m11, .long ha], aI G m0 220 nw, aJ G m3 73 k3, aJ G m4 72 k4, aJ G m5 72 k5, aI G m6 72 k6, aJ G m7 72 k7, aJ G m8 12 k8, aJ G m9 72 k9, aJ G m10 72 k10, aJ G m11 72 k11]) (rfl) (by rw [Nat.min_eq_left (show P ≤ n - 1 by omega)]) (rfl) ?_
        refine J_istore_n F (lv2 := [(3, .int (nI (min P (n - 1)))), (2, .int (nI (n - 1))), (0, .ref qm), (1, .int (nI j))]) (dcq dc_X4_forecast_0 38 rfl) rfl (Nat.le_of_ble_eq_true rfl) rfl ?_
        refine J_aload_n F 2 (dcq dc_X4_forecast_0 39 rfl) rfl rfl ?_
        refine J_get F fcX4 0 13 rfl (Nat.le_of_ble_eq_true rfl) tw_3_236 rfl rfl (dcq dc_X4_forecast_0 40 rfl) ?_
        refine J_iload_n F 1 (dcq dc_X4_forecast_0 41 rfl) rfl rfl ?_
        refine J_lald F 9 rfl (by omega) (Nat.le_of_ble_eq_true rfl) (dcq dc_X4_forecast_0 42 rfl) ?_
        refine J_iload_n F 3 (dcq dc_X4_forecast_0 43 rfl) rfl rfl ?_
        refine J_i2l F (v := lN j) (dcq dc_X4_forecast_0 44 rfl) (nI_l (by omega)) ?_
        refine J_aload_n F 2 (dcq dc_X4_forecast_0 45 rfl) rfl rfl ?_
        refine J_get F fcX4 0 13 rfl (Nat.le_of_ble_eq_true rfl) tw_3_236 rfl rfl (dcq dc_X4_forecast_0 46 rfl) ?_
        refine J_iload_n F 1 (dcq dc_X4_forecast_0 47 rfl) rfl rfl ?_
        refine J_lald F 9 rfl (by omega) (Nat.le_of_ble_eq_true rfl) (dcq dc_X4_forecast_1 0 rfl) ?_
        refine J_aload_n F 2 (dcq dc_X4_forecast_1 1 rfl) rfl rfl ?_
        refine J_get F fcX4 0 13 rfl (Nat.le_of_ble_eq_true rfl) tw_3_236 rfl rfl (dcq dc_X4_forecast_1 2 rfl) ?_
        refine J_iload_n F 1 (dcq dc_X4_forecast_1 3 rfl) rfl rfl ?_
        refine J_iload_n F 0 (dcq dc_X4_forecast_1 4 rfl) rfl rfl ?_
        refine J_isub F (v := nI (n - 1 - min P (n - 1))) (dcq dc_X4_forecast_1 5 rfl) (pk_sub (by omega)) ?_
        refine J_lald F 9 rfl (by omega) (Nat.le_of_ble_eq_true rfl) (dcq dc_X4_forecast_1 6 rfl) ?_
        refine J_lsub F (v := (k10 (n - 1)) - (k10 (n - 1 - min P (n - 1)))) (dcq dc_X4_forecast_1 7 rfl) rfl ?_
        refine J_lmul F (v := (lN j) * ((k10 (n - 1)) - (k10 (n - 1 - min P (n - 1))))) (dcq dc_X4_forecast_1 8 rfl) rfl ?_
        refine J_iload_n F 0 (dcq dc_X4_forecast_1 9 rfl) rfl rfl ?_
        refine J_i2l F (v := lN (min P (n - 1))) (dcq dc_X4_forecast_1 10 rfl) (nI_l (by omega)) ?_
        refine J_callS F (wc := []) (wr := [oB 4 qm [.ref m0, .ref m1, .int (nI hc), .int (nI 0), .ref m2, .ref m3, .ref m4, .ref m5, .ref m6, .ref m7, .ref m8, .long sp2, .ref m9, .ref m10, .ref m11, .long ha], aI G m0 220 nw, aJ G m3 73 k3, aJ G m4 72 k4, aJ G m5 72 k5, aI G m6 72 k6, aJ G m7 72 k7, aJ G m8 12 k8, aJ G m9 72 k9, aJ G m10 72 k10, aJ G m11 72 k11]) (rest := [.long (k10 (n - 1))]) (c_X4_over l hl G ((lN j) * ((k10 (n - 1)) - (k10 (n - 1 - min P (n - 1))))) (lN (min P (n - 1))) (by exact lNpos (by omega) (by omega))) cd_X4_over tw_4_138 tw_4_137 [] [0, 1, 2, 3, 4, 5, 6, 7, 8, 9, 10] rfl rfl rfl rfl (by decide) rfl ⟨(Nat.le_of_ble_eq_true rfl), (Nat.le_of_ble_eq_true rfl), (Nat.le_of_ble_eq_true rfl), (Nat.le_of_ble_eq_true rfl)⟩ (Nat.le_of_ble_eq_true rfl) rfl (dcq dc_X4_forecast_1 11 rfl) ?_
        rintro _ _ ⟨rq, rfl, rfl, hq⟩
        change J p l e (cRm 5 107 0 0) s m args below meth c G A 8 (JQ below G A (po_X4_forecast G qm m0 m1 m2 m3 m4 m5 m6 m7 m8 m9 m10 m11 hc rf sp ha nw P M R n v g d s3 e4 e5 e7 e8 e9 e10 e11 e6 x) args s 0 0) 0 0 96 [(3, .int (nI (min P (n - 1)))), (2, .int (nI (n - 1))), (0, .ref qm), (1, .int (nI j))] [.long rq, .long (k10 (n - 1))] [oB 4 qm [.ref m0, .ref m1, .int (nI hc), .int (nI 0), .ref m2, .ref m3, .ref m4, .ref m5, .ref m6, .ref m7, .ref m8, .long sp2, .ref m9, .ref m10, .ref m11, .long ha], aI G m0 220 nw, aJ G m3 73 k3, aJ G m4 72 k4, aJ G m5 72 k5, aI G m6 72 k6, aJ G m7 72 k7, aJ G m8 12 k8, aJ G m9 72 k9, aJ G m10 72 k10, aJ G m11 72 k11]
        have hq : rq = quo ((lN j) * ((k10 (n - 1)) - (k10 (n - 1 - min P (n - 1))))) (lN (min P (n - 1))) := hq
        have hml9 := Nat.mod_lt (n - 1 + j) (show 0 < P by omega)
        refine J_ladd F (v := (k10 (n - 1)) + rq) (dcq dc_X4_forecast_1 12 rfl) rfl ?_
        refine J_lstore F (lv2 := [(4, .long ((k10 (n - 1)) + rq)), (3, .int (nI (min P (n - 1)))), (2, .int (nI (n - 1))), (0, .ref qm), (1, .int (nI j))]) (dcq dc_X4_forecast_1 13 rfl) (Nat.le_of_ble_eq_true rfl) rfl ?_
        refine J_aload_n F 3 (dcq dc_X4_forecast_1 14 rfl) rfl rfl ?_
        refine J_get F fcX4 0 10 rfl (Nat.le_of_ble_eq_true rfl) tw_3_233 rfl rfl (dcq dc_X4_forecast_1 15 rfl) ?_
        refine J_iload_n F 2 (dcq dc_X4_forecast_1 16 rfl) rfl rfl ?_
        refine J_iload_n F 4 (dcq dc_X4_forecast_1 17 rfl) rfl rfl ?_
        refine J_iadd F (v := nI (n - 1 + j)) (dcq dc_X4_forecast_1 18 rfl) (nI_add _ _) ?_
        refine J_aload_n F 3 (dcq dc_X4_forecast_1 19 rfl) rfl rfl ?_
        refine J_get F fcX4 0 0 rfl (Nat.le_of_ble_eq_true rfl) tw_3_223 rfl rfl (dcq dc_X4_forecast_1 20 rfl) ?_
        refine J_iconst F (dcq dc_X4_forecast_1 21 rfl) ic_0 ?_
        refine J_iald F 1 rfl (by omega) (Nat.le_of_ble_eq_true rfl) (dcq dc_X4_forecast_1 22 rfl) ?_
        refine J_cast rfl (st2 := [.int (nI P), .int (nI (n - 1 + j)), .ref m8]) (by rw [hRM.1]) rfl ?_
        refine J_irem F (v := nI ((n - 1 + j) % P)) (dcq dc_X4_forecast_1 23 rfl) (nI_ne0 (by omega) (by omega)) (pk_rem (by omega) (by omega) (by omega)) ?_
        refine J_lald F 7 rfl (by omega) (Nat.le_of_ble_eq_true rfl) (dcq dc_X4_forecast_1 24 rfl) ?_
        refine J_lstore F (lv2 := [(6, .long (k8 ((n - 1 + j) % P))), (4, .long ((k10 (n - 1)) + rq)), (3, .int (nI (min P (n - 1)))), (2, .int (nI (n - 1))), (0, .ref qm), (1, .int (nI j))]) (dcq dc_X4_forecast_1 25 rfl) (Nat.le_of_ble_eq_true rfl) rfl ?_
        refine J_aload_n F 4 (dcq dc_X4_forecast_1 26 rfl) rfl rfl ?_
        refine J_get F fcX4 0 0 rfl (Nat.le_of_ble_eq_true rfl) tw_3_223 rfl rfl (dcq dc_X4_forecast_1 27 rfl) ?_
        refine J_iconst F (dcq dc_X4_forecast_1 28 rfl) ic_1 ?_
        refine J_iald F 1 rfl (by omega) (Nat.le_of_ble_eq_true rfl) (dcq dc_X4_forecast_1 29 rfl) ?_
        refine J_cast rfl (st2 := [.int (nI M)]) (by rw [hRM.2.1]) rfl ?_
        refine J_nif_ne F 133 (by omega) (dcq dc_X4_forecast_1 30 rfl) (by decide) (fun h_6 => ?_) (fun h_6 => ?_)
        · skip
          have hm := h_6
          refine J_lload F 1 (dcq dc_X4_forecast_1 35 rfl) rfl ?_
          refine J_lload F 0 (dcq dc_X4_forecast_1 36 rfl) rfl ?_
          refine J_lmul F (v := ((k10 (n - 1)) + rq) * (k8 ((n - 1 + j) % P))) (dcq dc_X4_forecast_1 37 rfl) rfl ?_
          refine J_ldc2 F (v2 := (10000)) tw_4_180 rfl (dcq dc_X4_forecast_1 38 rfl) ?_
          refine J_callS F (wc := []) (wr := [oB 4 qm [.ref m0, .ref m1, .int (nI hc), .int (nI 0), .ref m2, .ref m3, .ref m4, .ref m5, .ref m6, .ref m7, .ref m8, .long sp2, .ref m9, .ref m10, .ref m11, .long ha], aI G m0 220 nw, aJ G m3 73 k3, aJ G m4 72 k4, aJ G m5 72 k5, aI G m6 72 k6, aJ G m7 72 k7, aJ G m8 12 k8, aJ G m9 72 k9, aJ G m10 72 k10, aJ G m11 72 k11]) (rest := []) (c_X4_over l hl G (((k10 (n - 1)) + rq) * (k8 ((n - 1 + j) % P))) 10000 (by decide)) cd_X4_over tw_4_138 tw_4_137 [] [0, 1, 2, 3, 4, 5, 6, 7, 8, 9, 10] rfl rfl rfl rfl (by decide) rfl ⟨(Nat.le_of_ble_eq_true rfl), (Nat.le_of_ble_eq_true rfl), (Nat.le_of_ble_eq_true rfl), (Nat.le_of_ble_eq_true rfl)⟩ (Nat.le_of_ble_eq_true rfl) rfl (dcq dc_X4_forecast_1 39 rfl) ?_
          rintro _ _ ⟨rq2, rfl, rfl, hq2⟩
          change J p l e (cRm 5 107 0 0) s m args below meth c G A 8 (JQ below G A (po_X4_forecast G qm m0 m1 m2 m3 m4 m5 m6 m7 m8 m9 m10 m11 hc rf sp ha nw P M R n v g d s3 e4 e5 e7 e8 e9 e10 e11 e6 x) args s 0 0) 0 0 144 [(6, .long (k8 ((n - 1 + j) % P))), (4, .long ((k10 (n - 1)) + rq)), (3, .int (nI (min P (n - 1)))), (2, .int (nI (n - 1))), (0, .ref qm), (1, .int (nI j))] [.long rq2] [oB 4 qm [.ref m0, .ref m1, .int (nI hc), .int (nI 0), .ref m2, .ref m3, .ref m4, .ref m5, .ref m6, .ref m7, .ref m8, .long sp2, .ref m9, .ref m10, .ref m11, .long ha], aI G m0 220 nw, aJ G m3 73 k3, aJ G m4 72 k4, aJ G m5 72 k5, aI G m6 72 k6, aJ G m7 72 k7, aJ G m8 12 k8, aJ G m9 72 k9, aJ G m10 72 k10, aJ G m11 72 k11]
          have hq2 : rq2 = quo (((k10 (n - 1)) + rq) * (k8 ((n - 1 + j) % P))) 10000 := hq2
          exact J_lret F (Or.inl ⟨sp2, k3, k4, k5, k6, k7, k8, k9, k10, k11, j, rq2, rfl, rfl, hd, hmp, hxj, hj1, hj2, by unfold fct; first | rw [if_pos hm, hq, q10 _ (by omega), q10 _ (by omega), q8 _ hml9] | rw [if_neg (by omega), hq2, hq, q10 _ (by omega), q10 _ (by omega), q8 _ hml9]⟩) (Nat.le_of_ble_eq_true rfl) (Nat.le_of_ble_eq_true rfl) (dcq dc_X4_forecast_1 40 rfl)
        · skip
          have hm := h_6
          refine J_lload F 1 (dcq dc_X4_forecast_1 31 rfl) rfl ?_
          refine J_lload F 0 (dcq dc_X4_forecast_1 32 rfl) rfl ?_
          refine J_ladd F (v := ((k10 (n - 1)) + rq) + (k8 ((n - 1 + j) % P))) (dcq dc_X4_forecast_1 33 rfl) rfl ?_
          refine J_goto F 144 (dcq dc_X4_forecast_1 34 rfl) (by decide) ?_
          exact J_lret F (Or.inl ⟨sp2, k3, k4, k5, k6, k7, k8, k9, k10, k11, j, ((k10 (n - 1)) + rq) + (k8 ((n - 1 + j) % P)), rfl, rfl, hd, hmp, hxj, hj1, hj2, by unfold fct; first | rw [if_pos hm, hq, q10 _ (by omega), q10 _ (by omega), q8 _ hml9] | rw [if_neg (by omega), hq2, hq, q10 _ (by omega), q10 _ (by omega), q8 _ hml9]⟩) (Nat.le_of_ble_eq_true rfl) (Nat.le_of_ble_eq_true rfl) (dcq dc_X4_forecast_1 40 rfl)
    · skip
      have hnd : ¬ dcm P n g := hnd
      change J p l e (cRm 5 107 0 0) s m args below meth c G A 8 (JQ below G A (po_X4_forecast G qm m0 m1 m2 m3 m4 m5 m6 m7 m8 m9 m10 m11 hc rf sp ha nw P M R n v g d s3 e4 e5 e7 e8 e9 e10 e11 e6 x) args s 0 0) 0 0 21 [(0, .ref qm), (1, .int (nI j))] [.int (nI 0), .ref qm] [oB 4 qm [.ref m0, .ref m1, .int (nI hc), .int (nI rf), .ref m2, .ref m3, .ref m4, .ref m5, .ref m6, .ref m7, .ref m8, .long sp, .ref m9, .ref m10, .ref m11, .long ha], aI G m0 220 nw, aJ G m3 73 s3, aJ G m4 72 e4, aJ G m5 72 e5, aI G m6 72 e6, aJ G m7 72 e7, aJ G m8 12 e8, aJ G m9 72 e9, aJ G m10 72 e10, aJ G m11 72 e11]
      refine J_if_eq F 28 (dcq dc_X4_forecast_0 11 rfl) (by decide) (fun _ => ?_) (fun h_7 => absurd h_7 (by decide))
      refine J_iconst F (dcq dc_X4_forecast_0 14 rfl) ic_2 ?_
      refine J_callV F (wc := [oB 4 qm [.ref m0, .ref m1, .int (nI hc), .int (nI rf), .ref m2, .ref m3, .ref m4, .ref m5, .ref m6, .ref m7, .ref m8, .long sp, .ref m9, .ref m10, .ref m11, .long ha]]) (wr := [aI G m0 220 nw, aJ G m3 73 s3, aJ G m4 72 e4, aJ G m5 72 e5, aI G m6 72 e6, aJ G m7 72 e7, aJ G m8 12 e8, aJ G m9 72 e9, aJ G m10 72 e10, aJ G m11 72 e11]) (rest := []) (qc := 0) (c_X4_refused_2 l hl G qm m0 m1 m2 m3 m4 m5 m6 m7 m8 m9 m10 m11 hc rf sp ha) cd_X4_refused cv_X4_refused rfl rfl rfl tw_4_40 [0] [1, 2, 3, 4, 5, 6, 7, 8, 9, 10] rfl rfl rfl rfl (by decide) rfl ⟨(Nat.le_of_ble_eq_true rfl), (Nat.le_of_ble_eq_true rfl), (Nat.le_of_ble_eq_true rfl), (Nat.le_of_ble_eq_true rfl)⟩ (Nat.le_of_ble_eq_true rfl) rfl (dcq dc_X4_forecast_0 15 rfl) ?_
      rintro _ _ ⟨rfl, rfl⟩
      change J p l e (cRm 5 107 0 0) s m args below meth c G A 8 (JQ below G A (po_X4_forecast G qm m0 m1 m2 m3 m4 m5 m6 m7 m8 m9 m10 m11 hc rf sp ha nw P M R n v g d s3 e4 e5 e7 e8 e9 e10 e11 e6 x) args s 0 0) 0 0 32 [(0, .ref qm), (1, .int (nI j))] [.int (nI 1)] [aI G m0 220 nw, aJ G m3 73 s3, aJ G m4 72 e4, aJ G m5 72 e5, aI G m6 72 e6, aJ G m7 72 e7, aJ G m8 12 e8, aJ G m9 72 e9, aJ G m10 72 e10, aJ G m11 72 e11, oB 4 qm [.ref m0, .ref m1, .int (nI hc), .int (nI 2), .ref m2, .ref m3, .ref m4, .ref m5, .ref m6, .ref m7, .ref m8, .long sp, .ref m9, .ref m10, .ref m11, .long ha]]
      refine J_world (ws2 := [oB 4 qm [.ref m0, .ref m1, .int (nI hc), .int (nI 2), .ref m2, .ref m3, .ref m4, .ref m5, .ref m6, .ref m7, .ref m8, .long sp, .ref m9, .ref m10, .ref m11, .long ha], aI G m0 220 nw, aJ G m3 73 s3, aJ G m4 72 e4, aJ G m5 72 e5, aI G m6 72 e6, aJ G m7 72 e7, aJ G m8 12 e8, aJ G m9 72 e9, aJ G m10 72 e10, aJ G m11 72 e11]) [10, 0, 1, 2, 3, 4, 5, 6, 7, 8, 9] rfl rfl ?_
      refine J_if_eq F 37 (dcq dc_X4_forecast_0 16 rfl) (by decide) (fun h_8 => absurd h_8 (by decide)) (fun _ => ?_)
      refine J_lconst F (dcq dc_X4_forecast_0 17 rfl) lc_0 ?_
      exact J_lret F (Or.inr (Or.inr (⟨rfl, rfl, hnd, by first | (rw [hxj]; exact ⟨nI_le hj1 (by omega), nI_le hj2 (by omega)⟩) | exact fun z => hw_7 ((wi (by decide) (by decide)).mpr z)⟩))) (Nat.le_of_ble_eq_true rfl) (Nat.le_of_ble_eq_true rfl) (dcq dc_X4_forecast_0 18 rfl)
  · skip
    have hw_7 : ¬ (1 ≤ x.toInt64 ∧ x.toInt64 ≤ 24) := hw_7
    change J p l e (cRm 5 107 0 0) s m args below meth c G A 8 (JQ below G A (po_X4_forecast G qm m0 m1 m2 m3 m4 m5 m6 m7 m8 m9 m10 m11 hc rf sp ha nw P M R n v g d s3 e4 e5 e7 e8 e9 e10 e11 e6 x) args s 0 0) 0 0 10 [(0, .ref qm), (1, .int x)] [.int (nI 0), .ref qm] [oB 4 qm [.ref m0, .ref m1, .int (nI hc), .int (nI rf), .ref m2, .ref m3, .ref m4, .ref m5, .ref m6, .ref m7, .ref m8, .long sp, .ref m9, .ref m10, .ref m11, .long ha], aI G m0 220 nw, aJ G m3 73 s3, aJ G m4 72 e4, aJ G m5 72 e5, aI G m6 72 e6, aJ G m7 72 e7, aJ G m8 12 e8, aJ G m9 72 e9, aJ G m10 72 e10, aJ G m11 72 e11]
    refine J_if_ne F 17 (dcq dc_X4_forecast_0 6 rfl) (by decide) (fun h_9 => absurd h_9 (by decide)) (fun _ => ?_)
    refine J_iconst F (dcq dc_X4_forecast_0 7 rfl) ic_1 ?_
    refine J_goto F 29 (dcq dc_X4_forecast_0 8 rfl) (by decide) ?_
    refine J_callV F (wc := [oB 4 qm [.ref m0, .ref m1, .int (nI hc), .int (nI rf), .ref m2, .ref m3, .ref m4, .ref m5, .ref m6, .ref m7, .ref m8, .long sp, .ref m9, .ref m10, .ref m11, .long ha]]) (wr := [aI G m0 220 nw, aJ G m3 73 s3, aJ G m4 72 e4, aJ G m5 72 e5, aI G m6 72 e6, aJ G m7 72 e7, aJ G m8 12 e8, aJ G m9 72 e9, aJ G m10 72 e10, aJ G m11 72 e11]) (rest := []) (qc := 0) (c_X4_refused_1 l hl G qm m0 m1 m2 m3 m4 m5 m6 m7 m8 m9 m10 m11 hc rf sp ha) cd_X4_refused cv_X4_refused rfl rfl rfl tw_4_40 [0] [1, 2, 3, 4, 5, 6, 7, 8, 9, 10] rfl rfl rfl rfl (by decide) rfl ⟨(Nat.le_of_ble_eq_true rfl), (Nat.le_of_ble_eq_true rfl), (Nat.le_of_ble_eq_true rfl), (Nat.le_of_ble_eq_true rfl)⟩ (Nat.le_of_ble_eq_true rfl) rfl (dcq dc_X4_forecast_0 15 rfl) ?_
    rintro _ _ ⟨rfl, rfl⟩
    change J p l e (cRm 5 107 0 0) s m args below meth c G A 8 (JQ below G A (po_X4_forecast G qm m0 m1 m2 m3 m4 m5 m6 m7 m8 m9 m10 m11 hc rf sp ha nw P M R n v g d s3 e4 e5 e7 e8 e9 e10 e11 e6 x) args s 0 0) 0 0 32 [(0, .ref qm), (1, .int x)] [.int (nI 1)] [aI G m0 220 nw, aJ G m3 73 s3, aJ G m4 72 e4, aJ G m5 72 e5, aI G m6 72 e6, aJ G m7 72 e7, aJ G m8 12 e8, aJ G m9 72 e9, aJ G m10 72 e10, aJ G m11 72 e11, oB 4 qm [.ref m0, .ref m1, .int (nI hc), .int (nI 1), .ref m2, .ref m3, .ref m4, .ref m5, .ref m6, .ref m7, .ref m8, .long sp, .ref m9, .ref m10, .ref m11, .long ha]]
    refine J_world (ws2 := [oB 4 qm [.ref m0, .ref m1, .int (nI hc), .int (nI 1), .ref m2, .ref m3, .ref m4, .ref m5, .ref m6, .ref m7, .ref m8, .long sp, .ref m9, .ref m10, .ref m11, .long ha], aI G m0 220 nw, aJ G m3 73 s3, aJ G m4 72 e4, aJ G m5 72 e5, aI G m6 72 e6, aJ G m7 72 e7, aJ G m8 12 e8, aJ G m9 72 e9, aJ G m10 72 e10, aJ G m11 72 e11]) [10, 0, 1, 2, 3, 4, 5, 6, 7, 8, 9] rfl rfl ?_
    refine J_if_eq F 37 (dcq dc_X4_forecast_0 16 rfl) (by decide) (fun h_10 => absurd h_10 (by decide)) (fun _ => ?_)
    refine J_lconst F (dcq dc_X4_forecast_0 17 rfl) lc_0 ?_
    exact J_lret F (Or.inr (Or.inl ⟨rfl, rfl, by first | (rw [hxj]; exact ⟨nI_le hj1 (by omega), nI_le hj2 (by omega)⟩) | exact fun z => hw_7 ((wi (by decide) (by decide)).mpr z)⟩)) (Nat.le_of_ble_eq_true rfl) (Nat.le_of_ble_eq_true rfl) (dcq dc_X4_forecast_0 18 rfl)
