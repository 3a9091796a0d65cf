theorem hd_step {d : Nat → Int32} {t : Nat} (h : (∃ j, 1 ≤ j ∧ j < t ∧ d j ≠ d 0) ∨ d t ≠ d 0) (ht : 1 ≤ t) : ∃ j, 1 ≤ j ∧ j < t + 1 ∧ d j ≠ d 0 := by
  rcases h with ⟨j, h1, h2, h3⟩ | h
  · exact ⟨j, h1, by omega, h3⟩
  · exact ⟨t, ht, by omega, h⟩
theorem hd_back {d : Nat → Int32} {t : Nat} (h : ∃ j, 1 ≤ j ∧ j < t + 1 ∧ d j ≠ d 0) : (∃ j, 1 ≤ j ∧ j < t ∧ d j ≠ d 0) ∨ d t ≠ d 0 := by
  obtain ⟨j, h1, h2, h3⟩ := h
  by_cases e : j = t
  · subst e; exact Or.inr h3
  · exact Or.inl ⟨j, h1, by omega, h3⟩
theorem hd_dsq {n : Nat} {d : Nat → Int32} (hn : n ≤ 72) (hd : GDD n d) : (∃ j, 1 ≤ j ∧ j < n ∧ d j ≠ d 0) ↔ 0 < dsq n d := by
  rw [dsq_pos hn hd]
  constructor
  · rintro ⟨j, _, h2, h3⟩; exact ⟨j, h2, h3⟩
  · rintro ⟨j, h2, h3⟩
    refine ⟨j, ?_, h2, h3⟩
    rcases Nat.eq_zero_or_pos j with h | h
    · subst h; exact absurd rfl h3
    · exact h

abbrev po_X4_daysAll (G : Gt) (qm m0 m1 m2 m3 m4 m5 m6 m7 m8 m9 m10 m11 hc rf : Nat) (sp ha : Int64) (nw : Nat → Int32) (P M R n : Nat) (v g d : Nat → Int32) : Option Value → va_W → Prop := fun (v9 : Option Value) (w9 : va_W) => ∃ (r : Int64), v9 = some (.long r) ∧ w9 = [oB 4 qm [.ref m0, .ref m1, .int (nI hc), .int (nI rf), .ref m2, .ref m3, .ref m4, .ref m5, .ref m6, .ref m7, .ref m8, .long sp, .ref m9, .ref m10, .ref m11, .long ha], aI G m0 220 nw] ∧ (r = sm (xv d) 0 n)
set_option maxHeartbeats 4000000 in
set_option maxRecDepth 100000 in
theorem c_X4_daysAll (l : Launch) (hl : l.stackTraces = false) (G : Gt) (qm m0 m1 m2 m3 m4 m5 m6 m7 m8 m9 m10 m11 hc rf : Nat) (sp ha : Int64) (nw : Nat → Int32) (P M R n : Nat) (v g d : Nat → Int32) (hRM : RM nw P M R n v g d) (hn : n ≤ 72) : Con l G yX4_daysAll cX4_daysAll 4 (some .long) 1 21 0 0 [.ref qm] [oB 4 qm [.ref m0, .ref m1, .int (nI hc), .int (nI rf), .ref m2, .ref m3, .ref m4, .ref m5, .ref m6, .ref m7, .ref m8, .long sp, .ref m9, .ref m10, .ref m11, .long ha], aI G m0 220 nw] (po_X4_daysAll G qm m0 m1 m2 m3 m4 m5 m6 m7 m8 m9 m10 m11 hc rf sp ha nw P M R n v g d) := by
  refine Con.of hl cd_X4_daysAll (Nat.le_of_ble_eq_true rfl) ?_
  intro p e s m args below meth c A F hin9
  change Fx p l s m args meth c G A "SeasonalAdjusterModel" cX4_daysAll 4 (some .long) at F
  change J p l e (cRm 1 21 0 0) s m args below meth c G A 4 (JQ below G A (po_X4_daysAll G qm m0 m1 m2 m3 m4 m5 m6 m7 m8 m9 m10 m11 hc rf sp ha nw P M R n v g d) args s 0 0) 0 0 0 [(0, .ref qm)] [] [oB 4 qm [.ref m0, .ref m1, .int (nI hc), .int (nI rf), .ref m2, .ref m3, .ref m4, .ref m5, .ref m6, .ref m7, .ref m8, .long sp, .ref m9, .ref m10, .ref m11, .long ha], aI G m0 220 nw]
  refine J_lconst F (dcq dc_X4_daysAll_0 0 rfl) lc_0 ?_
  refine J_lstore_n F (lv2 := [(1, .long 0), (0, .ref qm)]) (dcq dc_X4_daysAll_0 1 rfl) rfl (Nat.le_of_ble_eq_true rfl) rfl ?_
  refine J_iconst F (dcq dc_X4_daysAll_0 2 rfl) ic_0 ?_
  refine J_istore_n F (lv2 := [(3, .int (nI 0)), (1, .long 0), (0, .ref qm)]) (dcq dc_X4_daysAll_0 3 rfl) rfl (Nat.le_of_ble_eq_true rfl) rfl ?_
  have L4 : ∀ (fu4 : Nat), ∀ (t : Nat) (xs : Int64), (t ≤ n) → (xs = sm (xv d) 0 t) → n - t < fu4 → J p l e (cRm 1 21 0 0) s m args below meth c G A 4 (JQ below G A (po_X4_daysAll G qm m0 m1 m2 m3 m4 m5 m6 m7 m8 m9 m10 m11 hc rf sp ha nw P M R n v g d) args s 0 0) 0 0 4 [(0, .ref qm), (1, .long xs), (3, .int (nI t))] [] [oB 4 qm [.ref m0, .ref m1, .int (nI hc), .int (nI rf), .ref m2, .ref m3, .ref m4, .ref m5, .ref m6, .ref m7, .ref m8, .long sp, .ref m9, .ref m10, .ref m11, .long ha], aI G m0 220 nw] := by
    intro fu4
    induction fu4 with
    | zero => intro t xs ht iv hm4; exact absurd hm4 (Nat.not_lt_zero _)
    | succ fu4 ih4 =>
      intro t xs ht iv hm4
      refine J_iload_n F 2 (dcq dc_X4_daysAll_0 4 rfl) rfl rfl ?_
      refine J_aload_n F 0 (dcq dc_X4_daysAll_0 5 rfl) rfl rfl ?_
      refine J_get F fcX4 0 0 rfl (Nat.le_of_ble_eq_true rfl) tw_3_223 rfl rfl (dcq dc_X4_daysAll_0 6 rfl) ?_
      refine J_iconst F (dcq dc_X4_daysAll_0 7 rfl) ic_3 ?_
      refine J_iald F 1 rfl (by omega) (Nat.le_of_ble_eq_true rfl) (dcq dc_X4_daysAll_0 8 rfl) ?_
      refine J_cast rfl (st2 := [.int (nI n), .int (nI t)]) (by rw [hRM.2.2.2.1]) rfl ?_
      refine J_ncmp_ge F 29 (by omega) (by omega) (dcq dc_X4_daysAll_0 9 rfl) (by decide) (fun h_1 => ?_) (fun h_1 => ?_)
      · skip
        refine J_lload_n F 1 (dcq dc_X4_daysAll_0 19 rfl) rfl rfl ?_
        exact J_lret F ⟨xs, rfl, rfl, by rw [iv, show t = n by omega]⟩ (Nat.le_of_ble_eq_true rfl) (Nat.le_of_ble_eq_true rfl) (dcq dc_X4_daysAll_0 20 rfl)
      · skip
        refine J_lload_n F 1 (dcq dc_X4_daysAll_0 10 rfl) rfl rfl ?_
        refine J_aload_n F 0 (dcq dc_X4_daysAll_0 11 rfl) rfl rfl ?_
        refine J_iload_n F 2 (dcq dc_X4_daysAll_0 12 rfl) rfl rfl ?_
        refine J_callV F (wc := [oB 4 qm [.ref m0, .ref m1, .int (nI hc), .int (nI rf), .ref m2, .ref m3, .ref m4, .ref m5, .ref m6, .ref m7, .ref m8, .long sp, .ref m9, .ref m10, .ref m11, .long ha], aI G m0 220 nw]) (wr := []) (rest := [.long xs]) (qc := 0) (c_X4_daysAt l hl G qm m0 m1 m2 m3 m4 m5 m6 m7 m8 m9 m10 m11 hc rf sp ha nw P M R n v g d t (by first | assumption | omega) (by first | assumption | omega) (by first | assumption | omega)) cd_X4_daysAt cv_X4_daysAt rfl rfl rfl tw_5_48 [0, 1] [] rfl rfl rfl rfl (by decide) rfl ⟨(Nat.le_of_ble_eq_true rfl), (Nat.le_of_ble_eq_true rfl), (Nat.le_of_ble_eq_true rfl), (Nat.le_of_ble_eq_true rfl)⟩ (Nat.le_of_ble_eq_true rfl) rfl (dcq dc_X4_daysAll_0 13 rfl) ?_
        rintro _ _ ⟨rfl, rfl⟩
        change J p l e (cRm 1 21 0 0) s m args below meth c G A 4 (JQ below G A (po_X4_daysAll G qm m0 m1 m2 m3 m4 m5 m6 m7 m8 m9 m10 m11 hc rf sp ha nw P M R n v g d) args s 0 0) 0 0 20 [(0, .ref qm), (1, .long xs), (3, .int (nI t))] [.int (d t), .long xs] [oB 4 qm [.ref m0, .ref m1, .int (nI hc), .int (nI rf), .ref m2, .ref m3, .ref m4, .ref m5, .ref m6, .ref m7, .ref m8, .long sp, .ref m9, .ref m10, .ref m11, .long ha], aI G m0 220 nw]
        refine J_i2l F (v := (d t).toInt64) (dcq dc_X4_daysAll_0 14 rfl) rfl ?_
        refine J_ladd F (v := xs + ((d t).toInt64)) (dcq dc_X4_daysAll_0 15 rfl) rfl ?_
        refine J_lstore_n F (lv2 := [(1, .long (xs + ((d t).toInt64))), (0, .ref qm), (3, .int (nI t))]) (dcq dc_X4_daysAll_0 16 rfl) rfl (Nat.le_of_ble_eq_true rfl) rfl ?_
        refine J_iinc F (lv2 := [(3, .int (nI (t + 1))), (1, .long (xs + ((d t).toInt64))), (0, .ref qm)]) (v := nI (t + 1)) 2 (dcq dc_X4_daysAll_0 17 rfl) rfl (nI_inc _) (Nat.le_of_ble_eq_true rfl) rfl ?_
        refine J_goto F 4 (dcq dc_X4_daysAll_0 18 rfl) (by decide) ?_
        refine J_locs [2, 1, 0] rfl ?_
        exact ih4 (t + 1) (xs + ((d t).toInt64)) (by omega) (by simp only [sm, Nat.zero_add, xv]; rw [iv]) (by omega)
  refine J_locs [2, 1, 0] rfl ?_
  exact L4 (n - 0 + 1) 0 0 (by omega) (rfl) (Nat.lt_succ_self _)

abbrev po_X4_unlike (G : Gt) (qm m0 m1 m2 m3 m4 m5 m6 m7 m8 m9 m10 m11 hc rf : Nat) (sp ha : Int64) (nw : Nat → Int32) (P M R n : Nat) (v g d : Nat → Int32) (t : Nat) : Option Value → va_W → Prop := fun (v9 : Option Value) (w9 : va_W) => ∃ (r : Int64), v9 = some (.long r) ∧ w9 = [oB 4 qm [.ref m0, .ref m1, .int (nI hc), .int (nI rf), .ref m2, .ref m3, .ref m4, .ref m5, .ref m6, .ref m7, .ref m8, .long sp, .ref m9, .ref m10, .ref m11, .long ha], aI G m0 220 nw] ∧ (r = exd n d (sm (xv d) 0 n) t)
set_option maxHeartbeats 4000000 in
set_option maxRecDepth 100000 in
theorem c_X4_unlike (l : Launch) (hl : l.stackTraces = false) (G : Gt) (qm m0 m1 m2 m3 m4 m5 m6 m7 m8 m9 m10 m11 hc rf : Nat) (sp ha : Int64) (nw : Nat → Int32) (P M R n : Nat) (v g d : Nat → Int32) (t : Nat) (hRM : RM nw P M R n v g d) (hn : n ≤ 72) (ht : t < n) : Con l G yX4_unlike cX4_unlike 2 (some .long) 2 44 0 0 [.ref qm, .int (nI t)] [oB 4 qm [.ref m0, .ref m1, .int (nI hc), .int (nI rf), .ref m2, .ref m3, .ref m4, .ref m5, .ref m6, .ref m7, .ref m8, .long sp, .ref m9, .ref m10, .ref m11, .long ha], aI G m0 220 nw] (po_X4_unlike G qm m0 m1 m2 m3 m4 m5 m6 m7 m8 m9 m10 m11 hc rf sp ha nw P M R n v g d t) := by
  refine Con.of hl cd_X4_unlike (Nat.le_of_ble_eq_true rfl) ?_
  intro p e s m args below meth c A F hin9
  change Fx p l s m args meth c G A "SeasonalAdjusterModel" cX4_unlike 2 (some .long) at F
  change J p l e (cRm 2 44 0 0) s m args below meth c G A 2 (JQ below G A (po_X4_unlike G qm m0 m1 m2 m3 m4 m5 m6 m7 m8 m9 m10 m11 hc rf sp ha nw P M R n v g d t) args s 0 0) 0 0 0 [(0, .ref qm), (1, .int (nI t))] [] [oB 4 qm [.ref m0, .ref m1, .int (nI hc), .int (nI rf), .ref m2, .ref m3, .ref m4, .ref m5, .ref m6, .ref m7, .ref m8, .long sp, .ref m9, .ref m10, .ref m11, .long ha], aI G m0 220 nw]
  refine J_aload_n F 0 (dcq dc_X4_unlike_0 0 rfl) rfl rfl ?_
  refine J_get F fcX4 0 0 rfl (Nat.le_of_ble_eq_true rfl) tw_3_223 rfl rfl (dcq dc_X4_unlike_0 1 rfl) ?_
  refine J_iconst F (dcq dc_X4_unlike_0 2 rfl) ic_3 ?_
  refine J_iald F 1 rfl (by omega) (Nat.le_of_ble_eq_true rfl) (dcq dc_X4_unlike_0 3 rfl) ?_
  refine J_cast rfl (st2 := [.int (nI n)]) (by rw [hRM.2.2.2.1]) rfl ?_
  refine J_i2l F (v := lN n) (dcq dc_X4_unlike_0 4 rfl) (nI_l (by omega)) ?_
  refine J_aload_n F 0 (dcq dc_X4_unlike_0 5 rfl) rfl rfl ?_
  refine J_iload_n F 1 (dcq dc_X4_unlike_0 6 rfl) rfl rfl ?_
  refine J_callV F (wc := [oB 4 qm [.ref m0, .ref m1, .int (nI hc), .int (nI rf), .ref m2, .ref m3, .ref m4, .ref m5, .ref m6, .ref m7, .ref m8, .long sp, .ref m9, .ref m10, .ref m11, .long ha], aI G m0 220 nw]) (wr := []) (rest := [.long (lN n)]) (qc := 0) (c_X4_daysAt l hl G qm m0 m1 m2 m3 m4 m5 m6 m7 m8 m9 m10 m11 hc rf sp ha nw P M R n v g d t (by first | assumption | omega) (by first | assumption | omega) (by first | assumption | omega)) cd_X4_daysAt cv_X4_daysAt rfl rfl rfl tw_5_48 [0, 1] [] rfl rfl rfl rfl (by decide) rfl ⟨(Nat.le_of_ble_eq_true rfl), (Nat.le_of_ble_eq_true rfl), (Nat.le_of_ble_eq_true rfl), (Nat.le_of_ble_eq_true rfl)⟩ (Nat.le_of_ble_eq_true rfl) rfl (dcq dc_X4_unlike_0 7 rfl) ?_
  rintro _ _ ⟨rfl, rfl⟩
  change J p l e (cRm 2 44 0 0) s m args below meth c G A 2 (JQ below G A (po_X4_unlike G qm m0 m1 m2 m3 m4 m5 m6 m7 m8 m9 m10 m11 hc rf sp ha nw P M R n v g d t) args s 0 0) 0 0 12 [(0, .ref qm), (1, .int (nI t))] [.int (d t), .long (lN n)] [oB 4 qm [.ref m0, .ref m1, .int (nI hc), .int (nI rf), .ref m2, .ref m3, .ref m4, .ref m5, .ref m6, .ref m7, .ref m8, .long sp, .ref m9, .ref m10, .ref m11, .long ha], aI G m0 220 nw]
  refine J_i2l F (v := (d t).toInt64) (dcq dc_X4_unlike_0 8 rfl) rfl ?_
  refine J_lmul F (v := (lN n) * ((d t).toInt64)) (dcq dc_X4_unlike_0 9 rfl) rfl ?_
  refine J_aload_n F 0 (dcq dc_X4_unlike_0 10 rfl) rfl rfl ?_
  refine J_callV F (wc := [oB 4 qm [.ref m0, .ref m1, .int (nI hc), .int (nI rf), .ref m2, .ref m3, .ref m4, .ref m5, .ref m6, .ref m7, .ref m8, .long sp, .ref m9, .ref m10, .ref m11, .long ha], aI G m0 220 nw]) (wr := []) (rest := [.long ((lN n) * ((d t).toInt64))]) (qc := 0) (c_X4_daysAll l hl G qm m0 m1 m2 m3 m4 m5 m6 m7 m8 m9 m10 m11 hc rf sp ha nw P M R n v g d (by first | assumption | omega) (by first | assumption | omega)) cd_X4_daysAll cv_X4_daysAll rfl rfl rfl tw_5_60 [0, 1] [] rfl rfl rfl rfl (by decide) rfl ⟨(Nat.le_of_ble_eq_true rfl), (Nat.le_of_ble_eq_true rfl), (Nat.le_of_ble_eq_true rfl), (Nat.le_of_ble_eq_true rfl)⟩ (Nat.le_of_ble_eq_true rfl) rfl (dcq dc_X4_unlike_0 11 rfl) ?_
  rintro _ _ ⟨ra, rfl, rfl, hra⟩
  change J p l e (cRm 2 44 0 0) s m args below meth c G A 2 (JQ below G A (po_X4_unlike G qm m0 m1 m2 m3 m4 m5 m6 m7 m8 m9 m10 m11 hc rf sp ha nw P M R n v g d t) args s 0 0) 0 0 18 [(0, .ref qm), (1, .int (nI t))] [.long ra, .long ((lN n) * ((d t).toInt64))] [oB 4 qm [.ref m0, .ref m1, .int (nI hc), .int (nI rf), .ref m2, .ref m3, .ref m4, .ref m5, .ref m6, .ref m7, .ref m8, .long sp, .ref m9, .ref m10, .ref m11, .long ha], aI G m0 220 nw]
  have hra : ra = sm (xv d) 0 n := hra
  refine J_lsub F (v := ((lN n) * ((d t).toInt64)) - ra) (dcq dc_X4_unlike_0 12 rfl) rfl ?_
  exact J_lret F ⟨((lN n) * ((d t).toInt64)) - ra, rfl, rfl, by rw [hra]; rfl⟩ (Nat.le_of_ble_eq_true rfl) (Nat.le_of_ble_eq_true rfl) (dcq dc_X4_unlike_0 13 rfl)

abbrev po_X4_hasEffect (G : Gt) (qm m0 m1 m2 m3 m4 m5 m6 m7 m8 m9 m10 m11 hc rf : Nat) (sp ha : Int64) (nw : Nat → Int32) (P M R n : Nat) (v g d : Nat → Int32) (s3 : Nat → Int64) (e4 : Nat → Int64) (e5 : Nat → Int64) (e7 : Nat → Int64) (e8 : Nat → Int64) (e9 : Nat → Int64) (e10 : Nat → Int64) (e11 : Nat → Int64) (e6 : Nat → Int32) : Option Value → va_W → Prop := fun (v9 : Option Value) (w9 : va_W) => (∃ (sp2 : Int64), ∃ (k3 k4 k5 : Nat → Int64), ∃ (k6 : Nat → Int32), ∃ (k7 k8 k9 k10 k11 : Nat → Int64), v9 = some (.int (nI 1)) ∧ w9 = [oB 4 qm [.ref m0, .ref m1, .int (nI hc), .int (nI rf), .ref m2, .ref m3, .ref m4, .ref m5, .ref m6, .ref m7, .ref m8, .long sp2, .ref m9, .ref m10, .ref m11, .long ha], aI G m0 220 nw, aJ G m3 73 k3, aJ G m4 72 k4, aJ G m5 72 k5, aI G m6 72 k6, aJ G m7 72 k7, aJ G m8 12 k8, aJ G m9 72 k9, aJ G m10 72 k10, aJ G m11 72 k11] ∧ ((M = 0 ∧ dcm P n g ∧ 0 < dsq n d)) ∧ (MPT P M R n v sp2 k4 k5 k6 k7 k8 k9 k10 k11)) ∨ (v9 = some (.int (nI 0)) ∧ w9 = [oB 4 qm [.ref m0, .ref m1, .int (nI hc), .int (nI rf), .ref m2, .ref m3, .ref m4, .ref m5, .ref m6, .ref m7, .ref m8, .long sp, .ref m9, .ref m10, .ref m11, .long ha], aI G m0 220 nw, aJ G m3 73 s3, aJ G m4 72 e4, aJ G m5 72 e5, aI G m6 72 e6, aJ G m7 72 e7, aJ G m8 12 e8, aJ G m9 72 e9, aJ G m10 72 e10, aJ G m11 72 e11] ∧ (¬ (M = 0 ∧ dcm P n g ∧ 0 < dsq n d)))
set_option maxHeartbeats 4000000 in
set_option maxRecDepth 100000 in
theorem c_X4_hasEffect (l : Launch) (hl : l.stackTraces = false) (G : Gt) (qm m0 m1 m2 m3 m4 m5 m6 m7 m8 m9 m10 m11 hc rf : Nat) (sp ha : Int64) (nw : Nat → Int32) (P M R n : Nat) (v g d : Nat → Int32) (s3 : Nat → Int64) (e4 : Nat → Int64) (e5 : Nat → Int64) (e7 : Nat → Int64) (e8 : Nat → Int64) (e9 : Nat → Int64) (e10 : Nat → Int64) (e11 : Nat → Int64) (e6 : Nat → Int32) (hRM : RM nw P M R n v g d) (hn : n ≤ 72) (h01 : G01 n g) (hP : 2 ≤ P) (hP12 : P ≤ 12) (hM : M ≤ 1) (hR : R ≤ 5) (hgv : GVg M n v g) (hgd : GDD n d) : Con l G yX4_hasEffect cX4_hasEffect 3 (some .boolean) 5 107 0 0 [.ref qm] [oB 4 qm [.ref m0, .ref m1, .int (nI hc), .int (nI rf), .ref m2, .ref m3, .ref m4, .ref m5, .ref m6, .ref m7, .ref m8, .long sp, .ref m9, .ref m10, .ref m11, .long ha], aI G m0 220 nw, aJ G m3 73 s3, aJ G m4 72 e4, aJ G m5 72 e5, aI G m6 72 e6, aJ G m7 72 e7, aJ G m8 12 e8, aJ G m9 72 e9, aJ G m10 72 e10, aJ G m11 72 e11] (po_X4_hasEffect G qm m0 m1 m2 m3 m4 m5 m6 m7 m8 m9 m10 m11 hc rf sp ha nw P M R n v g d s3 e4 e5 e7 e8 e9 e10 e11 e6) := by
  refine Con.of hl cd_X4_hasEffect (Nat.le_of_ble_eq_true rfl) ?_
  intro p e s m args below meth c A F hin9
  change Fx p l s m args meth c G A "SeasonalAdjusterModel" cX4_hasEffect 3 (some .boolean) at F
  change J p l e (cRm 5 107 0 0) s m args below meth c G A 3 (JQ below G A (po_X4_hasEffect G qm m0 m1 m2 m3 m4 m5 m6 m7 m8 m9 m10 m11 hc rf sp ha nw P M R n v g d s3 e4 e5 e7 e8 e9 e10 e11 e6) args s 0 0) 0 0 0 [(0, .ref qm)] [] [oB 4 qm [.ref m0, .ref m1, .int (nI hc), .int (nI rf), .ref m2, .ref m3, .ref m4, .ref m5, .ref m6, .ref m7, .ref m8, .long sp, .ref m9, .ref m10, .ref m11, .long ha], aI G m0 220 nw, aJ G m3 73 s3, aJ G m4 72 e4, aJ G m5 72 e5, aI G m6 72 e6, aJ G m7 72 e7, aJ G m8 12 e8, aJ G m9 72 e9, aJ G m10 72 e10, aJ G m11 72 e11]
  refine J_iconst F (dcq dc_X4_hasEffect_0 0 rfl) ic_0 ?_
  refine J_istore_n F (lv2 := [(1, .int (nI 0)), (0, .ref qm)]) (dcq dc_X4_hasEffect_0 1 rfl) rfl (Nat.le_of_ble_eq_true rfl) rfl ?_
  refine J_iconst F (dcq dc_X4_hasEffect_0 2 rfl) ic_1 ?_
  refine J_istore_n F (lv2 := [(2, .int (nI 1)), (1, .int (nI 0)), (0, .ref qm)]) (dcq dc_X4_hasEffect_0 3 rfl) rfl (Nat.le_of_ble_eq_true rfl) rfl ?_
  have L4 : ∀ (fu4 : Nat), ∀ (t b : Nat), (1 ≤ t) → (t ≤ n ∨ t = 1) → (b ≤ 1) → (b = 1 ↔ ∃ j, 1 ≤ j ∧ j < t ∧ d j ≠ d 0) → n + 1 - t < fu4 → J p l e (cRm 5 107 0 0) s m args below meth c G A 3 (JQ below G A (po_X4_hasEffect G qm m0 m1 m2 m3 m4 m5 m6 m7 m8 m9 m10 m11 hc rf sp ha nw P M R n v g d s3 e4 e5 e7 e8 e9 e10 e11 e6) args s 0 0) 0 0 4 [(0, .ref qm), (1, .int (nI b)), (2, .int (nI t))] [] [oB 4 qm [.ref m0, .ref m1, .int (nI hc), .int (nI rf), .ref m2, .ref m3, .ref m4, .ref m5, .ref m6, .ref m7, .ref m8, .long sp, .ref m9, .ref m10, .ref m11, .long ha], aI G m0 220 nw, aJ G m3 73 s3, aJ G m4 72 e4, aJ G m5 72 e5, aI G m6 72 e6, aJ G m7 72 e7, aJ G m8 12 e8, aJ G m9 72 e9, aJ G m10 72 e10, aJ G m11 72 e11] := by
    intro fu4
    induction fu4 with
    | zero => intro t b ht1 ht hb iv hm4; exact absurd hm4 (Nat.not_lt_zero _)
    | succ fu4 ih4 =>
      intro t b ht1 ht hb iv hm4
      refine J_iload_n F 2 (dcq dc_X4_hasEffect_0 4 rfl) rfl rfl ?_
      refine J_aload_n F 0 (dcq dc_X4_hasEffect_0 5 rfl) rfl rfl ?_
      refine J_get F fcX4 0 0 rfl (Nat.le_of_ble_eq_true rfl) tw_3_223 rfl rfl (dcq dc_X4_hasEffect_0 6 rfl) ?_
      refine J_iconst F (dcq dc_X4_hasEffect_0 7 rfl) ic_3 ?_
      refine J_iald F 1 rfl (by omega) (Nat.le_of_ble_eq_true rfl) (dcq dc_X4_hasEffect_0 8 rfl) ?_
      refine J_cast rfl (st2 := [.int (nI n), .int (nI t)]) (by rw [hRM.2.2.2.1]) rfl ?_
      refine J_ncmp_ge F 43 (by omega) (by omega) (dcq dc_X4_hasEffect_0 9 rfl) (by decide) (fun h_1 => ?_) (fun h_1 => ?_)
      · skip
        refine J_iload_n F 1 (dcq dc_X4_hasEffect_0 25 rfl) rfl rfl ?_
        have hds : b = 1 ↔ 0 < dsq n d := by
          rw [← hd_dsq hn hgd, iv]
          rcases ht with h9 | h9
          · rw [show t = n by omega]
          · constructor
            · rintro ⟨j, h1, h2, h3⟩; omega
            · rintro ⟨j, h1, h2, h3⟩; omega
        refine J_nif_eq F 67 (by omega) (dcq dc_X4_hasEffect_0 26 rfl) (by decide) (fun h_2 => ?_) (fun h_2 => ?_)
        · skip
          have hbz := h_2
          refine J_iconst F (dcq dc_X4_hasEffect_0 37 rfl) ic_0 ?_
          exact J_zret F (by decide) (Or.inr (⟨rfl, rfl, fun z => by first | (have := hds.mpr z.2.2; omega) | (have := z.1; omega) | exact hnd z.2.1⟩)) (Nat.le_of_ble_eq_true rfl) (Nat.le_of_ble_eq_true rfl) (dcq dc_X4_hasEffect_0 38 rfl)
        · skip
          have hbz := h_2
          refine J_aload_n F 0 (dcq dc_X4_hasEffect_0 27 rfl) rfl rfl ?_
          refine J_get F fcX4 0 0 rfl (Nat.le_of_ble_eq_true rfl) tw_3_223 rfl rfl (dcq dc_X4_hasEffect_0 28 rfl) ?_
          refine J_iconst F (dcq dc_X4_hasEffect_0 29 rfl) ic_1 ?_
          refine J_iald F 1 rfl (by omega) (Nat.le_of_ble_eq_true rfl) (dcq dc_X4_hasEffect_0 30 rfl) ?_
          refine J_cast rfl (st2 := [.int (nI M)]) (by rw [hRM.2.1]) rfl ?_
          refine J_nif_ne F 67 (by omega) (dcq dc_X4_hasEffect_0 31 rfl) (by decide) (fun h_3 => ?_) (fun h_3 => ?_)
          · skip
            have hmz := h_3
            refine J_iconst F (dcq dc_X4_hasEffect_0 37 rfl) ic_0 ?_
            exact J_zret F (by decide) (Or.inr (⟨rfl, rfl, fun z => by first | (have := hds.mpr z.2.2; omega) | (have := z.1; omega) | exact hnd z.2.1⟩)) (Nat.le_of_ble_eq_true rfl) (Nat.le_of_ble_eq_true rfl) (dcq dc_X4_hasEffect_0 38 rfl)
          · skip
            have hmz := h_3
            refine J_aload_n F 0 (dcq dc_X4_hasEffect_0 32 rfl) rfl rfl ?_
            refine J_callV F (wc := [oB 4 qm [.ref m0, .ref m1, .int (nI hc), .int (nI rf), .ref m2, .ref m3, .ref m4, .ref m5, .ref m6, .ref m7, .ref m8, .long sp, .ref m9, .ref m10, .ref m11, .long ha], aI G m0 220 nw, aJ G m3 73 s3, aJ G m4 72 e4, aJ G m5 72 e5, aI G m6 72 e6, aJ G m7 72 e7, aJ G m8 12 e8, aJ G m9 72 e9, aJ G m10 72 e10, aJ G m11 72 e11]) (wr := []) (rest := []) (qc := 0) (c_X4_decomposes l hl G qm m0 m1 m2 m3 m4 m5 m6 m7 m8 m9 m10 m11 hc rf sp ha nw P M R n v g d s3 e4 e5 e7 e8 e9 e10 e11 e6 (by first | assumption | omega) (by first | assumption | omega) (by first | assumption | omega) (by first | assumption | omega) (by first | assumption | omega) (by first | assumption | omega) (by first | assumption | omega) (by first | assumption | omega)) cd_X4_decomposes cv_X4_decomposes rfl rfl rfl tw_4_172 [0, 1, 2, 3, 4, 5, 6, 7, 8, 9, 10] [] rfl rfl rfl rfl (by decide) rfl ⟨(Nat.le_of_ble_eq_true rfl), (Nat.le_of_ble_eq_true rfl), (Nat.le_of_ble_eq_true rfl), (Nat.le_of_ble_eq_true rfl)⟩ (Nat.le_of_ble_eq_true rfl) rfl (dcq dc_X4_hasEffect_0 33 rfl) ?_
            rintro _ _ h9x
            rcases h9x with ⟨sp2, k3, k4, k5, k6, k7, k8, k9, k10, k11, rfl, rfl, hd, hmp⟩ | ⟨rfl, rfl, hnd⟩
            · skip
              have hd : dcm P n g := hd
              have hmp : MPT P M R n v sp2 k4 k5 k6 k7 k8 k9 k10 k11 := hmp
              change J p l e (cRm 5 107 0 0) s m args below meth c G A 3 (JQ below G A (po_X4_hasEffect G qm m0 m1 m2 m3 m4 m5 m6 m7 m8 m9 m10 m11 hc rf sp ha nw P M R n v g d s3 e4 e5 e7 e8 e9 e10 e11 e6) args s 0 0) 0 0 60 [(0, .ref qm), (1, .int (nI b)), (2, .int (nI t))] [.int (nI 1)] [oB 4 qm [.ref m0, .ref m1, .int (nI hc), .int (nI rf), .ref m2, .ref m3, .ref m4, .ref m5, .ref m6, .ref m7, .ref m8, .long sp2, .ref m9, .ref m10, .ref m11, .long ha], aI G m0 220 nw, aJ G m3 73 k3, aJ G m4 72 k4, aJ G m5 72 k5, aI G m6 72 k6, aJ G m7 72 k7, aJ G m8 12 k8, aJ G m9 72 k9, aJ G m10 72 k10, aJ G m11 72 k11]
              obtain ⟨q4, q5, q6, q7, q8, q9, q10, q11, qsp⟩ := id hmp
              have hdu := hd
              unfold dcm at hdu
              obtain ⟨h5n, hPn, hcg⟩ := hdu
              refine J_if_eq F 67 (dcq dc_X4_hasEffect_0 34 rfl) (by decide) (fun h_4 => absurd h_4 (by decide)) (fun _ => ?_)
              refine J_iconst F (dcq dc_X4_hasEffect_0 35 rfl) ic_1 ?_
              refine J_goto F 68 (dcq dc_X4_hasEffect_0 36 rfl) (by decide) ?_
              exact J_zret F (by decide) (Or.inl ⟨sp2, k3, k4, k5, k6, k7, k8, k9, k10, k11, rfl, rfl, ⟨by omega, hd, hds.mp (by omega)⟩, hmp⟩) (Nat.le_of_ble_eq_true rfl) (Nat.le_of_ble_eq_true rfl) (dcq dc_X4_hasEffect_0 38 rfl)
            · skip
              have hnd : ¬ dcm P n g := hnd
              change J p l e (cRm 5 107 0 0) s m args below meth c G A 3 (JQ below G A (po_X4_hasEffect G qm m0 m1 m2 m3 m4 m5 m6 m7 m8 m9 m10 m11 hc rf sp ha nw P M R n v g d s3 e4 e5 e7 e8 e9 e10 e11 e6) args s 0 0) 0 0 60 [(0, .ref qm), (1, .int (nI b)), (2, .int (nI t))] [.int (nI 0)] [oB 4 qm [.ref m0, .ref m1, .int (nI hc), .int (nI rf), .ref m2, .ref m3, .ref m4, .ref m5, .ref m6, .ref m7, .ref m8, .long sp, .ref m9, .ref m10, .ref m11, .long ha], aI G m0 220 nw, aJ G m3 73 s3, aJ G m4 72 e4, aJ G m5 72 e5, aI G m6 72 e6, aJ G m7 72 e7, aJ G m8 12 e8, aJ G m9 72 e9, aJ G m10 72 e10, aJ G m11 72 e11]
              refine J_if_eq F 67 (dcq dc_X4_hasEffect_0 34 rfl) (by decide) (fun _ => ?_) (fun h_5 => absurd h_5 (by decide))
              refine J_iconst F (dcq dc_X4_hasEffect_0 37 rfl) ic_0 ?_
              exact J_zret F (by decide) (Or.inr (⟨rfl, rfl, fun z => by first | (have := hds.mpr z.2.2; omega) | (have := z.1; omega) | exact hnd z.2.1⟩)) (Nat.le_of_ble_eq_true rfl) (Nat.le_of_ble_eq_true rfl) (dcq dc_X4_hasEffect_0 38 rfl)
      · skip
        refine J_iload_n F 1 (dcq dc_X4_hasEffect_0 10 rfl) rfl rfl ?_
        refine J_nif_ne F 31 (by omega) (dcq dc_X4_hasEffect_0 11 rfl) (by decide) (fun h_6 => ?_) (fun h_6 => ?_)
        · skip
          refine J_iconst F (dcq dc_X4_hasEffect_0 19 rfl) ic_1 ?_
          refine J_goto F 36 (dcq dc_X4_hasEffect_0 20 rfl) (by decide) ?_
          refine J_istore_n F (lv2 := [(1, .int (nI 1)), (0, .ref qm), (2, .int (nI t))]) (dcq dc_X4_hasEffect_0 22 rfl) rfl (Nat.le_of_ble_eq_true rfl) rfl ?_
          refine J_iinc F (lv2 := [(2, .int (nI (t + 1))), (1, .int (nI 1)), (0, .ref qm)]) (v := nI (t + 1)) 2 (dcq dc_X4_hasEffect_0 23 rfl) rfl (nI_inc _) (Nat.le_of_ble_eq_true rfl) rfl ?_
          refine J_goto F 4 (dcq dc_X4_hasEffect_0 24 rfl) (by decide) ?_
          refine J_locs [2, 1, 0] rfl ?_
          exact ih4 (t + 1) 1 (by omega) (by omega) (by omega) (⟨fun _ => hd_step (Or.inl (iv.mp (by omega))) ht1, fun _ => rfl⟩) (by omega)
        · skip
          refine J_aload_n F 0 (dcq dc_X4_hasEffect_0 12 rfl) rfl rfl ?_
          refine J_iload_n F 2 (dcq dc_X4_hasEffect_0 13 rfl) rfl rfl ?_
          refine J_callV F (wc := [oB 4 qm [.ref m0, .ref m1, .int (nI hc), .int (nI rf), .ref m2, .ref m3, .ref m4, .ref m5, .ref m6, .ref m7, .ref m8, .long sp, .ref m9, .ref m10, .ref m11, .long ha], aI G m0 220 nw]) (wr := [aJ G m3 73 s3, aJ G m4 72 e4, aJ G m5 72 e5, aI G m6 72 e6, aJ G m7 72 e7, aJ G m8 12 e8, aJ G m9 72 e9, aJ G m10 72 e10, aJ G m11 72 e11]) (rest := []) (qc := 0) (c_X4_daysAt l hl G qm m0 m1 m2 m3 m4 m5 m6 m7 m8 m9 m10 m11 hc rf sp ha nw P M R n v g d t (by first | assumption | omega) (by first | assumption | omega) (by first | assumption | omega)) cd_X4_daysAt cv_X4_daysAt rfl rfl rfl tw_5_48 [0, 1] [2, 3, 4, 5, 6, 7, 8, 9, 10] rfl rfl rfl rfl (by decide) rfl ⟨(Nat.le_of_ble_eq_true rfl), (Nat.le_of_ble_eq_true rfl), (Nat.le_of_ble_eq_true rfl), (Nat.le_of_ble_eq_true rfl)⟩ (Nat.le_of_ble_eq_true rfl) rfl (dcq dc_X4_hasEffect_0 14 rfl) ?_
          rintro _ _ ⟨rfl, rfl⟩
          change J p l e (cRm 5 107 0 0) s m args below meth c G A 3 (JQ below G A (po_X4_hasEffect G qm m0 m1 m2 m3 m4 m5 m6 m7 m8 m9 m10 m11 hc rf sp ha nw P M R n v g d s3 e4 e5 e7 e8 e9 e10 e11 e6) args s 0 0) 0 0 23 [(0, .ref qm), (1, .int (nI b)), (2, .int (nI t))] [.int (d t)] [aJ G m3 73 s3, aJ G m4 72 e4, aJ G m5 72 e5, aI G m6 72 e6, aJ G m7 72 e7, aJ G m8 12 e8, aJ G m9 72 e9, aJ G m10 72 e10, aJ G m11 72 e11, oB 4 qm [.ref m0, .ref m1, .int (nI hc), .int (nI rf), .ref m2, .ref m3, .ref m4, .ref m5, .ref m6, .ref m7, .ref m8, .long sp, .ref m9, .ref m10, .ref m11, .long ha], aI G m0 220 nw]
          refine J_world (ws2 := [oB 4 qm [.ref m0, .ref m1, .int (nI hc), .int (nI rf), .ref m2, .ref m3, .ref m4, .ref m5, .ref m6, .ref m7, .ref m8, .long sp, .ref m9, .ref m10, .ref m11, .long ha], aI G m0 220 nw, aJ G m3 73 s3, aJ G m4 72 e4, aJ G m5 72 e5, aI G m6 72 e6, aJ G m7 72 e7, aJ G m8 12 e8, aJ G m9 72 e9, aJ G m10 72 e10, aJ G m11 72 e11]) [9, 10, 0, 1, 2, 3, 4, 5, 6, 7, 8] rfl rfl ?_
          refine J_aload_n F 0 (dcq dc_X4_hasEffect_0 15 rfl) rfl rfl ?_
          refine J_iconst F (dcq dc_X4_hasEffect_0 16 rfl) ic_0 ?_
          refine J_callV F (wc := [oB 4 qm [.ref m0, .ref m1, .int (nI hc), .int (nI rf), .ref m2, .ref m3, .ref m4, .ref m5, .ref m6, .ref m7, .ref m8, .long sp, .ref m9, .ref m10, .ref m11, .long ha], aI G m0 220 nw]) (wr := [aJ G m3 73 s3, aJ G m4 72 e4, aJ G m5 72 e5, aI G m6 72 e6, aJ G m7 72 e7, aJ G m8 12 e8, aJ G m9 72 e9, aJ G m10 72 e10, aJ G m11 72 e11]) (rest := [.int (d t)]) (qc := 0) (c_X4_daysAt l hl G qm m0 m1 m2 m3 m4 m5 m6 m7 m8 m9 m10 m11 hc rf sp ha nw P M R n v g d 0 (by first | assumption | omega) (by first | assumption | omega) (by first | assumption | omega)) cd_X4_daysAt cv_X4_daysAt rfl rfl rfl tw_5_48 [0, 1] [2, 3, 4, 5, 6, 7, 8, 9, 10] rfl rfl rfl rfl (by decide) rfl ⟨(Nat.le_of_ble_eq_true rfl), (Nat.le_of_ble_eq_true rfl), (Nat.le_of_ble_eq_true rfl), (Nat.le_of_ble_eq_true rfl)⟩ (Nat.le_of_ble_eq_true rfl) rfl (dcq dc_X4_hasEffect_0 17 rfl) ?_
          rintro _ _ ⟨rfl, rfl⟩
          change J p l e (cRm 5 107 0 0) s m args below meth c G A 3 (JQ below G A (po_X4_hasEffect G qm m0 m1 m2 m3 m4 m5 m6 m7 m8 m9 m10 m11 hc rf sp ha nw P M R n v g d s3 e4 e5 e7 e8 e9 e10 e11 e6) args s 0 0) 0 0 28 [(0, .ref qm), (1, .int (nI b)), (2, .int (nI t))] [.int (d 0), .int (d t)] [aJ G m3 73 s3, aJ G m4 72 e4, aJ G m5 72 e5, aI G m6 72 e6, aJ G m7 72 e7, aJ G m8 12 e8, aJ G m9 72 e9, aJ G m10 72 e10, aJ G m11 72 e11, oB 4 qm [.ref m0, .ref m1, .int (nI hc), .int (nI rf), .ref m2, .ref m3, .ref m4, .ref m5, .ref m6, .ref m7, .ref m8, .long sp, .ref m9, .ref m10, .ref m11, .long ha], aI G m0 220 nw]
          refine J_world (ws2 := [oB 4 qm [.ref m0, .ref m1, .int (nI hc), .int (nI rf), .ref m2, .ref m3, .ref m4, .ref m5, .ref m6, .ref m7, .ref m8, .long sp, .ref m9, .ref m10, .ref m11, .long ha], aI G m0 220 nw, aJ G m3 73 s3, aJ G m4 72 e4, aJ G m5 72 e5, aI G m6 72 e6, aJ G m7 72 e7, aJ G m8 12 e8, aJ G m9 72 e9, aJ G m10 72 e10, aJ G m11 72 e11]) [9, 10, 0, 1, 2, 3, 4, 5, 6, 7, 8] rfl rfl ?_
          refine J_icmp_eq F 35 (dcq dc_X4_hasEffect_0 18 rfl) (by decide) (fun h_7 => ?_) (fun h_7 => ?_)
          · skip
            have hdd := h_7
            refine J_iconst F (dcq dc_X4_hasEffect_0 21 rfl) ic_0 ?_
            refine J_istore_n F (lv2 := [(1, .int (nI 0)), (0, .ref qm), (2, .int (nI t))]) (dcq dc_X4_hasEffect_0 22 rfl) rfl (Nat.le_of_ble_eq_true rfl) rfl ?_
            refine J_iinc F (lv2 := [(2, .int (nI (t + 1))), (1, .int (nI 0)), (0, .ref qm)]) (v := nI (t + 1)) 2 (dcq dc_X4_hasEffect_0 23 rfl) rfl (nI_inc _) (Nat.le_of_ble_eq_true rfl) rfl ?_
            refine J_goto F 4 (dcq dc_X4_hasEffect_0 24 rfl) (by decide) ?_
            refine J_locs [2, 1, 0] rfl ?_
            exact ih4 (t + 1) 0 (by omega) (by omega) (by omega) (⟨fun h => absurd h (by decide), fun z => by rcases hd_back z with h9 | h9; (have := iv.mpr h9; omega); exact absurd hdd h9⟩) (by omega)
          · skip
            have hdd := h_7
            refine J_iconst F (dcq dc_X4_hasEffect_0 19 rfl) ic_1 ?_
            refine J_goto F 36 (dcq dc_X4_hasEffect_0 20 rfl) (by decide) ?_
            refine J_istore_n F (lv2 := [(1, .int (nI 1)), (0, .ref qm), (2, .int (nI t))]) (dcq dc_X4_hasEffect_0 22 rfl) rfl (Nat.le_of_ble_eq_true rfl) rfl ?_
            refine J_iinc F (lv2 := [(2, .int (nI (t + 1))), (1, .int (nI 1)), (0, .ref qm)]) (v := nI (t + 1)) 2 (dcq dc_X4_hasEffect_0 23 rfl) rfl (nI_inc _) (Nat.le_of_ble_eq_true rfl) rfl ?_
            refine J_goto F 4 (dcq dc_X4_hasEffect_0 24 rfl) (by decide) ?_
            refine J_locs [2, 1, 0] rfl ?_
            exact ih4 (t + 1) 1 (by omega) (by omega) (by omega) (⟨fun _ => hd_step (Or.inr hdd) ht1, fun _ => rfl⟩) (by omega)
  refine J_locs [2, 1, 0] rfl ?_
  exact L4 (n + 1 - 1 + 1) 1 0 (by omega) (by omega) (by omega) (⟨fun h => absurd h (by decide), fun ⟨j, h1, h2, _⟩ => by omega⟩) (Nat.lt_succ_self _)

abbrev po_X4_effect (G : Gt) (qm m0 m1 m2 m3 m4 m5 m6 m7 m8 m9 m10 m11 hc rf : Nat) (sp ha : Int64) (nw : Nat → Int32) (P M R n : Nat) (v g d : Nat → Int32) (e11 : Nat → Int64) : Option Value → va_W → Prop := fun (v9 : Option Value) (w9 : va_W) => ∃ (r : Int64), v9 = some (.long r) ∧ w9 = [oB 4 qm [.ref m0, .ref m1, .int (nI hc), .int (nI rf), .ref m2, .ref m3, .ref m4, .ref m5, .ref m6, .ref m7, .ref m8, .long sp, .ref m9, .ref m10, .ref m11, .long ha], aI G m0 220 nw, aJ G m11 72 e11] ∧ (r = deff n d (iR P M R n v))
set_option maxHeartbeats 4000000 in
set_option maxRecDepth 100000 in
theorem c_X4_effect (l : Launch) (hl : l.stackTraces = false) (G : Gt) (qm m0 m1 m2 m3 m4 m5 m6 m7 m8 m9 m10 m11 hc rf : Nat) (sp ha : Int64) (nw : Nat → Int32) (P M R n : Nat) (v g d : Nat → Int32) (e11 : Nat → Int64) (hRM : RM nw P M R n v g d) (hn : n ≤ 72) (he11 : ∀ t, t < n → e11 t = iR P M R n v t) (hsq : 0 < dsq n d) : Con l G yX4_effect cX4_effect 6 (some .long) 3 65 0 0 [.ref qm] [oB 4 qm [.ref m0, .ref m1, .int (nI hc), .int (nI rf), .ref m2, .ref m3, .ref m4, .ref m5, .ref m6, .ref m7, .ref m8, .long sp, .ref m9, .ref m10, .ref m11, .long ha], aI G m0 220 nw, aJ G m11 72 e11] (po_X4_effect G qm m0 m1 m2 m3 m4 m5 m6 m7 m8 m9 m10 m11 hc rf sp ha nw P M R n v g d e11) := by
  refine Con.of hl cd_X4_effect (Nat.le_of_ble_eq_true rfl) ?_
  intro p e s m args below meth c A F hin9
  change Fx p l s m args meth c G A "SeasonalAdjusterModel" cX4_effect 6 (some .long) at F
  change J p l e (cRm 3 65 0 0) s m args below meth c G A 6 (JQ below G A (po_X4_effect G qm m0 m1 m2 m3 m4 m5 m6 m7 m8 m9 m10 m11 hc rf sp ha nw P M R n v g d e11) args s 0 0) 0 0 0 [(0, .ref qm)] [] [oB 4 qm [.ref m0, .ref m1, .int (nI hc), .int (nI rf), .ref m2, .ref m3, .ref m4, .ref m5, .ref m6, .ref m7, .ref m8, .long sp, .ref m9, .ref m10, .ref m11, .long ha], aI G m0 220 nw, aJ G m11 72 e11]
  refine J_lconst F (dcq dc_X4_effect_0 0 rfl) lc_0 ?_
  refine J_lstore_n F (lv2 := [(1, .long 0), (0, .ref qm)]) (dcq dc_X4_effect_0 1 rfl) rfl (Nat.le_of_ble_eq_true rfl) rfl ?_
  refine J_lconst F (dcq dc_X4_effect_0 2 rfl) lc_0 ?_
  refine J_lstore_n F (lv2 := [(3, .long 0), (1, .long 0), (0, .ref qm)]) (dcq dc_X4_effect_0 3 rfl) rfl (Nat.le_of_ble_eq_true rfl) rfl ?_
  refine J_iconst F (dcq dc_X4_effect_0 4 rfl) ic_0 ?_
  refine J_istore F (lv2 := [(5, .int (nI 0)), (3, .long 0), (1, .long 0), (0, .ref qm)]) (dcq dc_X4_effect_0 5 rfl) (Nat.le_of_ble_eq_true rfl) rfl ?_
  have L7 : ∀ (fu7 : Nat), ∀ (t : Nat) (xu xd9 : Int64), (t ≤ n) → (xu = sm (fun t => exd n d (sm (xv d) 0 n) t * iR P M R n v t) 0 t) → (xd9 = sm (fun t => exd n d (sm (xv d) 0 n) t * exd n d (sm (xv d) 0 n) t) 0 t) → n - t < fu7 → J p l e (cRm 3 65 0 0) s m args below meth c G A 6 (JQ below G A (po_X4_effect G qm m0 m1 m2 m3 m4 m5 m6 m7 m8 m9 m10 m11 hc rf sp ha nw P M R n v g d e11) args s 0 0) 0 0 7 [(0, .ref qm), (1, .long xu), (3, .long xd9), (5, .int (nI t))] [] [oB 4 qm [.ref m0, .ref m1, .int (nI hc), .int (nI rf), .ref m2, .ref m3, .ref m4, .ref m5, .ref m6, .ref m7, .ref m8, .long sp, .ref m9, .ref m10, .ref m11, .long ha], aI G m0 220 nw, aJ G m11 72 e11] := by
    intro fu7
    induction fu7 with
    | zero => intro t xu xd9 ht iu id hm7; exact absurd hm7 (Nat.not_lt_zero _)
    | succ fu7 ih7 =>
      intro t xu xd9 ht iu id hm7
      refine J_iload F 3 (dcq dc_X4_effect_0 6 rfl) rfl ?_
      refine J_aload_n F 0 (dcq dc_X4_effect_0 7 rfl) rfl rfl ?_
      refine J_get F fcX4 0 0 rfl (Nat.le_of_ble_eq_true rfl) tw_3_223 rfl rfl (dcq dc_X4_effect_0 8 rfl) ?_
      refine J_iconst F (dcq dc_X4_effect_0 9 rfl) ic_3 ?_
      refine J_iald F 1 rfl (by omega) (Nat.le_of_ble_eq_true rfl) (dcq dc_X4_effect_0 10 rfl) ?_
      refine J_cast rfl (st2 := [.int (nI n), .int (nI t)]) (by rw [hRM.2.2.2.1]) rfl ?_
      refine J_ncmp_ge F 57 (by omega) (by omega) (dcq dc_X4_effect_0 11 rfl) (by decide) (fun h_1 => ?_) (fun h_1 => ?_)
      · skip
        refine J_ldc2 F (v2 := (1000)) tw_4_214 rfl (dcq dc_X4_effect_0 35 rfl) ?_
        refine J_aload_n F 0 (dcq dc_X4_effect_0 36 rfl) rfl rfl ?_
        refine J_get F fcX4 0 0 rfl (Nat.le_of_ble_eq_true rfl) tw_3_223 rfl rfl (dcq dc_X4_effect_0 37 rfl) ?_
        refine J_iconst F (dcq dc_X4_effect_0 38 rfl) ic_3 ?_
        refine J_iald F 1 rfl (by omega) (Nat.le_of_ble_eq_true rfl) (dcq dc_X4_effect_0 39 rfl) ?_
        refine J_cast rfl (st2 := [.int (nI n), .long 1000]) (by rw [hRM.2.2.2.1]) rfl ?_
        refine J_i2l F (v := lN n) (dcq dc_X4_effect_0 40 rfl) (nI_l (by omega)) ?_
        refine J_lmul F (v := 1000 * (lN n)) (dcq dc_X4_effect_0 41 rfl) rfl ?_
        refine J_lload_n F 1 (dcq dc_X4_effect_0 42 rfl) rfl rfl ?_
        refine J_lmul F (v := (1000 * (lN n)) * xu) (dcq dc_X4_effect_0 43 rfl) rfl ?_
        refine J_lload_n F 2 (dcq dc_X4_effect_0 44 rfl) rfl rfl ?_
        refine J_callS F (wc := []) (wr := [oB 4 qm [.ref m0, .ref m1, .int (nI hc), .int (nI rf), .ref m2, .ref m3, .ref m4, .ref m5, .ref m6, .ref m7, .ref m8, .long sp, .ref m9, .ref m10, .ref m11, .long ha], aI G m0 220 nw, aJ G m11 72 e11]) (rest := []) (c_X4_over l hl G ((1000 * (lN n)) * xu) xd9 (by rw [id, show t = n by omega]; exact hsq)) cd_X4_over tw_4_138 tw_4_137 [] [0, 1, 2] rfl rfl rfl rfl (by decide) rfl ⟨(Nat.le_of_ble_eq_true rfl), (Nat.le_of_ble_eq_true rfl), (Nat.le_of_ble_eq_true rfl), (Nat.le_of_ble_eq_true rfl)⟩ (Nat.le_of_ble_eq_true rfl) rfl (dcq dc_X4_effect_0 45 rfl) ?_
        rintro _ _ ⟨rq, rfl, rfl, hq⟩
        change J p l e (cRm 3 65 0 0) s m args below meth c G A 6 (JQ below G A (po_X4_effect G qm m0 m1 m2 m3 m4 m5 m6 m7 m8 m9 m10 m11 hc rf sp ha nw P M R n v g d e11) args s 0 0) 0 0 74 [(0, .ref qm), (1, .long xu), (3, .long xd9), (5, .int (nI t))] [.long rq] [oB 4 qm [.ref m0, .ref m1, .int (nI hc), .int (nI rf), .ref m2, .ref m3, .ref m4, .ref m5, .ref m6, .ref m7, .ref m8, .long sp, .ref m9, .ref m10, .ref m11, .long ha], aI G m0 220 nw, aJ G m11 72 e11]
        have hq : rq = quo ((1000 * (lN n)) * xu) xd9 := hq
        exact J_lret F ⟨rq, rfl, rfl, by rw [hq, iu, id, show t = n by omega]; rfl⟩ (Nat.le_of_ble_eq_true rfl) (Nat.le_of_ble_eq_true rfl) (dcq dc_X4_effect_0 46 rfl)
      · skip
        refine J_lload_n F 1 (dcq dc_X4_effect_0 12 rfl) rfl rfl ?_
        refine J_aload_n F 0 (dcq dc_X4_effect_0 13 rfl) rfl rfl ?_
        refine J_iload F 3 (dcq dc_X4_effect_0 14 rfl) rfl ?_
        refine J_callV F (wc := [oB 4 qm [.ref m0, .ref m1, .int (nI hc), .int (nI rf), .ref m2, .ref m3, .ref m4, .ref m5, .ref m6, .ref m7, .ref m8, .long sp, .ref m9, .ref m10, .ref m11, .long ha], aI G m0 220 nw]) (wr := [aJ G m11 72 e11]) (rest := [.long xu]) (qc := 0) (c_X4_unlike l hl G qm m0 m1 m2 m3 m4 m5 m6 m7 m8 m9 m10 m11 hc rf sp ha nw P M R n v g d t (by first | assumption | omega) (by first | assumption | omega) (by first | assumption | omega)) cd_X4_unlike cv_X4_unlike rfl rfl rfl tw_5_56 [0, 1] [2] rfl rfl rfl rfl (by decide) rfl ⟨(Nat.le_of_ble_eq_true rfl), (Nat.le_of_ble_eq_true rfl), (Nat.le_of_ble_eq_true rfl), (Nat.le_of_ble_eq_true rfl)⟩ (Nat.le_of_ble_eq_true rfl) rfl (dcq dc_X4_effect_0 15 rfl) ?_
        rintro _ _ ⟨ra, rfl, rfl, hr1⟩
        change J p l e (cRm 3 65 0 0) s m args below meth c G A 6 (JQ below G A (po_X4_effect G qm m0 m1 m2 m3 m4 m5 m6 m7 m8 m9 m10 m11 hc rf sp ha nw P M R n v g d e11) args s 0 0) 0 0 25 [(0, .ref qm), (1, .long xu), (3, .long xd9), (5, .int (nI t))] [.long ra, .long xu] [aJ G m11 72 e11, oB 4 qm [.ref m0, .ref m1, .int (nI hc), .int (nI rf), .ref m2, .ref m3, .ref m4, .ref m5, .ref m6, .ref m7, .ref m8, .long sp, .ref m9, .ref m10, .ref m11, .long ha], aI G m0 220 nw]
        have hr1 : ra = exd n d (sm (xv d) 0 n) t := hr1
        refine J_world (ws2 := [oB 4 qm [.ref m0, .ref m1, .int (nI hc), .int (nI rf), .ref m2, .ref m3, .ref m4, .ref m5, .ref m6, .ref m7, .ref m8, .long sp, .ref m9, .ref m10, .ref m11, .long ha], aI G m0 220 nw, aJ G m11 72 e11]) [1, 2, 0] rfl rfl ?_
        refine J_aload_n F 0 (dcq dc_X4_effect_0 16 rfl) rfl rfl ?_
        refine J_get F fcX4 0 14 rfl (Nat.le_of_ble_eq_true rfl) tw_3_237 rfl rfl (dcq dc_X4_effect_0 17 rfl) ?_
        refine J_iload F 3 (dcq dc_X4_effect_0 18 rfl) rfl ?_
        refine J_lald F 2 rfl (by omega) (Nat.le_of_ble_eq_true rfl) (dcq dc_X4_effect_0 19 rfl) ?_
        refine J_lmul F (v := ra * (e11 t)) (dcq dc_X4_effect_0 20 rfl) rfl ?_
        refine J_ladd F (v := xu + (ra * (e11 t))) (dcq dc_X4_effect_0 21 rfl) rfl ?_
        refine J_lstore_n F (lv2 := [(1, .long (xu + (ra * (e11 t)))), (0, .ref qm), (3, .long xd9), (5, .int (nI t))]) (dcq dc_X4_effect_0 22 rfl) rfl (Nat.le_of_ble_eq_true rfl) rfl ?_
        refine J_lload_n F 2 (dcq dc_X4_effect_0 23 rfl) rfl rfl ?_
        refine J_aload_n F 1 (dcq dc_X4_effect_0 24 rfl) rfl rfl ?_
        refine J_iload F 3 (dcq dc_X4_effect_0 25 rfl) rfl ?_
        refine J_callV F (wc := [oB 4 qm [.ref m0, .ref m1, .int (nI hc), .int (nI rf), .ref m2, .ref m3, .ref m4, .ref m5, .ref m6, .ref m7, .ref m8, .long sp, .ref m9, .ref m10, .ref m11, .long ha], aI G m0 220 nw]) (wr := [aJ G m11 72 e11]) (rest := [.long xd9]) (qc := 0) (c_X4_unlike l hl G qm m0 m1 m2 m3 m4 m5 m6 m7 m8 m9 m10 m11 hc rf sp ha nw P M R n v g d t (by first | assumption | omega) (by first | assumption | omega) (by first | assumption | omega)) cd_X4_unlike cv_X4_unlike rfl rfl rfl tw_5_56 [0, 1] [2] rfl rfl rfl rfl (by decide) rfl ⟨(Nat.le_of_ble_eq_true rfl), (Nat.le_of_ble_eq_true rfl), (Nat.le_of_ble_eq_true rfl), (Nat.le_of_ble_eq_true rfl)⟩ (Nat.le_of_ble_eq_true rfl) rfl (dcq dc_X4_effect_0 26 rfl) ?_
        rintro _ _ ⟨rb, rfl, rfl, hr2⟩
        change J p l e (cRm 3 65 0 0) s m args below meth c G A 6 (JQ below G A (po_X4_effect G qm m0 m1 m2 m3 m4 m5 m6 m7 m8 m9 m10 m11 hc rf sp ha nw P M R n v g d e11) args s 0 0) 0 0 42 [(1, .long (xu + (ra * (e11 t)))), (0, .ref qm), (3, .long xd9), (5, .int (nI t))] [.long rb, .long xd9] [aJ G m11 72 e11, oB 4 qm [.ref m0, .ref m1, .int (nI hc), .int (nI rf), .ref m2, .ref m3, .ref m4, .ref m5, .ref m6, .ref m7, .ref m8, .long sp, .ref m9, .ref m10, .ref m11, .long ha], aI G m0 220 nw]
        have hr2 : rb = exd n d (sm (xv d) 0 n) t := hr2
        refine J_world (ws2 := [oB 4 qm [.ref m0, .ref m1, .int (nI hc), .int (nI rf), .ref m2, .ref m3, .ref m4, .ref m5, .ref m6, .ref m7, .ref m8, .long sp, .ref m9, .ref m10, .ref m11, .long ha], aI G m0 220 nw, aJ G m11 72 e11]) [1, 2, 0] rfl rfl ?_
        refine J_aload_n F 1 (dcq dc_X4_effect_0 27 rfl) rfl rfl ?_
        refine J_iload F 3 (dcq dc_X4_effect_0 28 rfl) rfl ?_
        refine J_callV F (wc := [oB 4 qm [.ref m0, .ref m1, .int (nI hc), .int (nI rf), .ref m2, .ref m3, .ref m4, .ref m5, .ref m6, .ref m7, .ref m8, .long sp, .ref m9, .ref m10, .ref m11, .long ha], aI G m0 220 nw]) (wr := [aJ G m11 72 e11]) (rest := [.long rb, .long xd9]) (qc := 0) (c_X4_unlike l hl G qm m0 m1 m2 m3 m4 m5 m6 m7 m8 m9 m10 m11 hc rf sp ha nw P M R n v g d t (by first | assumption | omega) (by first | assumption | omega) (by first | assumption | omega)) cd_X4_unlike cv_X4_unlike rfl rfl rfl tw_5_56 [0, 1] [2] rfl rfl rfl rfl (by decide) rfl ⟨(Nat.le_of_ble_eq_true rfl), (Nat.le_of_ble_eq_true rfl), (Nat.le_of_ble_eq_true rfl), (Nat.le_of_ble_eq_true rfl)⟩ (Nat.le_of_ble_eq_true rfl) rfl (dcq dc_X4_effect_0 29 rfl) ?_
        rintro _ _ ⟨rc, rfl, rfl, hr3⟩
        change J p l e (cRm 3 65 0 0) s m args below meth c G A 6 (JQ below G A (po_X4_effect G qm m0 m1 m2 m3 m4 m5 m6 m7 m8 m9 m10 m11 hc rf sp ha nw P M R n v g d e11) args s 0 0) 0 0 48 [(1, .long (xu + (ra * (e11 t)))), (0, .ref qm), (3, .long xd9), (5, .int (nI t))] [.long rc, .long rb, .long xd9] [aJ G m11 72 e11, oB 4 qm [.ref m0, .ref m1, .int (nI hc), .int (nI rf), .ref m2, .ref m3, .ref m4, .ref m5, .ref m6, .ref m7, .ref m8, .long sp, .ref m9, .ref m10, .ref m11, .long ha], aI G m0 220 nw]
        have hr3 : rc = exd n d (sm (xv d) 0 n) t := hr3
        refine J_world (ws2 := [oB 4 qm [.ref m0, .ref m1, .int (nI hc), .int (nI rf), .ref m2, .ref m3, .ref m4, .ref m5, .ref m6, .ref m7, .ref m8, .long sp, .ref m9, .ref m10, .ref m11, .long ha], aI G m0 220 nw, aJ G m11 72 e11]) [1, 2, 0] rfl rfl ?_
        refine J_lmul F (v := rb * rc) (dcq dc_X4_effect_0 30 rfl) rfl ?_
        refine J_ladd F (v := xd9 + (rb * rc)) (dcq dc_X4_effect_0 31 rfl) rfl ?_
        refine J_lstore_n F (lv2 := [(3, .long (xd9 + (rb * rc))), (1, .long (xu + (ra * (e11 t)))), (0, .ref qm), (5, .int (nI t))]) (dcq dc_X4_effect_0 32 rfl) rfl (Nat.le_of_ble_eq_true rfl) rfl ?_
        refine J_iinc F (lv2 := [(5, .int (nI (t + 1))), (3, .long (xd9 + (rb * rc))), (1, .long (xu + (ra * (e11 t)))), (0, .ref qm)]) (v := nI (t + 1)) 3 (dcq dc_X4_effect_0 33 rfl) rfl (nI_inc _) (Nat.le_of_ble_eq_true rfl) rfl ?_
        refine J_goto F 7 (dcq dc_X4_effect_0 34 rfl) (by decide) ?_
        refine J_locs [3, 2, 1, 0] rfl ?_
        exact ih7 (t + 1) (xu + (ra * (e11 t))) (xd9 + (rb * rc)) (by omega) (by simp only [sm, Nat.zero_add]; rw [iu, hr1, he11 t (by omega)]) (by simp only [sm, Nat.zero_add]; rw [id, hr2, hr3]) (by omega)
  refine J_locs [3, 2, 1, 0] rfl ?_
  exact L7 (n - 0 + 1) 0 0 0 (by omega) (rfl) (rfl) (Nat.lt_succ_self _)

abbrev po_X4_daysEffect (G : Gt) (qm m0 m1 m2 m3 m4 m5 m6 m7 m8 m9 m10 m11 hc rf : Nat) (sp ha : Int64) (nw : Nat → Int32) (P M R n : Nat) (v g d : Nat → Int32) (s3 : Nat → Int64) (e4 : Nat → Int64) (e5 : Nat → Int64) (e7 : Nat → Int64) (e8 : Nat → Int64) (e9 : Nat → Int64) (e10 : Nat → Int64) (e11 : Nat → Int64) (e6 : Nat → Int32) : Option Value → va_W → Prop := fun (v9 : Option Value) (w9 : va_W) => (∃ (sp2 : Int64), ∃ (k3 k4 k5 : Nat → Int64), ∃ (k6 : Nat → Int32), ∃ (k7 k8 k9 k10 k11 : Nat → Int64), ∃ (r : Int64), v9 = some (.long r) ∧ w9 = [oB 4 qm [.ref m0, .ref m1, .int (nI hc), .int (nI 0), .ref m2, .ref m3, .ref m4, .ref m5, .ref m6, .ref m7, .ref m8, .long sp2, .ref m9, .ref m10, .ref m11, .long ha], aI G m0 220 nw, aJ G m3 73 k3, aJ G m4 72 k4, aJ G m5 72 k5, aI G m6 72 k6, aJ G m7 72 k7, aJ G m8 12 k8, aJ G m9 72 k9, aJ G m10 72 k10, aJ G m11 72 k11] ∧ ((M = 0 ∧ dcm P n g ∧ 0 < dsq n d)) ∧ (r = deff n d (iR P M R n v))) ∨ (v9 = some (.long 0) ∧ w9 = [oB 4 qm [.ref m0, .ref m1, .int (nI hc), .int (nI 1), .ref m2, .ref m3, .ref m4, .ref m5, .ref m6, .ref m7, .ref m8, .long sp, .ref m9, .ref m10, .ref m11, .long ha], aI G m0 220 nw, aJ G m3 73 s3, aJ G m4 72 e4, aJ G m5 72 e5, aI G m6 72 e6, aJ G m7 72 e7, aJ G m8 12 e8, aJ G m9 72 e9, aJ G m10 72 e10, aJ G m11 72 e11] ∧ (¬ (M = 0 ∧ dcm P n g ∧ 0 < dsq n d)))
set_option maxHeartbeats 4000000 in
set_option maxRecDepth 100000 in
theorem c_X4_daysEffect (l : Launch) (hl : l.stackTraces = false) (G : Gt) (qm m0 m1 m2 m3 m4 m5 m6 m7 m8 m9 m10 m11 hc rf : Nat) (sp ha : Int64) (nw : Nat → Int32) (P M R n : Nat) (v g d : Nat → Int32) (s3 : Nat → Int64) (e4 : Nat → Int64) (e5 : Nat → Int64) (e7 : Nat → Int64) (e8 : Nat → Int64) (e9 : Nat → Int64) (e10 : Nat → Int64) (e11 : Nat → Int64) (e6 : Nat → Int32) (hRM : RM nw P M R n v g d) (hn : n ≤ 72) (h01 : G01 n g) (hP : 2 ≤ P) (hP12 : P ≤ 12) (hM : M ≤ 1) (hR : R ≤ 5) (hgv : GVg M n v g) (hgd : GDD n d) : Con l G yX4_daysEffect cX4_daysEffect 1 (some .long) 6 129 0 0 [.ref qm] [oB 4 qm [.ref m0, .ref m1, .int (nI hc), .int (nI rf), .ref m2, .ref m3, .ref m4, .ref m5, .ref m6, .ref m7, .ref m8, .long sp, .ref m9, .ref m10, .ref m11, .long ha], aI G m0 220 nw, aJ G m3 73 s3, aJ G m4 72 e4, aJ G m5 72 e5, aI G m6 72 e6, aJ G m7 72 e7, aJ G m8 12 e8, aJ G m9 72 e9, aJ G m10 72 e10, aJ G m11 72 e11] (po_X4_daysEffect G qm m0 m1 m2 m3 m4 m5 m6 m7 m8 m9 m10 m11 hc rf sp ha nw P M R n v g d s3 e4 e5 e7 e8 e9 e10 e11 e6) := by
  refine Con.of hl cd_X4_daysEffect (Nat.le_of_ble_eq_true rfl) ?_
  intro p e s m args below meth c A F hin9
  change Fx p l s m args meth c G A "SeasonalAdjusterModel" cX4_daysEffect 1 (some .long) at F
  change J p l e (cRm 6 129 0 0) s m args below meth c G A 1 (JQ below G A (po_X4_daysEffect G qm m0 m1 m2 m3 m4 m5 m6 m7 m8 m9 m10 m11 hc rf sp ha nw P M R n v g d s3 e4 e5 e7 e8 e9 e10 e11 e6) args s 0 0) 0 0 0 [(0, .ref qm)] [] [oB 4 qm [.ref m0, .ref m1, .int (nI hc), .int (nI rf), .ref m2, .ref m3, .ref m4, .ref m5, .ref m6, .ref m7, .ref m8, .long sp, .ref m9, .ref m10, .ref m11, .long ha], aI G m0 220 nw, aJ G m3 73 s3, aJ G m4 72 e4, aJ G m5 72 e5, aI G m6 72 e6, aJ G m7 72 e7, aJ G m8 12 e8, aJ G m9 72 e9, aJ G m10 72 e10, aJ G m11 72 e11]
  refine J_aload_n F 0 (dcq dc_X4_daysEffect_0 0 rfl) rfl rfl ?_
  refine J_aload_n F 0 (dcq dc_X4_daysEffect_0 1 rfl) rfl rfl ?_
  refine J_callV F (wc := [oB 4 qm [.ref m0, .ref m1, .int (nI hc), .int (nI rf), .ref m2, .ref m3, .ref m4, .ref m5, .ref m6, .ref m7, .ref m8, .long sp, .ref m9, .ref m10, .ref m11, .long ha], aI G m0 220 nw, aJ G m3 73 s3, aJ G m4 72 e4, aJ G m5 72 e5, aI G m6 72 e6, aJ G m7 72 e7, aJ G m8 12 e8, aJ G m9 72 e9, aJ G m10 72 e10, aJ G m11 72 e11]) (wr := []) (rest := [.ref qm]) (qc := 0) (c_X4_hasEffect l hl G qm m0 m1 m2 m3 m4 m5 m6 m7 m8 m9 m10 m11 hc rf sp ha nw P M R n v g d s3 e4 e5 e7 e8 e9 e10 e11 e6 (by first | assumption | omega) (by first | assumption | omega) (by first | assumption | omega) (by first | assumption | omega) (by first | assumption | omega) (by first | assumption | omega) (by first | assumption | omega) (by first | assumption | omega) (by first | assumption | omega)) cd_X4_hasEffect cv_X4_hasEffect rfl rfl rfl tw_5_44 [0, 1, 2, 3, 4, 5, 6, 7, 8, 9, 10] [] rfl rfl rfl rfl (by decide) rfl ⟨(Nat.le_of_ble_eq_true rfl), (Nat.le_of_ble_eq_true rfl), (Nat.le_of_ble_eq_true rfl), (Nat.le_of_ble_eq_true rfl)⟩ (Nat.le_of_ble_eq_true rfl) rfl (dcq dc_X4_daysEffect_0 2 rfl) ?_
  rintro _ _ h9x
  rcases h9x with ⟨sp2, k3, k4, k5, k6, k7, k8, k9, k10, k11, rfl, rfl, hef, hmp⟩ | ⟨rfl, rfl, hne⟩
  · skip
    have hef : (M = 0 ∧ dcm P n g ∧ 0 < dsq n d) := hef
    have hmp : MPT P M R n v sp2 k4 k5 k6 k7 k8 k9 k10 k11 := hmp
    change J p l e (cRm 6 129 0 0) s m args below meth c G A 1 (JQ below G A (po_X4_daysEffect G qm m0 m1 m2 m3 m4 m5 m6 m7 m8 m9 m10 m11 hc rf sp ha nw P M R n v g d s3 e4 e5 e7 e8 e9 e10 e11 e6) args s 0 0) 0 0 5 [(0, .ref qm)] [.int (nI 1), .ref qm] [oB 4 qm [.ref m0, .ref m1, .int (nI hc), .int (nI rf), .ref m2, .ref m3, .ref m4, .ref m5, .ref m6, .ref m7, .ref m8, .long sp2, .ref m9, .ref m10, .ref m11, .long ha], aI G m0 220 nw, aJ G m3 73 k3, aJ G m4 72 k4, aJ G m5 72 k5, aI G m6 72 k6, aJ G m7 72 k7, aJ G m8 12 k8, aJ G m9 72 k9, aJ G m10 72 k10, aJ G m11 72 k11]
    obtain ⟨q4, q5, q6, q7, q8, q9, q10, q11, qsp⟩ := id hmp
    obtain ⟨hm0, hd, hsq⟩ := id hef
    refine J_if_eq F 12 (dcq dc_X4_daysEffect_0 3 rfl) (by decide) (fun h_1 => absurd h_1 (by decide)) (fun _ => ?_)
    refine J_iconst F (dcq dc_X4_daysEffect_0 4 rfl) ic_0 ?_
    refine J_goto F 13 (dcq dc_X4_daysEffect_0 5 rfl) (by decide) ?_
    refine J_callV F (wc := [oB 4 qm [.ref m0, .ref m1, .int (nI hc), .int (nI rf), .ref m2, .ref m3, .ref m4, .ref m5, .ref m6, .ref m7, .ref m8, .long sp2, .ref m9, .ref m10, .ref m11, .long ha]]) (wr := [aI G m0 220 nw, aJ G m3 73 k3, aJ G m4 72 k4, aJ G m5 72 k5, aI G m6 72 k6, aJ G m7 72 k7, aJ G m8 12 k8, aJ G m9 72 k9, aJ G m10 72 k10, aJ G m11 72 k11]) (rest := []) (qc := 0) (c_X4_refused_0 l hl G qm m0 m1 m2 m3 m4 m5 m6 m7 m8 m9 m10 m11 hc rf sp2 ha) cd_X4_refused cv_X4_refused rfl rfl rfl tw_4_40 [0] [1, 2, 3, 4, 5, 6, 7, 8, 9, 10] rfl rfl rfl rfl (by decide) rfl ⟨(Nat.le_of_ble_eq_true rfl), (Nat.le_of_ble_eq_true rfl), (Nat.le_of_ble_eq_true rfl), (Nat.le_of_ble_eq_true rfl)⟩ (Nat.le_of_ble_eq_true rfl) rfl (dcq dc_X4_daysEffect_0 7 rfl) ?_
    rintro _ _ ⟨rfl, rfl⟩
    change J p l e (cRm 6 129 0 0) s m args below meth c G A 1 (JQ below G A (po_X4_daysEffect G qm m0 m1 m2 m3 m4 m5 m6 m7 m8 m9 m10 m11 hc rf sp ha nw P M R n v g d s3 e4 e5 e7 e8 e9 e10 e11 e6) args s 0 0) 0 0 16 [(0, .ref qm)] [.int (nI 0)] [aI G m0 220 nw, aJ G m3 73 k3, aJ G m4 72 k4, aJ G m5 72 k5, aI G m6 72 k6, aJ G m7 72 k7, aJ G m8 12 k8, aJ G m9 72 k9, aJ G m10 72 k10, aJ G m11 72 k11, oB 4 qm [.ref m0, .ref m1, .int (nI hc), .int (nI 0), .ref m2, .ref m3, .ref m4, .ref m5, .ref m6, .ref m7, .ref m8, .long sp2, .ref m9, .ref m10, .ref m11, .long ha]]
    refine J_world (ws2 := [oB 4 qm [.ref m0, .ref m1, .int (nI hc), .int (nI 0), .ref m2, .ref m3, .ref m4, .ref m5, .ref m6, .ref m7, .ref m8, .long sp2, .ref m9, .ref m10, .ref m11, .long ha], aI G m0 220 nw, aJ G m3 73 k3, aJ G m4 72 k4, aJ G m5 72 k5, aI G m6 72 k6, aJ G m7 72 k7, aJ G m8 12 k8, aJ G m9 72 k9, aJ G m10 72 k10, aJ G m11 72 k11]) [10, 0, 1, 2, 3, 4, 5, 6, 7, 8, 9] rfl rfl ?_
    refine J_if_eq F 23 (dcq dc_X4_daysEffect_0 8 rfl) (by decide) (fun _ => ?_) (fun h_2 => absurd h_2 (by decide))
    refine J_aload_n F 0 (dcq dc_X4_daysEffect_0 11 rfl) rfl rfl ?_
    refine J_callV F (wc := [oB 4 qm [.ref m0, .ref m1, .int (nI hc), .int (nI 0), .ref m2, .ref m3, .ref m4, .ref m5, .ref m6, .ref m7, .ref m8, .long sp2, .ref m9, .ref m10, .ref m11, .long ha], aI G m0 220 nw, aJ G m11 72 k11]) (wr := [aJ G m3 73 k3, aJ G m4 72 k4, aJ G m5 72 k5, aI G m6 72 k6, aJ G m7 72 k7, aJ G m8 12 k8, aJ G m9 72 k9, aJ G m10 72 k10]) (rest := []) (qc := 0) (c_X4_effect l hl G qm m0 m1 m2 m3 m4 m5 m6 m7 m8 m9 m10 m11 hc 0 sp2 ha nw P M R n v g d k11 (by first | assumption | omega) (by first | assumption | omega) (q11) (by first | assumption | omega)) cd_X4_effect cv_X4_effect rfl rfl rfl tw_5_52 [0, 1, 10] [2, 3, 4, 5, 6, 7, 8, 9] rfl rfl rfl rfl (by decide) rfl ⟨(Nat.le_of_ble_eq_true rfl), (Nat.le_of_ble_eq_true rfl), (Nat.le_of_ble_eq_true rfl), (Nat.le_of_ble_eq_true rfl)⟩ (Nat.le_of_ble_eq_true rfl) rfl (dcq dc_X4_daysEffect_0 12 rfl) ?_
    rintro _ _ ⟨re, rfl, rfl, hre⟩
    change J p l e (cRm 6 129 0 0) s m args below meth c G A 1 (JQ below G A (po_X4_daysEffect G qm m0 m1 m2 m3 m4 m5 m6 m7 m8 m9 m10 m11 hc rf sp ha nw P M R n v g d s3 e4 e5 e7 e8 e9 e10 e11 e6) args s 0 0) 0 0 27 [(0, .ref qm)] [.long re] [aJ G m3 73 k3, aJ G m4 72 k4, aJ G m5 72 k5, aI G m6 72 k6, aJ G m7 72 k7, aJ G m8 12 k8, aJ G m9 72 k9, aJ G m10 72 k10, oB 4 qm [.ref m0, .ref m1, .int (nI hc), .int (nI 0), .ref m2, .ref m3, .ref m4, .ref m5, .ref m6, .ref m7, .ref m8, .long sp2, .ref m9, .ref m10, .ref m11, .long ha], aI G m0 220 nw, aJ G m11 72 k11]
    have hre : re = deff n d (iR P M R n v) := hre
    refine J_world (ws2 := [oB 4 qm [.ref m0, .ref m1, .int (nI hc), .int (nI 0), .ref m2, .ref m3, .ref m4, .ref m5, .ref m6, .ref m7, .ref m8, .long sp2, .ref m9, .ref m10, .ref m11, .long ha], aI G m0 220 nw, aJ G m3 73 k3, aJ G m4 72 k4, aJ G m5 72 k5, aI G m6 72 k6, aJ G m7 72 k7, aJ G m8 12 k8, aJ G m9 72 k9, aJ G m10 72 k10, aJ G m11 72 k11]) [8, 9, 0, 1, 2, 3, 4, 5, 6, 7, 10] rfl rfl ?_
    exact J_lret F (Or.inl ⟨sp2, k3, k4, k5, k6, k7, k8, k9, k10, k11, re, rfl, rfl, hef, hre⟩) (Nat.le_of_ble_eq_true rfl) (Nat.le_of_ble_eq_true rfl) (dcq dc_X4_daysEffect_0 13 rfl)
  · skip
    have hne : ¬ (M = 0 ∧ dcm P n g ∧ 0 < dsq n d) := hne
    change J p l e (cRm 6 129 0 0) s m args below meth c G A 1 (JQ below G A (po_X4_daysEffect G qm m0 m1 m2 m3 m4 m5 m6 m7 m8 m9 m10 m11 hc rf sp ha nw P M R n v g d s3 e4 e5 e7 e8 e9 e10 e11 e6) args s 0 0) 0 0 5 [(0, .ref qm)] [.int (nI 0), .ref qm] [oB 4 qm [.ref m0, .ref m1, .int (nI hc), .int (nI rf), .ref m2, .ref m3, .ref m4, .ref m5, .ref m6, .ref m7, .ref m8, .long sp, .ref m9, .ref m10, .ref m11, .long ha], aI G m0 220 nw, aJ G m3 73 s3, aJ G m4 72 e4, aJ G m5 72 e5, aI G m6 72 e6, aJ G m7 72 e7, aJ G m8 12 e8, aJ G m9 72 e9, aJ G m10 72 e10, aJ G m11 72 e11]
    refine J_if_eq F 12 (dcq dc_X4_daysEffect_0 3 rfl) (by decide) (fun _ => ?_) (fun h_3 => absurd h_3 (by decide))
    refine J_iconst F (dcq dc_X4_daysEffect_0 6 rfl) ic_1 ?_
    refine J_callV F (wc := [oB 4 qm [.ref m0, .ref m1, .int (nI hc), .int (nI rf), .ref m2, .ref m3, .ref m4, .ref m5, .ref m6, .ref m7, .ref m8, .long sp, .ref m9, .ref m10, .ref m11, .long ha]]) (wr := [aI G m0 220 nw, aJ G m3 73 s3, aJ G m4 72 e4, aJ G m5 72 e5, aI G m6 72 e6, aJ G m7 72 e7, aJ G m8 12 e8, aJ G m9 72 e9, aJ G m10 72 e10, aJ G m11 72 e11]) (rest := []) (qc := 0) (c_X4_refused_1 l hl G qm m0 m1 m2 m3 m4 m5 m6 m7 m8 m9 m10 m11 hc rf sp ha) cd_X4_refused cv_X4_refused rfl rfl rfl tw_4_40 [0] [1, 2, 3, 4, 5, 6, 7, 8, 9, 10] rfl rfl rfl rfl (by decide) rfl ⟨(Nat.le_of_ble_eq_true rfl), (Nat.le_of_ble_eq_true rfl), (Nat.le_of_ble_eq_true rfl), (Nat.le_of_ble_eq_true rfl)⟩ (Nat.le_of_ble_eq_true rfl) rfl (dcq dc_X4_daysEffect_0 7 rfl) ?_
    rintro _ _ ⟨rfl, rfl⟩
    change J p l e (cRm 6 129 0 0) s m args below meth c G A 1 (JQ below G A (po_X4_daysEffect G qm m0 m1 m2 m3 m4 m5 m6 m7 m8 m9 m10 m11 hc rf sp ha nw P M R n v g d s3 e4 e5 e7 e8 e9 e10 e11 e6) args s 0 0) 0 0 16 [(0, .ref qm)] [.int (nI 1)] [aI G m0 220 nw, aJ G m3 73 s3, aJ G m4 72 e4, aJ G m5 72 e5, aI G m6 72 e6, aJ G m7 72 e7, aJ G m8 12 e8, aJ G m9 72 e9, aJ G m10 72 e10, aJ G m11 72 e11, oB 4 qm [.ref m0, .ref m1, .int (nI hc), .int (nI 1), .ref m2, .ref m3, .ref m4, .ref m5, .ref m6, .ref m7, .ref m8, .long sp, .ref m9, .ref m10, .ref m11, .long ha]]
    refine J_world (ws2 := [oB 4 qm [.ref m0, .ref m1, .int (nI hc), .int (nI 1), .ref m2, .ref m3, .ref m4, .ref m5, .ref m6, .ref m7, .ref m8, .long sp, .ref m9, .ref m10, .ref m11, .long ha], aI G m0 220 nw, aJ G m3 73 s3, aJ G m4 72 e4, aJ G m5 72 e5, aI G m6 72 e6, aJ G m7 72 e7, aJ G m8 12 e8, aJ G m9 72 e9, aJ G m10 72 e10, aJ G m11 72 e11]) [10, 0, 1, 2, 3, 4, 5, 6, 7, 8, 9] rfl rfl ?_
    refine J_if_eq F 23 (dcq dc_X4_daysEffect_0 8 rfl) (by decide) (fun h_4 => absurd h_4 (by decide)) (fun _ => ?_)
    refine J_lconst F (dcq dc_X4_daysEffect_0 9 rfl) lc_0 ?_
    refine J_goto F 27 (dcq dc_X4_daysEffect_0 10 rfl) (by decide) ?_
    exact J_lret F (Or.inr (⟨rfl, rfl, hne⟩)) (Nat.le_of_ble_eq_true rfl) (Nat.le_of_ble_eq_true rfl) (dcq dc_X4_daysEffect_0 13 rfl)

abbrev po_X4_removeDays (G : Gt) (qm m0 m1 m2 m3 m4 m5 m6 m7 m8 m9 m10 m11 hc rf : Nat) (sp ha : Int64) (nw : Nat → Int32) (P M R n : Nat) (v g d : Nat → Int32) (pp : Nat → Int32) (s3 : Nat → Int64) (e4 : Nat → Int64) (e5 : Nat → Int64) (e7 : Nat → Int64) (e8 : Nat → Int64) (e9 : Nat → Int64) (e10 : Nat → Int64) (e11 : Nat → Int64) (e6 : Nat → Int32) : Option Value → va_W → Prop := fun (v9 : Option Value) (w9 : va_W) => (∃ (sp2 : Int64), ∃ (k3 k4 k5 : Nat → Int64), ∃ (k6 : Nat → Int32), ∃ (k7 k8 k9 k10 k11 : Nat → Int64), ∃ (c2 : Nat), ∃ (pp2 : Nat → Int32), ∃ (r : Nat), ∃ (nw2 v2 : Nat → Int32), v9 = some (.int (nI r)) ∧ w9 = [oB 4 qm [.ref m0, .ref m1, .int (nI c2), .int (nI 0), .ref m2, .ref m3, .ref m4, .ref m5, .ref m6, .ref m7, .ref m8, .long sp2, .ref m9, .ref m10, .ref m11, .long ha], aI G m0 220 nw2, aI G m1 880 pp2, aJ G m3 73 k3, aJ G m4 72 k4, aJ G m5 72 k5, aI G m6 72 k6, aJ G m7 72 k7, aJ G m8 12 k8, aJ G m9 72 k9, aJ G m10 72 k10, aJ G m11 72 k11] ∧ ((M = 0 ∧ dcm P n g ∧ 0 < dsq n d)) ∧ (MSV hc pp nw c2 pp2) ∧ (r = chg n v d (deff n d (iR P M R n v)) (sm (xv d) 0 n) n) ∧ (RM nw2 P M R n v2 g d) ∧ (∀ t, t < n → v2 t = (sdv n v d (deff n d (iR P M R n v)) (sm (xv d) 0 n) t).toInt32)) ∨ (v9 = some (.int (nI 0)) ∧ w9 = [oB 4 qm [.ref m0, .ref m1, .int (nI hc), .int (nI 1), .ref m2, .ref m3, .ref m4, .ref m5, .ref m6, .ref m7, .ref m8, .long sp, .ref m9, .ref m10, .ref m11, .long ha], aI G m0 220 nw, aI G m1 880 pp, aJ G m3 73 s3, aJ G m4 72 e4, aJ G m5 72 e5, aI G m6 72 e6, aJ G m7 72 e7, aJ G m8 12 e8, aJ G m9 72 e9, aJ G m10 72 e10, aJ G m11 72 e11] ∧ (¬ (M = 0 ∧ dcm P n g ∧ 0 < dsq n d)))
set_option maxHeartbeats 4000000 in
set_option maxRecDepth 100000 in
theorem c_X4_removeDays (l : Launch) (hl : l.stackTraces = false) (G : Gt) (qm m0 m1 m2 m3 m4 m5 m6 m7 m8 m9 m10 m11 hc rf : Nat) (sp ha : Int64) (nw : Nat → Int32) (P M R n : Nat) (v g d : Nat → Int32) (pp : Nat → Int32) (s3 : Nat → Int64) (e4 : Nat → Int64) (e5 : Nat → Int64) (e7 : Nat → Int64) (e8 : Nat → Int64) (e9 : Nat → Int64) (e10 : Nat → Int64) (e11 : Nat → Int64) (e6 : Nat → Int32) (hRM : RM nw P M R n v g d) (hn : n ≤ 72) (h01 : G01 n g) (hP : 2 ≤ P) (hP12 : P ≤ 12) (hM : M ≤ 1) (hR : R ≤ 5) (hgv : GVg M n v g) (hgd : GDD n d) (hhc : hc ≤ 4) : Con l G yX4_removeDays cX4_removeDays 7 (some .int) 6 129 0 0 [.ref qm] [oB 4 qm [.ref m0, .ref m1, .int (nI hc), .int (nI rf), .ref m2, .ref m3, .ref m4, .ref m5, .ref m6, .ref m7, .ref m8, .long sp, .ref m9, .ref m10, .ref m11, .long ha], aI G m0 220 nw, aI G m1 880 pp, aJ G m3 73 s3, aJ G m4 72 e4, aJ G m5 72 e5, aI G m6 72 e6, aJ G m7 72 e7, aJ G m8 12 e8, aJ G m9 72 e9, aJ G m10 72 e10, aJ G m11 72 e11] (po_X4_removeDays G qm m0 m1 m2 m3 m4 m5 m6 m7 m8 m9 m10 m11 hc rf sp ha nw P M R n v g d pp s3 e4 e5 e7 e8 e9 e10 e11 e6) := by
  refine Con.of hl cd_X4_removeDays (Nat.le_of_ble_eq_true rfl) ?_
  intro p e s m args below meth c A F hin9
  change Fx p l s m args meth c G A "SeasonalAdjusterModel" cX4_removeDays 7 (some .int) at F
  change J p l e (cRm 6 129 0 0) s m args below meth c G A 7 (JQ below G A (po_X4_removeDays G qm m0 m1 m2 m3 m4 m5 m6 m7 m8 m9 m10 m11 hc rf sp ha nw P M R n v g d pp s3 e4 e5 e7 e8 e9 e10 e11 e6) args s 0 0) 0 0 0 [(0, .ref qm)] [] [oB 4 qm [.ref m0, .ref m1, .int (nI hc), .int (nI rf), .ref m2, .ref m3, .ref m4, .ref m5, .ref m6, .ref m7, .ref m8, .long sp, .ref m9, .ref m10, .ref m11, .long ha], aI G m0 220 nw, aI G m1 880 pp, aJ G m3 73 s3, aJ G m4 72 e4, aJ G m5 72 e5, aI G m6 72 e6, aJ G m7 72 e7, aJ G m8 12 e8, aJ G m9 72 e9, aJ G m10 72 e10, aJ G m11 72 e11]
  refine J_aload_n F 0 (dcq dc_X4_removeDays_0 0 rfl) rfl rfl ?_
  refine J_aload_n F 0 (dcq dc_X4_removeDays_0 1 rfl) rfl rfl ?_
  refine J_callV F (wc := [oB 4 qm [.ref m0, .ref m1, .int (nI hc), .int (nI rf), .ref m2, .ref m3, .ref m4, .ref m5, .ref m6, .ref m7, .ref m8, .long sp, .ref m9, .ref m10, .ref m11, .long ha], aI G m0 220 nw, aJ G m3 73 s3, aJ G m4 72 e4, aJ G m5 72 e5, aI G m6 72 e6, aJ G m7 72 e7, aJ G m8 12 e8, aJ G m9 72 e9, aJ G m10 72 e10, aJ G m11 72 e11]) (wr := [aI G m1 880 pp]) (rest := [.ref qm]) (qc := 0) (c_X4_hasEffect l hl G qm m0 m1 m2 m3 m4 m5 m6 m7 m8 m9 m10 m11 hc rf sp ha nw P M R n v g d s3 e4 e5 e7 e8 e9 e10 e11 e6 (by first | assumption | omega) (by first | assumption | omega) (by first | assumption | omega) (by first | assumption | omega) (by first | assumption | omega) (by first | assumption | omega) (by first | assumption | omega) (by first | assumption | omega) (by first | assumption | omega)) cd_X4_hasEffect cv_X4_hasEffect rfl rfl rfl tw_5_44 [0, 1, 3, 4, 5, 6, 7, 8, 9, 10, 11] [2] rfl rfl rfl rfl (by decide) rfl ⟨(Nat.le_of_ble_eq_true rfl), (Nat.le_of_ble_eq_true rfl), (Nat.le_of_ble_eq_true rfl), (Nat.le_of_ble_eq_true rfl)⟩ (Nat.le_of_ble_eq_true rfl) rfl (dcq dc_X4_removeDays_0 2 rfl) ?_
  rintro _ _ h9x
  rcases h9x with ⟨sp2, k3, k4, k5, k6, k7, k8, k9, k10, k11, rfl, rfl, hef, hmp⟩ | ⟨rfl, rfl, hne⟩
  · skip
    have hef : (M = 0 ∧ dcm P n g ∧ 0 < dsq n d) := hef
    have hmp : MPT P M R n v sp2 k4 k5 k6 k7 k8 k9 k10 k11 := hmp
    change J p l e (cRm 6 129 0 0) s m args below meth c G A 7 (JQ below G A (po_X4_removeDays G qm m0 m1 m2 m3 m4 m5 m6 m7 m8 m9 m10 m11 hc rf sp ha nw P M R n v g d pp s3 e4 e5 e7 e8 e9 e10 e11 e6) args s 0 0) 0 0 5 [(0, .ref qm)] [.int (nI 1), .ref qm] [aI G m1 880 pp, oB 4 qm [.ref m0, .ref m1, .int (nI hc), .int (nI rf), .ref m2, .ref m3, .ref m4, .ref m5, .ref m6, .ref m7, .ref m8, .long sp2, .ref m9, .ref m10, .ref m11, .long ha], aI G m0 220 nw, aJ G m3 73 k3, aJ G m4 72 k4, aJ G m5 72 k5, aI G m6 72 k6, aJ G m7 72 k7, aJ G m8 12 k8, aJ G m9 72 k9, aJ G m10 72 k10, aJ G m11 72 k11]
    refine J_world (ws2 := [oB 4 qm [.ref m0, .ref m1, .int (nI hc), .int (nI rf), .ref m2, .ref m3, .ref m4, .ref m5, .ref m6, .ref m7, .ref m8, .long sp2, .ref m9, .ref m10, .ref m11, .long ha], aI G m0 220 nw, aI G m1 880 pp, aJ G m3 73 k3, aJ G m4 72 k4, aJ G m5 72 k5, aI G m6 72 k6, aJ G m7 72 k7, aJ G m8 12 k8, aJ G m9 72 k9, aJ G m10 72 k10, aJ G m11 72 k11]) [1, 2, 0, 3, 4, 5, 6, 7, 8, 9, 10, 11] rfl rfl ?_
    obtain ⟨q4, q5, q6, q7, q8, q9, q10, q11, qsp⟩ := id hmp
    obtain ⟨hm0, hd, hsq⟩ := id hef
    refine J_if_eq F 12 (dcq dc_X4_removeDays_0 3 rfl) (by decide) (fun h_1 => absurd h_1 (by decide)) (fun _ => ?_)
    refine J_iconst F (dcq dc_X4_removeDays_0 4 rfl) ic_0 ?_
    refine J_goto F 13 (dcq dc_X4_removeDays_0 5 rfl) (by decide) ?_
    refine J_callV F (wc := [oB 4 qm [.ref m0, .ref m1, .int (nI hc), .int (nI rf), .ref m2, .ref m3, .ref m4, .ref m5, .ref m6, .ref m7, .ref m8, .long sp2, .ref m9, .ref m10, .ref m11, .long ha]]) (wr := [aI G m0 220 nw, aI G m1 880 pp, aJ G m3 73 k3, aJ G m4 72 k4, aJ G m5 72 k5, aI G m6 72 k6, aJ G m7 72 k7, aJ G m8 12 k8, aJ G m9 72 k9, aJ G m10 72 k10, aJ G m11 72 k11]) (rest := []) (qc := 0) (c_X4_refused_0 l hl G qm m0 m1 m2 m3 m4 m5 m6 m7 m8 m9 m10 m11 hc rf sp2 ha) cd_X4_refused cv_X4_refused rfl rfl rfl tw_4_40 [0] [1, 2, 3, 4, 5, 6, 7, 8, 9, 10, 11] rfl rfl rfl rfl (by decide) rfl ⟨(Nat.le_of_ble_eq_true rfl), (Nat.le_of_ble_eq_true rfl), (Nat.le_of_ble_eq_true rfl), (Nat.le_of_ble_eq_true rfl)⟩ (Nat.le_of_ble_eq_true rfl) rfl (dcq dc_X4_removeDays_0 7 rfl) ?_
    rintro _ _ ⟨rfl, rfl⟩
    change J p l e (cRm 6 129 0 0) s m args below meth c G A 7 (JQ below G A (po_X4_removeDays G qm m0 m1 m2 m3 m4 m5 m6 m7 m8 m9 m10 m11 hc rf sp ha nw P M R n v g d pp s3 e4 e5 e7 e8 e9 e10 e11 e6) args s 0 0) 0 0 16 [(0, .ref qm)] [.int (nI 0)] [aI G m0 220 nw, aI G m1 880 pp, aJ G m3 73 k3, aJ G m4 72 k4, aJ G m5 72 k5, aI G m6 72 k6, aJ G m7 72 k7, aJ G m8 12 k8, aJ G m9 72 k9, aJ G m10 72 k10, aJ G m11 72 k11, oB 4 qm [.ref m0, .ref m1, .int (nI hc), .int (nI 0), .ref m2, .ref m3, .ref m4, .ref m5, .ref m6, .ref m7, .ref m8, .long sp2, .ref m9, .ref m10, .ref m11, .long ha]]
    refine J_world (ws2 := [oB 4 qm [.ref m0, .ref m1, .int (nI hc), .int (nI 0), .ref m2, .ref m3, .ref m4, .ref m5, .ref m6, .ref m7, .ref m8, .long sp2, .ref m9, .ref m10, .ref m11, .long ha], aI G m0 220 nw, aI G m1 880 pp, aJ G m3 73 k3, aJ G m4 72 k4, aJ G m5 72 k5, aI G m6 72 k6, aJ G m7 72 k7, aJ G m8 12 k8, aJ G m9 72 k9, aJ G m10 72 k10, aJ G m11 72 k11]) [11, 0, 1, 2, 3, 4, 5, 6, 7, 8, 9, 10] rfl rfl ?_
    refine J_if_eq F 21 (dcq dc_X4_removeDays_0 8 rfl) (by decide) (fun _ => ?_) (fun h_2 => absurd h_2 (by decide))
    refine J_aload_n F 0 (dcq dc_X4_removeDays_0 11 rfl) rfl rfl ?_
    refine J_callV F (wc := [oB 4 qm [.ref m0, .ref m1, .int (nI hc), .int (nI 0), .ref m2, .ref m3, .ref m4, .ref m5, .ref m6, .ref m7, .ref m8, .long sp2, .ref m9, .ref m10, .ref m11, .long ha], aI G m0 220 nw, aI G m1 880 pp]) (wr := [aJ G m3 73 k3, aJ G m4 72 k4, aJ G m5 72 k5, aI G m6 72 k6, aJ G m7 72 k7, aJ G m8 12 k8, aJ G m9 72 k9, aJ G m10 72 k10, aJ G m11 72 k11]) (rest := []) (qc := 0) (c_X4_saves l hl G qm m0 m1 m2 m3 m4 m5 m6 m7 m8 m9 m10 m11 hc 0 sp2 ha nw pp (by first | assumption | omega)) cd_X4_saves cv_X4_saves rfl rfl rfl tw_4_57 [0, 1, 2] [3, 4, 5, 6, 7, 8, 9, 10, 11] rfl rfl rfl rfl (by decide) rfl ⟨(Nat.le_of_ble_eq_true rfl), (Nat.le_of_ble_eq_true rfl), (Nat.le_of_ble_eq_true rfl), (Nat.le_of_ble_eq_true rfl)⟩ (Nat.le_of_ble_eq_true rfl) rfl (dcq dc_X4_removeDays_0 12 rfl) ?_
    rintro _ _ ⟨c2, pp2, rfl, rfl, hms⟩
    change J p l e (cRm 6 129 0 0) s m args below meth c G A 7 (JQ below G A (po_X4_removeDays G qm m0 m1 m2 m3 m4 m5 m6 m7 m8 m9 m10 m11 hc rf sp ha nw P M R n v g d pp s3 e4 e5 e7 e8 e9 e10 e11 e6) args s 0 0) 0 0 25 [(0, .ref qm)] [] [aJ G m3 73 k3, aJ G m4 72 k4, aJ G m5 72 k5, aI G m6 72 k6, aJ G m7 72 k7, aJ G m8 12 k8, aJ G m9 72 k9, aJ G m10 72 k10, aJ G m11 72 k11, oB 4 qm [.ref m0, .ref m1, .int (nI c2), .int (nI 0), .ref m2, .ref m3, .ref m4, .ref m5, .ref m6, .ref m7, .ref m8, .long sp2, .ref m9, .ref m10, .ref m11, .long ha], aI G m0 220 nw, aI G m1 880 pp2]
    have hms : MSV hc pp nw c2 pp2 := hms
    refine J_world (ws2 := [oB 4 qm [.ref m0, .ref m1, .int (nI c2), .int (nI 0), .ref m2, .ref m3, .ref m4, .ref m5, .ref m6, .ref m7, .ref m8, .long sp2, .ref m9, .ref m10, .ref m11, .long ha], aI G m0 220 nw, aI G m1 880 pp2, aJ G m3 73 k3, aJ G m4 72 k4, aJ G m5 72 k5, aI G m6 72 k6, aJ G m7 72 k7, aJ G m8 12 k8, aJ G m9 72 k9, aJ G m10 72 k10, aJ G m11 72 k11]) [9, 10, 11, 0, 1, 2, 3, 4, 5, 6, 7, 8] rfl rfl ?_
    refine J_aload_n F 0 (dcq dc_X4_removeDays_0 13 rfl) rfl rfl ?_
    refine J_callV F (wc := [oB 4 qm [.ref m0, .ref m1, .int (nI c2), .int (nI 0), .ref m2, .ref m3, .ref m4, .ref m5, .ref m6, .ref m7, .ref m8, .long sp2, .ref m9, .ref m10, .ref m11, .long ha], aI G m0 220 nw, aJ G m11 72 k11]) (wr := [aI G m1 880 pp2, aJ G m3 73 k3, aJ G m4 72 k4, aJ G m5 72 k5, aI G m6 72 k6, aJ G m7 72 k7, aJ G m8 12 k8, aJ G m9 72 k9, aJ G m10 72 k10]) (rest := []) (qc := 0) (c_X4_effect l hl G qm m0 m1 m2 m3 m4 m5 m6 m7 m8 m9 m10 m11 c2 0 sp2 ha nw P M R n v g d k11 (by first | assumption | omega) (by first | assumption | omega) (q11) (by first | assumption | omega)) cd_X4_effect cv_X4_effect rfl rfl rfl tw_5_52 [0, 1, 11] [2, 3, 4, 5, 6, 7, 8, 9, 10] rfl rfl rfl rfl (by decide) rfl ⟨(Nat.le_of_ble_eq_true rfl), (Nat.le_of_ble_eq_true rfl), (Nat.le_of_ble_eq_true rfl), (Nat.le_of_ble_eq_true rfl)⟩ (Nat.le_of_ble_eq_true rfl) rfl (dcq dc_X4_removeDays_0 14 rfl) ?_
    rintro _ _ ⟨re, rfl, rfl, hre⟩
    change J p l e (cRm 6 129 0 0) s m args below meth c G A 7 (JQ below G A (po_X4_removeDays G qm m0 m1 m2 m3 m4 m5 m6 m7 m8 m9 m10 m11 hc rf sp ha nw P M R n v g d pp s3 e4 e5 e7 e8 e9 e10 e11 e6) args s 0 0) 0 0 29 [(0, .ref qm)] [.long re] [aI G m1 880 pp2, aJ G m3 73 k3, aJ G m4 72 k4, aJ G m5 72 k5, aI G m6 72 k6, aJ G m7 72 k7, aJ G m8 12 k8, aJ G m9 72 k9, aJ G m10 72 k10, oB 4 qm [.ref m0, .ref m1, .int (nI c2), .int (nI 0), .ref m2, .ref m3, .ref m4, .ref m5, .ref m6, .ref m7, .ref m8, .long sp2, .ref m9, .ref m10, .ref m11, .long ha], aI G m0 220 nw, aJ G m11 72 k11]
    have hre : re = deff n d (iR P M R n v) := hre
    refine J_world (ws2 := [oB 4 qm [.ref m0, .ref m1, .int (nI c2), .int (nI 0), .ref m2, .ref m3, .ref m4, .ref m5, .ref m6, .ref m7, .ref m8, .long sp2, .ref m9, .ref m10, .ref m11, .long ha], aI G m0 220 nw, aI G m1 880 pp2, aJ G m3 73 k3, aJ G m4 72 k4, aJ G m5 72 k5, aI G m6 72 k6, aJ G m7 72 k7, aJ G m8 12 k8, aJ G m9 72 k9, aJ G m10 72 k10, aJ G m11 72 k11]) [9, 10, 0, 1, 2, 3, 4, 5, 6, 7, 8, 11] rfl rfl ?_
    refine J_lstore_n F (lv2 := [(1, .long re), (0, .ref qm)]) (dcq dc_X4_removeDays_0 15 rfl) rfl (Nat.le_of_ble_eq_true rfl) rfl ?_
    refine J_iconst F (dcq dc_X4_removeDays_0 16 rfl) ic_0 ?_
    refine J_istore_n F (lv2 := [(3, .int (nI 0)), (1, .long re), (0, .ref qm)]) (dcq dc_X4_removeDays_0 17 rfl) rfl (Nat.le_of_ble_eq_true rfl) rfl ?_
    refine J_iconst F (dcq dc_X4_removeDays_0 18 rfl) ic_0 ?_
    refine J_istore F (lv2 := [(4, .int (nI 0)), (3, .int (nI 0)), (1, .long re), (0, .ref qm)]) (dcq dc_X4_removeDays_0 19 rfl) (Nat.le_of_ble_eq_true rfl) rfl ?_
    have L35 : ∀ (fu35 : Nat), ∀ (t k : Nat) (nk vk : Nat → Int32), (t ≤ n) → (k = chg n v d (deff n d (iR P M R n v)) (sm (xv d) 0 n) t) → (RM nk P M R n vk g d) → (∀ j, 0 ≤ j → j < t → vk j = (sdv n v d (deff n d (iR P M R n v)) (sm (xv d) 0 n) j).toInt32) → (∀ j, t ≤ j → vk j = v j) → n - t < fu35 → J p l e (cRm 6 129 0 0) s m args below meth c G A 7 (JQ below G A (po_X4_removeDays G qm m0 m1 m2 m3 m4 m5 m6 m7 m8 m9 m10 m11 hc rf sp ha nw P M R n v g d pp s3 e4 e5 e7 e8 e9 e10 e11 e6) args s 0 0) 0 0 35 [(0, .ref qm), (1, .long re), (3, .int (nI k)), (4, .int (nI t))] [] [oB 4 qm [.ref m0, .ref m1, .int (nI c2), .int (nI 0), .ref m2, .ref m3, .ref m4, .ref m5, .ref m6, .ref m7, .ref m8, .long sp2, .ref m9, .ref m10, .ref m11, .long ha], aI G m0 220 nk, aI G m1 880 pp2, aJ G m3 73 k3, aJ G m4 72 k4, aJ G m5 72 k5, aI G m6 72 k6, aJ G m7 72 k7, aJ G m8 12 k8, aJ G m9 72 k9, aJ G m10 72 k10, aJ G m11 72 k11] := by
      intro fu35
      induction fu35 with
      | zero => intro t k nk vk ht ik hRk iv iw hm35; exact absurd hm35 (Nat.not_lt_zero _)
      | succ fu35 ih35 =>
        intro t k nk vk ht ik hRk iv iw hm35
        have hck := chg_le n v d (deff n d (iR P M R n v)) (sm (xv d) 0 n) t
        refine J_iload F 3 (dcq dc_X4_removeDays_0 20 rfl) rfl ?_
        refine J_aload_n F 0 (dcq dc_X4_removeDays_0 21 rfl) rfl rfl ?_
        refine J_get F fcX4 0 0 rfl (Nat.le_of_ble_eq_true rfl) tw_3_223 rfl rfl (dcq dc_X4_removeDays_0 22 rfl) ?_
        refine J_iconst F (dcq dc_X4_removeDays_0 23 rfl) ic_3 ?_
        refine J_iald F 1 rfl (by omega) (Nat.le_of_ble_eq_true rfl) (dcq dc_X4_removeDays_0 24 rfl) ?_
        refine J_cast rfl (st2 := [.int (nI n), .int (nI t)]) (by rw [hRk.2.2.2.1]) rfl ?_
        refine J_ncmp_ge F 155 (by omega) (by omega) (dcq dc_X4_removeDays_0 25 rfl) (by decide) (fun h_3 => ?_) (fun h_3 => ?_)
        · skip
          refine J_iload_n F 2 (dcq dc_X4_removeDays_1 38 rfl) rfl rfl ?_
          exact J_iret F (Or.inl ⟨sp2, k3, k4, k5, k6, k7, k8, k9, k10, k11, c2, pp2, k, nk, vk, rfl, rfl, hef, hms, by rw [ik, show t = n by omega], hRk, fun j h => iv j (Nat.zero_le _) (by omega)⟩) (Nat.le_of_ble_eq_true rfl) (Nat.le_of_ble_eq_true rfl) (dcq dc_X4_removeDays_1 39 rfl)
        · skip
          refine J_aload_n F 0 (dcq dc_X4_removeDays_0 26 rfl) rfl rfl ?_
          refine J_iload F 3 (dcq dc_X4_removeDays_0 27 rfl) rfl ?_
          refine J_callV F (wc := [oB 4 qm [.ref m0, .ref m1, .int (nI c2), .int (nI 0), .ref m2, .ref m3, .ref m4, .ref m5, .ref m6, .ref m7, .ref m8, .long sp2, .ref m9, .ref m10, .ref m11, .long ha], aI G m0 220 nk]) (wr := [aI G m1 880 pp2, aJ G m3 73 k3, aJ G m4 72 k4, aJ G m5 72 k5, aI G m6 72 k6, aJ G m7 72 k7, aJ G m8 12 k8, aJ G m9 72 k9, aJ G m10 72 k10, aJ G m11 72 k11]) (rest := []) (qc := 0) (c_X4_valueAt l hl G qm m0 m1 m2 m3 m4 m5 m6 m7 m8 m9 m10 m11 c2 0 sp2 ha nk P M R n vk g d t (by first | assumption | omega) (by first | assumption | omega) (by first | assumption | omega)) cd_X4_valueAt cv_X4_valueAt rfl rfl rfl tw_4_73 [0, 1] [2, 3, 4, 5, 6, 7, 8, 9, 10, 11] rfl rfl rfl rfl (by decide) rfl ⟨(Nat.le_of_ble_eq_true rfl), (Nat.le_of_ble_eq_true rfl), (Nat.le_of_ble_eq_true rfl), (Nat.le_of_ble_eq_true rfl)⟩ (Nat.le_of_ble_eq_true rfl) rfl (dcq dc_X4_removeDays_0 28 rfl) ?_
          rintro _ _ ⟨rfl, rfl⟩
          change J p l e (cRm 6 129 0 0) s m args below meth c G A 7 (JQ below G A (po_X4_removeDays G qm m0 m1 m2 m3 m4 m5 m6 m7 m8 m9 m10 m11 hc rf sp ha nw P M R n v g d pp s3 e4 e5 e7 e8 e9 e10 e11 e6) args s 0 0) 0 0 52 [(0, .ref qm), (1, .long re), (3, .int (nI k)), (4, .int (nI t))] [.int (vk t)] [aI G m1 880 pp2, aJ G m3 73 k3, aJ G m4 72 k4, aJ G m5 72 k5, aI G m6 72 k6, aJ G m7 72 k7, aJ G m8 12 k8, aJ G m9 72 k9, aJ G m10 72 k10, aJ G m11 72 k11, oB 4 qm [.ref m0, .ref m1, .int (nI c2), .int (nI 0), .ref m2, .ref m3, .ref m4, .ref m5, .ref m6, .ref m7, .ref m8, .long sp2, .ref m9, .ref m10, .ref m11, .long ha], aI G m0 220 nk]
          refine J_world (ws2 := [oB 4 qm [.ref m0, .ref m1, .int (nI c2), .int (nI 0), .ref m2, .ref m3, .ref m4, .ref m5, .ref m6, .ref m7, .ref m8, .long sp2, .ref m9, .ref m10, .ref m11, .long ha], aI G m0 220 nk, aI G m1 880 pp2, aJ G m3 73 k3, aJ G m4 72 k4, aJ G m5 72 k5, aI G m6 72 k6, aJ G m7 72 k7, aJ G m8 12 k8, aJ G m9 72 k9, aJ G m10 72 k10, aJ G m11 72 k11]) [10, 11, 0, 1, 2, 3, 4, 5, 6, 7, 8, 9] rfl rfl ?_
          refine J_i2l F (v := (vk t).toInt64) (dcq dc_X4_removeDays_0 29 rfl) rfl ?_
          refine J_lload_n F 1 (dcq dc_X4_removeDays_0 30 rfl) rfl rfl ?_
          refine J_aload_n F 0 (dcq dc_X4_removeDays_0 31 rfl) rfl rfl ?_
          refine J_iload F 3 (dcq dc_X4_removeDays_0 32 rfl) rfl ?_
          refine J_callV F (wc := [oB 4 qm [.ref m0, .ref m1, .int (nI c2), .int (nI 0), .ref m2, .ref m3, .ref m4, .ref m5, .ref m6, .ref m7, .ref m8, .long sp2, .ref m9, .ref m10, .ref m11, .long ha], aI G m0 220 nk]) (wr := [aI G m1 880 pp2, aJ G m3 73 k3, aJ G m4 72 k4, aJ G m5 72 k5, aI G m6 72 k6, aJ G m7 72 k7, aJ G m8 12 k8, aJ G m9 72 k9, aJ G m10 72 k10, aJ G m11 72 k11]) (rest := [.long re, .long ((vk t).toInt64)]) (qc := 0) (c_X4_unlike l hl G qm m0 m1 m2 m3 m4 m5 m6 m7 m8 m9 m10 m11 c2 0 sp2 ha nk P M R n vk g d t (by first | assumption | omega) (by first | assumption | omega) (by first | assumption | omega)) cd_X4_unlike cv_X4_unlike rfl rfl rfl tw_5_56 [0, 1] [2, 3, 4, 5, 6, 7, 8, 9, 10, 11] rfl rfl rfl rfl (by decide) rfl ⟨(Nat.le_of_ble_eq_true rfl), (Nat.le_of_ble_eq_true rfl), (Nat.le_of_ble_eq_true rfl), (Nat.le_of_ble_eq_true rfl)⟩ (Nat.le_of_ble_eq_true rfl) rfl (dcq dc_X4_removeDays_0 33 rfl) ?_
          rintro _ _ ⟨ru, rfl, rfl, hru⟩
          change J p l e (cRm 6 129 0 0) s m args below meth c G A 7 (JQ below G A (po_X4_removeDays G qm m0 m1 m2 m3 m4 m5 m6 m7 m8 m9 m10 m11 hc rf sp ha nw P M R n v g d pp s3 e4 e5 e7 e8 e9 e10 e11 e6) args s 0 0) 0 0 60 [(0, .ref qm), (1, .long re), (3, .int (nI k)), (4, .int (nI t))] [.long ru, .long re, .long ((vk t).toInt64)] [aI G m1 880 pp2, aJ G m3 73 k3, aJ G m4 72 k4, aJ G m5 72 k5, aI G m6 72 k6, aJ G m7 72 k7, aJ G m8 12 k8, aJ G m9 72 k9, aJ G m10 72 k10, aJ G m11 72 k11, oB 4 qm [.ref m0, .ref m1, .int (nI c2), .int (nI 0), .ref m2, .ref m3, .ref m4, .ref m5, .ref m6, .ref m7, .ref m8, .long sp2, .ref m9, .ref m10, .ref m11, .long ha], aI G m0 220 nk]
          have hru : ru = exd n d (sm (xv d) 0 n) t := hru
          refine J_world (ws2 := [oB 4 qm [.ref m0, .ref m1, .int (nI c2), .int (nI 0), .ref m2, .ref m3, .ref m4, .ref m5, .ref m6, .ref m7, .ref m8, .long sp2, .ref m9, .ref m10, .ref m11, .long ha], aI G m0 220 nk, aI G m1 880 pp2, aJ G m3 73 k3, aJ G m4 72 k4, aJ G m5 72 k5, aI G m6 72 k6, aJ G m7 72 k7, aJ G m8 12 k8, aJ G m9 72 k9, aJ G m10 72 k10, aJ G m11 72 k11]) [10, 11, 0, 1, 2, 3, 4, 5, 6, 7, 8, 9] rfl rfl ?_
          refine J_lmul F (v := re * ru) (dcq dc_X4_removeDays_0 34 rfl) rfl ?_
          refine J_ldc2 F (v2 := (1000)) tw_4_214 rfl (dcq dc_X4_removeDays_0 35 rfl) ?_
          refine J_aload_n F 0 (dcq dc_X4_removeDays_0 36 rfl) rfl rfl ?_
          refine J_get F fcX4 0 0 rfl (Nat.le_of_ble_eq_true rfl) tw_3_223 rfl rfl (dcq dc_X4_removeDays_0 37 rfl) ?_
          refine J_iconst F (dcq dc_X4_removeDays_0 38 rfl) ic_3 ?_
          refine J_iald F 1 rfl (by omega) (Nat.le_of_ble_eq_true rfl) (dcq dc_X4_removeDays_0 39 rfl) ?_
          refine J_cast rfl (st2 := [.int (nI n), .long 1000, .long (re * ru), .long ((vk t).toInt64)]) (by rw [hRk.2.2.2.1]) rfl ?_
          refine J_i2l F (v := lN n) (dcq dc_X4_removeDays_0 40 rfl) (nI_l (by omega)) ?_
          refine J_lmul F (v := 1000 * (lN n)) (dcq dc_X4_removeDays_0 41 rfl) rfl ?_
          refine J_callS F (wc := []) (wr := [oB 4 qm [.ref m0, .ref m1, .int (nI c2), .int (nI 0), .ref m2, .ref m3, .ref m4, .ref m5, .ref m6, .ref m7, .ref m8, .long sp2, .ref m9, .ref m10, .ref m11, .long ha], aI G m0 220 nk, aI G m1 880 pp2, aJ G m3 73 k3, aJ G m4 72 k4, aJ G m5 72 k5, aI G m6 72 k6, aJ G m7 72 k7, aJ G m8 12 k8, aJ G m9 72 k9, aJ G m10 72 k10, aJ G m11 72 k11]) (rest := [.long ((vk t).toInt64)]) (c_X4_over l hl G (re * ru) (1000 * (lN n)) (by exact lNpos2 (by decide) (by decide) (by unfold dcm at hd; omega) (by omega))) cd_X4_over tw_4_138 tw_4_137 [] [0, 1, 2, 3, 4, 5, 6, 7, 8, 9, 10, 11] rfl rfl rfl rfl (by decide) rfl ⟨(Nat.le_of_ble_eq_true rfl), (Nat.le_of_ble_eq_true rfl), (Nat.le_of_ble_eq_true rfl), (Nat.le_of_ble_eq_true rfl)⟩ (Nat.le_of_ble_eq_true rfl) rfl (dcq dc_X4_removeDays_0 42 rfl) ?_
          rintro _ _ ⟨rq, rfl, rfl, hq⟩
          change J p l e (cRm 6 129 0 0) s m args below meth c G A 7 (JQ below G A (po_X4_removeDays G qm m0 m1 m2 m3 m4 m5 m6 m7 m8 m9 m10 m11 hc rf sp ha nw P M R n v g d pp s3 e4 e5 e7 e8 e9 e10 e11 e6) args s 0 0) 0 0 75 [(0, .ref qm), (1, .long re), (3, .int (nI k)), (4, .int (nI t))] [.long rq, .long ((vk t).toInt64)] [oB 4 qm [.ref m0, .ref m1, .int (nI c2), .int (nI 0), .ref m2, .ref m3, .ref m4, .ref m5, .ref m6, .ref m7, .ref m8, .long sp2, .ref m9, .ref m10, .ref m11, .long ha], aI G m0 220 nk, aI G m1 880 pp2, aJ G m3 73 k3, aJ G m4 72 k4, aJ G m5 72 k5, aI G m6 72 k6, aJ G m7 72 k7, aJ G m8 12 k8, aJ G m9 72 k9, aJ G m10 72 k10, aJ G m11 72 k11]
          have hq : rq = quo (re * ru) (1000 * (lN n)) := hq
          refine J_lsub F (v := ((vk t).toInt64) - rq) (dcq dc_X4_removeDays_0 43 rfl) rfl ?_
          have hxd : (vk t).toInt64 - rq = xv v t - quo (deff n d (iR P M R n v) * exd n d (sm (xv d) 0 n) t) (1000 * lN n) := by rw [iw t (Nat.le_refl _), hq, hru, hre]; rfl
          refine J_lstore F (lv2 := [(5, .long (((vk t).toInt64) - rq)), (0, .ref qm), (1, .long re), (3, .int (nI k)), (4, .int (nI t))]) (dcq dc_X4_removeDays_0 44 rfl) (Nat.le_of_ble_eq_true rfl) rfl ?_
          refine J_lload F 0 (dcq dc_X4_removeDays_0 45 rfl) rfl ?_
          refine J_ldc2 F (v2 := (-1000000)) tw_4_90 rfl (dcq dc_X4_removeDays_0 46 rfl) ?_
          refine J_lcmp_ge F 93 (dcq dc_X4_removeDays_0 47 rfl) (dcq dc_X4_removeDays_1 0 rfl) (by decide) (fun h_4 => ?_) (fun h_4 => ?_)
          · skip
            have hl1 := h_4
            refine J_lload F 0 (dcq dc_X4_removeDays_1 3 rfl) rfl ?_
            refine J_ldc2 F (v2 := (1000000)) tw_4_91 rfl (dcq dc_X4_removeDays_1 4 rfl) ?_
            refine J_lcmp_le F 108 (dcq dc_X4_removeDays_1 5 rfl) (dcq dc_X4_removeDays_1 6 rfl) (by decide) (fun h_5 => ?_) (fun h_5 => ?_)
            · skip
              have hl2 := h_5
              refine J_lload F 0 (dcq dc_X4_removeDays_1 9 rfl) rfl ?_
              have hs9 : (vk t).toInt64 - rq = (sdv n v d (deff n d (iR P M R n v)) (sm (xv d) 0 n) t) := by unfold sdv; rw [clamp_eq, ← hxd, if_neg (Int64.not_lt.mpr hl1), if_neg (Int64.not_lt.mpr hl2)]
              refine J_cast (lv2 := [(5, .long (((vk t).toInt64) - rq)), (0, .ref qm), (1, .long re), (3, .int (nI k)), (4, .int (nI t))]) (st2 := [.long (sdv n v d (deff n d (iR P M R n v)) (sm (xv d) 0 n) t)]) (ws2 := [oB 4 qm [.ref m0, .ref m1, .int (nI c2), .int (nI 0), .ref m2, .ref m3, .ref m4, .ref m5, .ref m6, .ref m7, .ref m8, .long sp2, .ref m9, .ref m10, .ref m11, .long ha], aI G m0 220 nk, aI G m1 880 pp2, aJ G m3 73 k3, aJ G m4 72 k4, aJ G m5 72 k5, aI G m6 72 k6, aJ G m7 72 k7, aJ G m8 12 k8, aJ G m9 72 k9, aJ G m10 72 k10, aJ G m11 72 k11]) (rfl) (by rw [← hs9]) (rfl) ?_
              refine J_lstore F (lv2 := [(5, .long (sdv n v d (deff n d (iR P M R n v)) (sm (xv d) 0 n) t)), (0, .ref qm), (1, .long re), (3, .int (nI k)), (4, .int (nI t))]) (dcq dc_X4_removeDays_1 10 rfl) (Nat.le_of_ble_eq_true rfl) rfl ?_
              refine J_iload_n F 3 (dcq dc_X4_removeDays_1 11 rfl) rfl rfl ?_
              refine J_lload F 0 (dcq dc_X4_removeDays_1 12 rfl) rfl ?_
              refine J_aload_n F 1 (dcq dc_X4_removeDays_1 13 rfl) rfl rfl ?_
              refine J_iload F 4 (dcq dc_X4_removeDays_1 14 rfl) rfl ?_
              refine J_callV F (wc := [oB 4 qm [.ref m0, .ref m1, .int (nI c2), .int (nI 0), .ref m2, .ref m3, .ref m4, .ref m5, .ref m6, .ref m7, .ref m8, .long sp2, .ref m9, .ref m10, .ref m11, .long ha], aI G m0 220 nk]) (wr := [aI G m1 880 pp2, aJ G m3 73 k3, aJ G m4 72 k4, aJ G m5 72 k5, aI G m6 72 k6, aJ G m7 72 k7, aJ G m8 12 k8, aJ G m9 72 k9, aJ G m10 72 k10, aJ G m11 72 k11]) (rest := [.long (sdv n v d (deff n d (iR P M R n v)) (sm (xv d) 0 n) t), .int (nI k)]) (qc := 0) (c_X4_valueAt l hl G qm m0 m1 m2 m3 m4 m5 m6 m7 m8 m9 m10 m11 c2 0 sp2 ha nk P M R n vk g d t (by first | assumption | omega) (by first | assumption | omega) (by first | assumption | omega)) cd_X4_valueAt cv_X4_valueAt rfl rfl rfl tw_4_73 [0, 1] [2, 3, 4, 5, 6, 7, 8, 9, 10, 11] rfl rfl rfl rfl (by decide) rfl ⟨(Nat.le_of_ble_eq_true rfl), (Nat.le_of_ble_eq_true rfl), (Nat.le_of_ble_eq_true rfl), (Nat.le_of_ble_eq_true rfl)⟩ (Nat.le_of_ble_eq_true rfl) rfl (dcq dc_X4_removeDays_1 15 rfl) ?_
              rintro _ _ ⟨rfl, rfl⟩
              change J p l e (cRm 6 129 0 0) s m args below meth c G A 7 (JQ below G A (po_X4_removeDays G qm m0 m1 m2 m3 m4 m5 m6 m7 m8 m9 m10 m11 hc rf sp ha nw P M R n v g d pp s3 e4 e5 e7 e8 e9 e10 e11 e6) args s 0 0) 0 0 121 [(5, .long (sdv n v d (deff n d (iR P M R n v)) (sm (xv d) 0 n) t)), (0, .ref qm), (1, .long re), (3, .int (nI k)), (4, .int (nI t))] [.int (vk t), .long (sdv n v d (deff n d (iR P M R n v)) (sm (xv d) 0 n) t), .int (nI k)] [aI G m1 880 pp2, aJ G m3 73 k3, aJ G m4 72 k4, aJ G m5 72 k5, aI G m6 72 k6, aJ G m7 72 k7, aJ G m8 12 k8, aJ G m9 72 k9, aJ G m10 72 k10, aJ G m11 72 k11, oB 4 qm [.ref m0, .ref m1, .int (nI c2), .int (nI 0), .ref m2, .ref m3, .ref m4, .ref m5, .ref m6, .ref m7, .ref m8, .long sp2, .ref m9, .ref m10, .ref m11, .long ha], aI G m0 220 nk]
              refine J_world (ws2 := [oB 4 qm [.ref m0, .ref m1, .int (nI c2), .int (nI 0), .ref m2, .ref m3, .ref m4, .ref m5, .ref m6, .ref m7, .ref m8, .long sp2, .ref m9, .ref m10, .ref m11, .long ha], aI G m0 220 nk, aI G m1 880 pp2, aJ G m3 73 k3, aJ G m4 72 k4, aJ G m5 72 k5, aI G m6 72 k6, aJ G m7 72 k7, aJ G m8 12 k8, aJ G m9 72 k9, aJ G m10 72 k10, aJ G m11 72 k11]) [10, 11, 0, 1, 2, 3, 4, 5, 6, 7, 8, 9] rfl rfl ?_
              refine J_i2l F (v := (vk t).toInt64) (dcq dc_X4_removeDays_1 16 rfl) rfl ?_
              refine J_lcmp_ne F 130 (dcq dc_X4_removeDays_1 17 rfl) (dcq dc_X4_removeDays_1 18 rfl) (by decide) (fun h_6 => ?_) (fun h_6 => ?_)
              · skip
                have hcmp := h_6
                refine J_iconst F (dcq dc_X4_removeDays_1 21 rfl) ic_1 ?_
                refine J_iadd F (v := nI (k + 1)) (dcq dc_X4_removeDays_1 22 rfl) (nI_add _ _) ?_
                refine J_istore_n F (lv2 := [(3, .int (nI (k + 1))), (5, .long (sdv n v d (deff n d (iR P M R n v)) (sm (xv d) 0 n) t)), (0, .ref qm), (1, .long re), (4, .int (nI t))]) (dcq dc_X4_removeDays_1 23 rfl) rfl (Nat.le_of_ble_eq_true rfl) rfl ?_
                refine J_aload_n F 2 (dcq dc_X4_removeDays_1 24 rfl) rfl rfl ?_
                refine J_get F fcX4 0 0 rfl (Nat.le_of_ble_eq_true rfl) tw_3_223 rfl rfl (dcq dc_X4_removeDays_1 25 rfl) ?_
                refine J_iconst F (dcq dc_X4_removeDays_1 26 rfl) ic_4 ?_
                refine J_iconst F (dcq dc_X4_removeDays_1 27 rfl) ic_3 ?_
                refine J_iload F 4 (dcq dc_X4_removeDays_1 28 rfl) rfl ?_
                refine J_imul F (v := nI (3 * t)) (dcq dc_X4_removeDays_1 29 rfl) (pk_mul _ _) ?_
                refine J_iadd F (v := nI (4 + 3 * t)) (dcq dc_X4_removeDays_1 30 rfl) (nI_add _ _) ?_
                refine J_iconst F (dcq dc_X4_removeDays_1 31 rfl) ic_1 ?_
                refine J_iadd F (v := nI (4 + 3 * t + 1)) (dcq dc_X4_removeDays_1 32 rfl) (nI_add _ _) ?_
                refine J_lload F 1 (dcq dc_X4_removeDays_1 33 rfl) rfl ?_
                refine J_l2i F (v := (sdv n v d (deff n d (iR P M R n v)) (sm (xv d) 0 n) t).toInt32) (dcq dc_X4_removeDays_1 34 rfl) rfl ?_
                refine J_iast F (ws2 := [oB 4 qm [.ref m0, .ref m1, .int (nI c2), .int (nI 0), .ref m2, .ref m3, .ref m4, .ref m5, .ref m6, .ref m7, .ref m8, .long sp2, .ref m9, .ref m10, .ref m11, .long ha], aI G m0 220 (upd nk (4 + 3 * t + 1) ((sdv n v d (deff n d (iR P M R n v)) (sm (xv d) 0 n) t).toInt32)), aI G m1 880 pp2, aJ G m3 73 k3, aJ G m4 72 k4, aJ G m5 72 k5, aI G m6 72 k6, aJ G m7 72 k7, aJ G m8 12 k8, aJ G m9 72 k9, aJ G m10 72 k10, aJ G m11 72 k11]) 1 rfl (by omega) (Nat.le_of_ble_eq_true rfl) rfl (dcq dc_X4_removeDays_1 35 rfl) ?_
                refine J_iinc F (lv2 := [(4, .int (nI (t + 1))), (3, .int (nI (k + 1))), (5, .long (sdv n v d (deff n d (iR P M R n v)) (sm (xv d) 0 n) t)), (0, .ref qm), (1, .long re)]) (v := nI (t + 1)) 4 (dcq dc_X4_removeDays_1 36 rfl) rfl (nI_inc _) (Nat.le_of_ble_eq_true rfl) rfl ?_
                refine J_goto F 35 (dcq dc_X4_removeDays_1 37 rfl) (by decide) ?_
                refine J_locs [3, 4, 1, 0] rfl ?_
                exact ih35 (t + 1) (k + 1) (upd nk (4 + 3 * t + 1) ((sdv n v d (deff n d (iR P M R n v)) (sm (xv d) 0 n) t).toInt32)) (upd vk t (sdv n v d (deff n d (iR P M R n v)) (sm (xv d) 0 n) t).toInt32) (by omega) (by simp only [chg]; rw [if_neg (fun q => hcmp (q.trans (by rw [iw t (Nat.le_refl _)]; rfl))), ik]) (RM_v hRk t _) (up_i iv rfl) (fun j h => by rw [pk_un (by omega)]; exact iw j (by omega)) (by omega)
              · skip
                have hcmp := h_6
                refine J_iconst F (dcq dc_X4_removeDays_1 19 rfl) ic_0 ?_
                refine J_goto F 131 (dcq dc_X4_removeDays_1 20 rfl) (by decide) ?_
                refine J_iadd F (v := nI (k + 0)) (dcq dc_X4_removeDays_1 22 rfl) (nI_add _ _) ?_
                refine J_istore_n F (lv2 := [(3, .int (nI (k + 0))), (5, .long (sdv n v d (deff n d (iR P M R n v)) (sm (xv d) 0 n) t)), (0, .ref qm), (1, .long re), (4, .int (nI t))]) (dcq dc_X4_removeDays_1 23 rfl) rfl (Nat.le_of_ble_eq_true rfl) rfl ?_
                refine J_aload_n F 2 (dcq dc_X4_removeDays_1 24 rfl) rfl rfl ?_
                refine J_get F fcX4 0 0 rfl (Nat.le_of_ble_eq_true rfl) tw_3_223 rfl rfl (dcq dc_X4_removeDays_1 25 rfl) ?_
                refine J_iconst F (dcq dc_X4_removeDays_1 26 rfl) ic_4 ?_
                refine J_iconst F (dcq dc_X4_removeDays_1 27 rfl) ic_3 ?_
                refine J_iload F 4 (dcq dc_X4_removeDays_1 28 rfl) rfl ?_
                refine J_imul F (v := nI (3 * t)) (dcq dc_X4_removeDays_1 29 rfl) (pk_mul _ _) ?_
                refine J_iadd F (v := nI (4 + 3 * t)) (dcq dc_X4_removeDays_1 30 rfl) (nI_add _ _) ?_
                refine J_iconst F (dcq dc_X4_removeDays_1 31 rfl) ic_1 ?_
                refine J_iadd F (v := nI (4 + 3 * t + 1)) (dcq dc_X4_removeDays_1 32 rfl) (nI_add _ _) ?_
                refine J_lload F 1 (dcq dc_X4_removeDays_1 33 rfl) rfl ?_
                refine J_l2i F (v := (sdv n v d (deff n d (iR P M R n v)) (sm (xv d) 0 n) t).toInt32) (dcq dc_X4_removeDays_1 34 rfl) rfl ?_
                refine J_iast F (ws2 := [oB 4 qm [.ref m0, .ref m1, .int (nI c2), .int (nI 0), .ref m2, .ref m3, .ref m4, .ref m5, .ref m6, .ref m7, .ref m8, .long sp2, .ref m9, .ref m10, .ref m11, .long ha], aI G m0 220 (upd nk (4 + 3 * t + 1) ((sdv n v d (deff n d (iR P M R n v)) (sm (xv d) 0 n) t).toInt32)), aI G m1 880 pp2, aJ G m3 73 k3, aJ G m4 72 k4, aJ G m5 72 k5, aI G m6 72 k6, aJ G m7 72 k7, aJ G m8 12 k8, aJ G m9 72 k9, aJ G m10 72 k10, aJ G m11 72 k11]) 1 rfl (by omega) (Nat.le_of_ble_eq_true rfl) rfl (dcq dc_X4_removeDays_1 35 rfl) ?_
                refine J_iinc F (lv2 := [(4, .int (nI (t + 1))), (3, .int (nI (k + 0))), (5, .long (sdv n v d (deff n d (iR P M R n v)) (sm (xv d) 0 n) t)), (0, .ref qm), (1, .long re)]) (v := nI (t + 1)) 4 (dcq dc_X4_removeDays_1 36 rfl) rfl (nI_inc _) (Nat.le_of_ble_eq_true rfl) rfl ?_
                refine J_goto F 35 (dcq dc_X4_removeDays_1 37 rfl) (by decide) ?_
                refine J_locs [3, 4, 1, 0] rfl ?_
                exact ih35 (t + 1) (k + 0) (upd nk (4 + 3 * t + 1) ((sdv n v d (deff n d (iR P M R n v)) (sm (xv d) 0 n) t).toInt32)) (upd vk t (sdv n v d (deff n d (iR P M R n v)) (sm (xv d) 0 n) t).toInt32) (by omega) (by simp only [chg]; rw [if_pos (hcmp.trans (by rw [iw t (Nat.le_refl _)]; rfl)), ik]) (RM_v hRk t _) (up_i iv rfl) (fun j h => by rw [pk_un (by omega)]; exact iw j (by omega)) (by omega)
            · skip
              have hl2 := h_5
              refine J_ldc2 F (v2 := (1000000)) tw_4_91 rfl (dcq dc_X4_removeDays_1 7 rfl) ?_
              refine J_goto F 110 (dcq dc_X4_removeDays_1 8 rfl) (by decide) ?_
              have hs9 : 1000000 = (sdv n v d (deff n d (iR P M R n v)) (sm (xv d) 0 n) t) := by unfold sdv; rw [clamp_eq, ← hxd, if_neg (Int64.not_lt.mpr hl1), if_pos (Int64.not_le.mp hl2)]
              refine J_cast (lv2 := [(5, .long (((vk t).toInt64) - rq)), (0, .ref qm), (1, .long re), (3, .int (nI k)), (4, .int (nI t))]) (st2 := [.long (sdv n v d (deff n d (iR P M R n v)) (sm (xv d) 0 n) t)]) (ws2 := [oB 4 qm [.ref m0, .ref m1, .int (nI c2), .int (nI 0), .ref m2, .ref m3, .ref m4, .ref m5, .ref m6, .ref m7, .ref m8, .long sp2, .ref m9, .ref m10, .ref m11, .long ha], aI G m0 220 nk, aI G m1 880 pp2, aJ G m3 73 k3, aJ G m4 72 k4, aJ G m5 72 k5, aI G m6 72 k6, aJ G m7 72 k7, aJ G m8 12 k8, aJ G m9 72 k9, aJ G m10 72 k10, aJ G m11 72 k11]) (rfl) (by rw [← hs9]) (rfl) ?_
              refine J_lstore F (lv2 := [(5, .long (sdv n v d (deff n d (iR P M R n v)) (sm (xv d) 0 n) t)), (0, .ref qm), (1, .long re), (3, .int (nI k)), (4, .int (nI t))]) (dcq dc_X4_removeDays_1 10 rfl) (Nat.le_of_ble_eq_true rfl) rfl ?_
              refine J_iload_n F 3 (dcq dc_X4_removeDays_1 11 rfl) rfl rfl ?_
              refine J_lload F 0 (dcq dc_X4_removeDays_1 12 rfl) rfl ?_
              refine J_aload_n F 1 (dcq dc_X4_removeDays_1 13 rfl) rfl rfl ?_
              refine J_iload F 4 (dcq dc_X4_removeDays_1 14 rfl) rfl ?_
              refine J_callV F (wc := [oB 4 qm [.ref m0, .ref m1, .int (nI c2), .int (nI 0), .ref m2, .ref m3, .ref m4, .ref m5, .ref m6, .ref m7, .ref m8, .long sp2, .ref m9, .ref m10, .ref m11, .long ha], aI G m0 220 nk]) (wr := [aI G m1 880 pp2, aJ G m3 73 k3, aJ G m4 72 k4, aJ G m5 72 k5, aI G m6 72 k6, aJ G m7 72 k7, aJ G m8 12 k8, aJ G m9 72 k9, aJ G m10 72 k10, aJ G m11 72 k11]) (rest := [.long (sdv n v d (deff n d (iR P M R n v)) (sm (xv d) 0 n) t), .int (nI k)]) (qc := 0) (c_X4_valueAt l hl G qm m0 m1 m2 m3 m4 m5 m6 m7 m8 m9 m10 m11 c2 0 sp2 ha nk P M R n vk g d t (by first | assumption | omega) (by first | assumption | omega) (by first | assumption | omega)) cd_X4_valueAt cv_X4_valueAt rfl rfl rfl tw_4_73 [0, 1] [2, 3, 4, 5, 6, 7, 8, 9, 10, 11] rfl rfl rfl rfl (by decide) rfl ⟨(Nat.le_of_ble_eq_true rfl), (Nat.le_of_ble_eq_true rfl), (Nat.le_of_ble_eq_true rfl), (Nat.le_of_ble_eq_true rfl)⟩ (Nat.le_of_ble_eq_true rfl) rfl (dcq dc_X4_removeDays_1 15 rfl) ?_
              rintro _ _ ⟨rfl, rfl⟩
              change J p l e (cRm 6 129 0 0) s m args below meth c G A 7 (JQ below G A (po_X4_removeDays G qm m0 m1 m2 m3 m4 m5 m6 m7 m8 m9 m10 m11 hc rf sp ha nw P M R n v g d pp s3 e4 e5 e7 e8 e9 e10 e11 e6) args s 0 0) 0 0 121 [(5, .long (sdv n v d (deff n d (iR P M R n v)) (sm (xv d) 0 n) t)), (0, .ref qm), (1, .long re), (3, .int (nI k)), (4, .int (nI t))] [.int (vk t), .long (sdv n v d (deff n d (iR P M R n v)) (sm (xv d) 0 n) t), .int (nI k)] [aI G m1 880 pp2, aJ G m3 73 k3, aJ G m4 72 k4, aJ G m5 72 k5, aI G m6 72 k6, aJ G m7 72 k7, aJ G m8 12 k8, aJ G m9 72 k9, aJ G m10 72 k10, aJ G m11 72 k11, oB 4 qm [.ref m0, .ref m1, .int (nI c2), .int (nI 0), .ref m2, .ref m3, .ref m4, .ref m5, .ref m6, .ref m7, .ref m8, .long sp2, .ref m9, .ref m10, .ref m11, .long ha], aI G m0 220 nk]
              refine J_world (ws2 := [oB 4 qm [.ref m0, .ref m1, .int (nI c2), .int (nI 0), .ref m2, .ref m3, .ref m4, .ref m5, .ref m6, .ref m7, .ref m8, .long sp2, .ref m9, .ref m10, .ref m11, .long ha], aI G m0 220 nk, aI G m1 880 pp2, aJ G m3 73 k3, aJ G m4 72 k4, aJ G m5 72 k5, aI G m6 72 k6, aJ G m7 72 k7, aJ G m8 12 k8, aJ G m9 72 k9, aJ G m10 72 k10, aJ G m11 72 k11]) [10, 11, 0, 1, 2, 3, 4, 5, 6, 7, 8, 9] rfl rfl ?_
              refine J_i2l F (v := (vk t).toInt64) (dcq dc_X4_removeDays_1 16 rfl) rfl ?_
              refine J_lcmp_ne F 130 (dcq dc_X4_removeDays_1 17 rfl) (dcq dc_X4_removeDays_1 18 rfl) (by decide) (fun h_7 => ?_) (fun h_7 => ?_)
              · skip
                have hcmp := h_7
                refine J_iconst F (dcq dc_X4_removeDays_1 21 rfl) ic_1 ?_
                refine J_iadd F (v := nI (k + 1)) (dcq dc_X4_removeDays_1 22 rfl) (nI_add _ _) ?_
                refine J_istore_n F (lv2 := [(3, .int (nI (k + 1))), (5, .long (sdv n v d (deff n d (iR P M R n v)) (sm (xv d) 0 n) t)), (0, .ref qm), (1, .long re), (4, .int (nI t))]) (dcq dc_X4_removeDays_1 23 rfl) rfl (Nat.le_of_ble_eq_true rfl) rfl ?_
                refine J_aload_n F 2 (dcq dc_X4_removeDays_1 24 rfl) rfl rfl ?_
                refine J_get F fcX4 0 0 rfl (Nat.le_of_ble_eq_true rfl) tw_3_223 rfl rfl (dcq dc_X4_removeDays_1 25 rfl) ?_
                refine J_iconst F (dcq dc_X4_removeDays_1 26 rfl) ic_4 ?_
                refine J_iconst F (dcq dc_X4_removeDays_1 27 rfl) ic_3 ?_
                refine J_iload F 4 (dcq dc_X4_removeDays_1 28 rfl) rfl ?_
                refine J_imul F (v := nI (3 * t)) (dcq dc_X4_removeDays_1 29 rfl) (pk_mul _ _) ?_
                refine J_iadd F (v := nI (4 + 3 * t)) (dcq dc_X4_removeDays_1 30 rfl) (nI_add _ _) ?_
                refine J_iconst F (dcq dc_X4_removeDays_1 31 rfl) ic_1 ?_
                refine J_iadd F (v := nI (4 + 3 * t + 1)) (dcq dc_X4_removeDays_1 32 rfl) (nI_add _ _) ?_
                refine J_lload F 1 (dcq dc_X4_removeDays_1 33 rfl) rfl ?_
                refine J_l2i F (v := (sdv n v d (deff n d (iR P M R n v)) (sm (xv d) 0 n) t).toInt32) (dcq dc_X4_removeDays_1 34 rfl) rfl ?_
                refine J_iast F (ws2 := [oB 4 qm [.ref m0, .ref m1, .int (nI c2), .int (nI 0), .ref m2, .ref m3, .ref m4, .ref m5, .ref m6, .ref m7, .ref m8, .long sp2, .ref m9, .ref m10, .ref m11, .long ha], aI G m0 220 (upd nk (4 + 3 * t + 1) ((sdv n v d (deff n d (iR P M R n v)) (sm (xv d) 0 n) t).toInt32)), aI G m1 880 pp2, aJ G m3 73 k3, aJ G m4 72 k4, aJ G m5 72 k5, aI G m6 72 k6, aJ G m7 72 k7, aJ G m8 12 k8, aJ G m9 72 k9, aJ G m10 72 k10, aJ G m11 72 k11]) 1 rfl (by omega) (Nat.le_of_ble_eq_true rfl) rfl (dcq dc_X4_removeDays_1 35 rfl) ?_
                refine J_iinc F (lv2 := [(4, .int (nI (t + 1))), (3, .int (nI (k + 1))), (5, .long (sdv n v d (deff n d (iR P M R n v)) (sm (xv d) 0 n) t)), (0, .ref qm), (1, .long re)]) (v := nI (t + 1)) 4 (dcq dc_X4_removeDays_1 36 rfl) rfl (nI_inc _) (Nat.le_of_ble_eq_true rfl) rfl ?_
                refine J_goto F 35 (dcq dc_X4_removeDays_1 37 rfl) (by decide) ?_
                refine J_locs [3, 4, 1, 0] rfl ?_
                exact ih35 (t + 1) (k + 1) (upd nk (4 + 3 * t + 1) ((sdv n v d (deff n d (iR P M R n v)) (sm (xv d) 0 n) t).toInt32)) (upd vk t (sdv n v d (deff n d (iR P M R n v)) (sm (xv d) 0 n) t).toInt32) (by omega) (by simp only [chg]; rw [if_neg (fun q => hcmp (q.trans (by rw [iw t (Nat.le_refl _)]; rfl))), ik]) (RM_v hRk t _) (up_i iv rfl) (fun j h => by rw [pk_un (by omega)]; exact iw j (by omega)) (by omega)
              · skip
                have hcmp := h_7
                refine J_iconst F (dcq dc_X4_removeDays_1 19 rfl) ic_0 ?_
                refine J_goto F 131 (dcq dc_X4_removeDays_1 20 rfl) (by decide) ?_
                refine J_iadd F (v := nI (k + 0)) (dcq dc_X4_removeDays_1 22 rfl) (nI_add _ _) ?_
                refine J_istore_n F (lv2 := [(3, .int (nI (k + 0))), (5, .long (sdv n v d (deff n d (iR P M R n v)) (sm (xv d) 0 n) t)), (0, .ref qm), (1, .long re), (4, .int (nI t))]) (dcq dc_X4_removeDays_1 23 rfl) rfl (Nat.le_of_ble_eq_true rfl) rfl ?_
                refine J_aload_n F 2 (dcq dc_X4_removeDays_1 24 rfl) rfl rfl ?_
                refine J_get F fcX4 0 0 rfl (Nat.le_of_ble_eq_true rfl) tw_3_223 rfl rfl (dcq dc_X4_removeDays_1 25 rfl) ?_
                refine J_iconst F (dcq dc_X4_removeDays_1 26 rfl) ic_4 ?_
                refine J_iconst F (dcq dc_X4_removeDays_1 27 rfl) ic_3 ?_
                refine J_iload F 4 (dcq dc_X4_removeDays_1 28 rfl) rfl ?_
                refine J_imul F (v := nI (3 * t)) (dcq dc_X4_removeDays_1 29 rfl) (pk_mul _ _) ?_
                refine J_iadd F (v := nI (4 + 3 * t)) (dcq dc_X4_removeDays_1 30 rfl) (nI_add _ _) ?_
                refine J_iconst F (dcq dc_X4_removeDays_1 31 rfl) ic_1 ?_
                refine J_iadd F (v := nI (4 + 3 * t + 1)) (dcq dc_X4_removeDays_1 32 rfl) (nI_add _ _) ?_
                refine J_lload F 1 (dcq dc_X4_removeDays_1 33 rfl) rfl ?_
                refine J_l2i F (v := (sdv n v d (deff n d (iR P M R n v)) (sm (xv d) 0 n) t).toInt32) (dcq dc_X4_removeDays_1 34 rfl) rfl ?_
                refine J_iast F (ws2 := [oB 4 qm [.ref m0, .ref m1, .int (nI c2), .int (nI 0), .ref m2, .ref m3, .ref m4, .ref m5, .ref m6, .ref m7, .ref m8, .long sp2, .ref m9, .ref m10, .ref m11, .long ha], aI G m0 220 (upd nk (4 + 3 * t + 1) ((sdv n v d (deff n d (iR P M R n v)) (sm (xv d) 0 n) t).toInt32)), aI G m1 880 pp2, aJ G m3 73 k3, aJ G m4 72 k4, aJ G m5 72 k5, aI G m6 72 k6, aJ G m7 72 k7, aJ G m8 12 k8, aJ G m9 72 k9, aJ G m10 72 k10, aJ G m11 72 k11]) 1 rfl (by omega) (Nat.le_of_ble_eq_true rfl) rfl (dcq dc_X4_removeDays_1 35 rfl) ?_
                refine J_iinc F (lv2 := [(4, .int (nI (t + 1))), (3, .int (nI (k + 0))), (5, .long (sdv n v d (deff n d (iR P M R n v)) (sm (xv d) 0 n) t)), (0, .ref qm), (1, .long re)]) (v := nI (t + 1)) 4 (dcq dc_X4_removeDays_1 36 rfl) rfl (nI_inc _) (Nat.le_of_ble_eq_true rfl) rfl ?_
                refine J_goto F 35 (dcq dc_X4_removeDays_1 37 rfl) (by decide) ?_
                refine J_locs [3, 4, 1, 0] rfl ?_
                exact ih35 (t + 1) (k + 0) (upd nk (4 + 3 * t + 1) ((sdv n v d (deff n d (iR P M R n v)) (sm (xv d) 0 n) t).toInt32)) (upd vk t (sdv n v d (deff n d (iR P M R n v)) (sm (xv d) 0 n) t).toInt32) (by omega) (by simp only [chg]; rw [if_pos (hcmp.trans (by rw [iw t (Nat.le_refl _)]; rfl)), ik]) (RM_v hRk t _) (up_i iv rfl) (fun j h => by rw [pk_un (by omega)]; exact iw j (by omega)) (by omega)
          · skip
            have hl1 := h_4
            refine J_ldc2 F (v2 := (-1000000)) tw_4_90 rfl (dcq dc_X4_removeDays_1 1 rfl) ?_
            refine J_goto F 110 (dcq dc_X4_removeDays_1 2 rfl) (by decide) ?_
            have hs9 : (-1000000) = (sdv n v d (deff n d (iR P M R n v)) (sm (xv d) 0 n) t) := by unfold sdv; rw [clamp_eq, ← hxd, if_pos (Int64.not_le.mp hl1)]
            refine J_cast (lv2 := [(5, .long (((vk t).toInt64) - rq)), (0, .ref qm), (1, .long re), (3, .int (nI k)), (4, .int (nI t))]) (st2 := [.long (sdv n v d (deff n d (iR P M R n v)) (sm (xv d) 0 n) t)]) (ws2 := [oB 4 qm [.ref m0, .ref m1, .int (nI c2), .int (nI 0), .ref m2, .ref m3, .ref m4, .ref m5, .ref m6, .ref m7, .ref m8, .long sp2, .ref m9, .ref m10, .ref m11, .long ha], aI G m0 220 nk, aI G m1 880 pp2, aJ G m3 73 k3, aJ G m4 72 k4, aJ G m5 72 k5, aI G m6 72 k6, aJ G m7 72 k7, aJ G m8 12 k8, aJ G m9 72 k9, aJ G m10 72 k10, aJ G m11 72 k11]) (rfl) (by rw [← hs9]) (rfl) ?_
            refine J_lstore F (lv2 := [(5, .long (sdv n v d (deff n d (iR P M R n v)) (sm (xv d) 0 n) t)), (0, .ref qm), (1, .long re), (3, .int (nI k)), (4, .int (nI t))]) (dcq dc_X4_removeDays_1 10 rfl) (Nat.le_of_ble_eq_true rfl) rfl ?_
            refine J_iload_n F 3 (dcq dc_X4_removeDays_1 11 rfl) rfl rfl ?_
            refine J_lload F 0 (dcq dc_X4_removeDays_1 12 rfl) rfl ?_
            refine J_aload_n F 1 (dcq dc_X4_removeDays_1 13 rfl) rfl rfl ?_
            refine J_iload F 4 (dcq dc_X4_removeDays_1 14 rfl) rfl ?_
            refine J_callV F (wc := [oB 4 qm [.ref m0, .ref m1, .int (nI c2), .int (nI 0), .ref m2, .ref m3, .ref m4, .ref m5, .ref m6, .ref m7, .ref m8, .long sp2, .ref m9, .ref m10, .ref m11, .long ha], aI G m0 220 nk]) (wr := [aI G m1 880 pp2, aJ G m3 73 k3, aJ G m4 72 k4, aJ G m5 72 k5, aI G m6 72 k6, aJ G m7 72 k7, aJ G m8 12 k8, aJ G m9 72 k9, aJ G m10 72 k10, aJ G m11 72 k11]) (rest := [.long (sdv n v d (deff n d (iR P M R n v)) (sm (xv d) 0 n) t), .int (nI k)]) (qc := 0) (c_X4_valueAt l hl G qm m0 m1 m2 m3 m4 m5 m6 m7 m8 m9 m10 m11 c2 0 sp2 ha nk P M R n vk g d t (by first | assumption | omega) (by first | assumption | omega) (by first | assumption | omega)) cd_X4_valueAt cv_X4_valueAt rfl rfl rfl tw_4_73 [0, 1] [2, 3, 4, 5, 6, 7, 8, 9, 10, 11] rfl rfl rfl rfl (by decide) rfl ⟨(Nat.le_of_ble_eq_true rfl), (Nat.le_of_ble_eq_true rfl), (Nat.le_of_ble_eq_true rfl), (Nat.le_of_ble_eq_true rfl)⟩ (Nat.le_of_ble_eq_true rfl) rfl (dcq dc_X4_removeDays_1 15 rfl) ?_
            rintro _ _ ⟨rfl, rfl⟩
            change J p l e (cRm 6 129 0 0) s m args below meth c G A 7 (JQ below G A (po_X4_removeDays G qm m0 m1 m2 m3 m4 m5 m6 m7 m8 m9 m10 m11 hc rf sp ha nw P M R n v g d pp s3 e4 e5 e7 e8 e9 e10 e11 e6) args s 0 0) 0 0 121 [(5, .long (sdv n v d (deff n d (iR P M R n v)) (sm (xv d) 0 n) t)), (0, .ref qm), (1, .long re), (3, .int (nI k)), (4, .int (nI t))] [.int (vk t), .long (sdv n v d (deff n d (iR P M R n v)) (sm (xv d) 0 n) t), .int (nI k)] [aI G m1 880 pp2, aJ G m3 73 k3, aJ G m4 72 k4, aJ G m5 72 k5, aI G m6 72 k6, aJ G m7 72 k7, aJ G m8 12 k8, aJ G m9 72 k9, aJ G m10 72 k10, aJ G m11 72 k11, oB 4 qm [.ref m0, .ref m1, .int (nI c2), .int (nI 0), .ref m2, .ref m3, .ref m4, .ref m5, .ref m6, .ref m7, .ref m8, .long sp2, .ref m9, .ref m10, .ref m11, .long ha], aI G m0 220 nk]
            refine J_world (ws2 := [oB 4 qm [.ref m0, .ref m1, .int (nI c2), .int (nI 0), .ref m2, .ref m3, .ref m4, .ref m5, .ref m6, .ref m7, .ref m8, .long sp2, .ref m9, .ref m10, .ref m11, .long ha], aI G m0 220 nk, aI G m1 880 pp2, aJ G m3 73 k3, aJ G m4 72 k4, aJ G m5 72 k5, aI G m6 72 k6, aJ G m7 72 k7, aJ G m8 12 k8, aJ G m9 72 k9, aJ G m10 72 k10, aJ G m11 72 k11]) [10, 11, 0, 1, 2, 3, 4, 5, 6, 7, 8, 9] rfl rfl ?_
            refine J_i2l F (v := (vk t).toInt64) (dcq dc_X4_removeDays_1 16 rfl) rfl ?_
            refine J_lcmp_ne F 130 (dcq dc_X4_removeDays_1 17 rfl) (dcq dc_X4_removeDays_1 18 rfl) (by decide) (fun h_8 => ?_) (fun h_8 => ?_)
            · skip
              have hcmp := h_8
              refine J_iconst F (dcq dc_X4_removeDays_1 21 rfl) ic_1 ?_
              refine J_iadd F (v := nI (k + 1)) (dcq dc_X4_removeDays_1 22 rfl) (nI_add _ _) ?_
              refine J_istore_n F (lv2 := [(3, .int (nI (k + 1))), (5, .long (sdv n v d (deff n d (iR P M R n v)) (sm (xv d) 0 n) t)), (0, .ref qm), (1, .long re), (4, .int (nI t))]) (dcq dc_X4_removeDays_1 23 rfl) rfl (Nat.le_of_ble_eq_true rfl) rfl ?_
              refine J_aload_n F 2 (dcq dc_X4_removeDays_1 24 rfl) rfl rfl ?_
              refine J_get F fcX4 0 0 rfl (Nat.le_of_ble_eq_true rfl) tw_3_223 rfl rfl (dcq dc_X4_removeDays_1 25 rfl) ?_
              refine J_iconst F (dcq dc_X4_removeDays_1 26 rfl) ic_4 ?_
              refine J_iconst F (dcq dc_X4_removeDays_1 27 rfl) ic_3 ?_
              refine J_iload F 4 (dcq dc_X4_removeDays_1 28 rfl) rfl ?_
              refine J_imul F (v := nI (3 * t)) (dcq dc_X4_removeDays_1 29 rfl) (pk_mul _ _) ?_
              refine J_iadd F (v := nI (4 + 3 * t)) (dcq dc_X4_removeDays_1 30 rfl) (nI_add _ _) ?_
              refine J_iconst F (dcq dc_X4_removeDays_1 31 rfl) ic_1 ?_
              refine J_iadd F (v := nI (4 + 3 * t + 1)) (dcq dc_X4_removeDays_1 32 rfl) (nI_add _ _) ?_
              refine J_lload F 1 (dcq dc_X4_removeDays_1 33 rfl) rfl ?_
              refine J_l2i F (v := (sdv n v d (deff n d (iR P M R n v)) (sm (xv d) 0 n) t).toInt32) (dcq dc_X4_removeDays_1 34 rfl) rfl ?_
              refine J_iast F (ws2 := [oB 4 qm [.ref m0, .ref m1, .int (nI c2), .int (nI 0), .ref m2, .ref m3, .ref m4, .ref m5, .ref m6, .ref m7, .ref m8, .long sp2, .ref m9, .ref m10, .ref m11, .long ha], aI G m0 220 (upd nk (4 + 3 * t + 1) ((sdv n v d (deff n d (iR P M R n v)) (sm (xv d) 0 n) t).toInt32)), aI G m1 880 pp2, aJ G m3 73 k3, aJ G m4 72 k4, aJ G m5 72 k5, aI G m6 72 k6, aJ G m7 72 k7, aJ G m8 12 k8, aJ G m9 72 k9, aJ G m10 72 k10, aJ G m11 72 k11]) 1 rfl (by omega) (Nat.le_of_ble_eq_true rfl) rfl (dcq dc_X4_removeDays_1 35 rfl) ?_
              refine J_iinc F (lv2 := [(4, .int (nI (t + 1))), (3, .int (nI (k + 1))), (5, .long (sdv n v d (deff n d (iR P M R n v)) (sm (xv d) 0 n) t)), (0, .ref qm), (1, .long re)]) (v := nI (t + 1)) 4 (dcq dc_X4_removeDays_1 36 rfl) rfl (nI_inc _) (Nat.le_of_ble_eq_true rfl) rfl ?_
              refine J_goto F 35 (dcq dc_X4_removeDays_1 37 rfl) (by decide) ?_
              refine J_locs [3, 4, 1, 0] rfl ?_
              exact ih35 (t + 1) (k + 1) (upd nk (4 + 3 * t + 1) ((sdv n v d (deff n d (iR P M R n v)) (sm (xv d) 0 n) t).toInt32)) (upd vk t (sdv n v d (deff n d (iR P M R n v)) (sm (xv d) 0 n) t).toInt32) (by omega) (by simp only [chg]; rw [if_neg (fun q => hcmp (q.trans (by rw [iw t (Nat.le_refl _)]; rfl))), ik]) (RM_v hRk t _) (up_i iv rfl) (fun j h => by rw [pk_un (by omega)]; exact iw j (by omega)) (by omega)
            · skip
              have hcmp := h_8
              refine J_iconst F (dcq dc_X4_removeDays_1 19 rfl) ic_0 ?_
              refine J_goto F 131 (dcq dc_X4_removeDays_1 20 rfl) (by decide) ?_
              refine J_iadd F (v := nI (k + 0)) (dcq dc_X4_removeDays_1 22 rfl) (nI_add _ _) ?_
              refine J_istore_n F (lv2 := [(3, .int (nI (k + 0))), (5, .long (sdv n v d (deff n d (iR P M R n v)) (sm (xv d) 0 n) t)), (0, .ref qm), (1, .long re), (4, .int (nI t))]) (dcq dc_X4_removeDays_1 23 rfl) rfl (Nat.le_of_ble_eq_true rfl) rfl ?_
              refine J_aload_n F 2 (dcq dc_X4_removeDays_1 24 rfl) rfl rfl ?_
              refine J_get F fcX4 0 0 rfl (Nat.le_of_ble_eq_true rfl) tw_3_223 rfl rfl (dcq dc_X4_removeDays_1 25 rfl) ?_
              refine J_iconst F (dcq dc_X4_removeDays_1 26 rfl) ic_4 ?_
              refine J_iconst F (dcq dc_X4_removeDays_1 27 rfl) ic_3 ?_
              refine J_iload F 4 (dcq dc_X4_removeDays_1 28 rfl) rfl ?_
              refine J_imul F (v := nI (3 * t)) (dcq dc_X4_removeDays_1 29 rfl) (pk_mul _ _) ?_
              refine J_iadd F (v := nI (4 + 3 * t)) (dcq dc_X4_removeDays_1 30 rfl) (nI_add _ _) ?_
              refine J_iconst F (dcq dc_X4_removeDays_1 31 rfl) ic_1 ?_
              refine J_iadd F (v := nI (4 + 3 * t + 1)) (dcq dc_X4_removeDays_1 32 rfl) (nI_add _ _) ?_
              refine J_lload F 1 (dcq dc_X4_removeDays_1 33 rfl) rfl ?_
              refine J_l2i F (v := (sdv n v d (deff n d (iR P M R n v)) (sm (xv d) 0 n) t).toInt32) (dcq dc_X4_removeDays_1 34 rfl) rfl ?_
              refine J_iast F (ws2 := [oB 4 qm [.ref m0, .ref m1, .int (nI c2), .int (nI 0), .ref m2, .ref m3, .ref m4, .ref m5, .ref m6, .ref m7, .ref m8, .long sp2, .ref m9, .ref m10, .ref m11, .long ha], aI G m0 220 (upd nk (4 + 3 * t + 1) ((sdv n v d (deff n d (iR P M R n v)) (sm (xv d) 0 n) t).toInt32)), aI G m1 880 pp2, aJ G m3 73 k3, aJ G m4 72 k4, aJ G m5 72 k5, aI G m6 72 k6, aJ G m7 72 k7, aJ G m8 12 k8, aJ G m9 72 k9, aJ G m10 72 k10, aJ G m11 72 k11]) 1 rfl (by omega) (Nat.le_of_ble_eq_true rfl) rfl (dcq dc_X4_removeDays_1 35 rfl) ?_
              refine J_iinc F (lv2 := [(4, .int (nI (t + 1))), (3, .int (nI (k + 0))), (5, .long (sdv n v d (deff n d (iR P M R n v)) (sm (xv d) 0 n) t)), (0, .ref qm), (1, .long re)]) (v := nI (t + 1)) 4 (dcq dc_X4_removeDays_1 36 rfl) rfl (nI_inc _) (Nat.le_of_ble_eq_true rfl) rfl ?_
              refine J_goto F 35 (dcq dc_X4_removeDays_1 37 rfl) (by decide) ?_
              refine J_locs [3, 4, 1, 0] rfl ?_
              exact ih35 (t + 1) (k + 0) (upd nk (4 + 3 * t + 1) ((sdv n v d (deff n d (iR P M R n v)) (sm (xv d) 0 n) t).toInt32)) (upd vk t (sdv n v d (deff n d (iR P M R n v)) (sm (xv d) 0 n) t).toInt32) (by omega) (by simp only [chg]; rw [if_pos (hcmp.trans (by rw [iw t (Nat.le_refl _)]; rfl)), ik]) (RM_v hRk t _) (up_i iv rfl) (fun j h => by rw [pk_un (by omega)]; exact iw j (by omega)) (by omega)
    refine J_locs [3, 2, 1, 0] rfl ?_
    exact L35 (n - 0 + 1) 0 0 nw v (by omega) (rfl) (hRM) (fun j _ h => absurd h (Nat.not_lt_zero _)) (fun _ _ => rfl) (Nat.lt_succ_self _)
  · skip
    have hne : ¬ (M = 0 ∧ dcm P n g ∧ 0 < dsq n d) := hne
    change J p l e (cRm 6 129 0 0) s m args below meth c G A 7 (JQ below G A (po_X4_removeDays G qm m0 m1 m2 m3 m4 m5 m6 m7 m8 m9 m10 m11 hc rf sp ha nw P M R n v g d pp s3 e4 e5 e7 e8 e9 e10 e11 e6) args s 0 0) 0 0 5 [(0, .ref qm)] [.int (nI 0), .ref qm] [aI G m1 880 pp, oB 4 qm [.ref m0, .ref m1, .int (nI hc), .int (nI rf), .ref m2, .ref m3, .ref m4, .ref m5, .ref m6, .ref m7, .ref m8, .long sp, .ref m9, .ref m10, .ref m11, .long ha], aI G m0 220 nw, aJ G m3 73 s3, aJ G m4 72 e4, aJ G m5 72 e5, aI G m6 72 e6, aJ G m7 72 e7, aJ G m8 12 e8, aJ G m9 72 e9, aJ G m10 72 e10, aJ G m11 72 e11]
    refine J_world (ws2 := [oB 4 qm [.ref m0, .ref m1, .int (nI hc), .int (nI rf), .ref m2, .ref m3, .ref m4, .ref m5, .ref m6, .ref m7, .ref m8, .long sp, .ref m9, .ref m10, .ref m11, .long ha], aI G m0 220 nw, aI G m1 880 pp, aJ G m3 73 s3, aJ G m4 72 e4, aJ G m5 72 e5, aI G m6 72 e6, aJ G m7 72 e7, aJ G m8 12 e8, aJ G m9 72 e9, aJ G m10 72 e10, aJ G m11 72 e11]) [1, 2, 0, 3, 4, 5, 6, 7, 8, 9, 10, 11] rfl rfl ?_
    refine J_if_eq F 12 (dcq dc_X4_removeDays_0 3 rfl) (by decide) (fun _ => ?_) (fun h_9 => absurd h_9 (by decide))
    refine J_iconst F (dcq dc_X4_removeDays_0 6 rfl) ic_1 ?_
    refine J_callV F (wc := [oB 4 qm [.ref m0, .ref m1, .int (nI hc), .int (nI rf), .ref m2, .ref m3, .ref m4, .ref m5, .ref m6, .ref m7, .ref m8, .long sp, .ref m9, .ref m10, .ref m11, .long ha]]) (wr := [aI G m0 220 nw, aI G m1 880 pp, aJ G m3 73 s3, aJ G m4 72 e4, aJ G m5 72 e5, aI G m6 72 e6, aJ G m7 72 e7, aJ G m8 12 e8, aJ G m9 72 e9, aJ G m10 72 e10, aJ G m11 72 e11]) (rest := []) (qc := 0) (c_X4_refused_1 l hl G qm m0 m1 m2 m3 m4 m5 m6 m7 m8 m9 m10 m11 hc rf sp ha) cd_X4_refused cv_X4_refused rfl rfl rfl tw_4_40 [0] [1, 2, 3, 4, 5, 6, 7, 8, 9, 10, 11] rfl rfl rfl rfl (by decide) rfl ⟨(Nat.le_of_ble_eq_true rfl), (Nat.le_of_ble_eq_true rfl), (Nat.le_of_ble_eq_true rfl), (Nat.le_of_ble_eq_true rfl)⟩ (Nat.le_of_ble_eq_true rfl) rfl (dcq dc_X4_removeDays_0 7 rfl) ?_
    rintro _ _ ⟨rfl, rfl⟩
    change J p l e (cRm 6 129 0 0) s m args below meth c G A 7 (JQ below G A (po_X4_removeDays G qm m0 m1 m2 m3 m4 m5 m6 m7 m8 m9 m10 m11 hc rf sp ha nw P M R n v g d pp s3 e4 e5 e7 e8 e9 e10 e11 e6) args s 0 0) 0 0 16 [(0, .ref qm)] [.int (nI 1)] [aI G m0 220 nw, aI G m1 880 pp, aJ G m3 73 s3, aJ G m4 72 e4, aJ G m5 72 e5, aI G m6 72 e6, aJ G m7 72 e7, aJ G m8 12 e8, aJ G m9 72 e9, aJ G m10 72 e10, aJ G m11 72 e11, oB 4 qm [.ref m0, .ref m1, .int (nI hc), .int (nI 1), .ref m2, .ref m3, .ref m4, .ref m5, .ref m6, .ref m7, .ref m8, .long sp, .ref m9, .ref m10, .ref m11, .long ha]]
    refine J_world (ws2 := [oB 4 qm [.ref m0, .ref m1, .int (nI hc), .int (nI 1), .ref m2, .ref m3, .ref m4, .ref m5, .ref m6, .ref m7, .ref m8, .long sp, .ref m9, .ref m10, .ref m11, .long ha], aI G m0 220 nw, aI G m1 880 pp, aJ G m3 73 s3, aJ G m4 72 e4, aJ G m5 72 e5, aI G m6 72 e6, aJ G m7 72 e7, aJ G m8 12 e8, aJ G m9 72 e9, aJ G m10 72 e10, aJ G m11 72 e11]) [11, 0, 1, 2, 3, 4, 5, 6, 7, 8, 9, 10] rfl rfl ?_
    refine J_if_eq F 21 (dcq dc_X4_removeDays_0 8 rfl) (by decide) (fun h_10 => absurd h_10 (by decide)) (fun _ => ?_)
    refine J_iconst F (dcq dc_X4_removeDays_0 9 rfl) ic_0 ?_
    exact J_iret F (Or.inr (⟨rfl, rfl, hne⟩)) (Nat.le_of_ble_eq_true rfl) (Nat.le_of_ble_eq_true rfl) (dcq dc_X4_removeDays_0 10 rfl)

abbrev po_X4_mix (G : Gt) (qm m0 m1 m2 m3 m4 m5 m6 m7 m8 m9 m10 m11 hc rf : Nat) (sp ha : Int64) (x : Int64) : Option Value → va_W → Prop := fun (v9 : Option Value) (w9 : va_W) => v9 = none ∧ w9 = [oB 4 qm [.ref m0, .ref m1, .int (nI hc), .int (nI rf), .ref m2, .ref m3, .ref m4, .ref m5, .ref m6, .ref m7, .ref m8, .long sp, .ref m9, .ref m10, .ref m11, .long ((31 * ha) + x)]]
set_option maxHeartbeats 4000000 in
set_option maxRecDepth 100000 in
theorem c_X4_mix (l : Launch) (hl : l.stackTraces = false) (G : Gt) (qm m0 m1 m2 m3 m4 m5 m6 m7 m8 m9 m10 m11 hc rf : Nat) (sp ha : Int64) (x : Int64) : Con l G yX4_mix cX4_mix 3 none 0 0 0 0 [.ref qm, .long x] [oB 4 qm [.ref m0, .ref m1, .int (nI hc), .int (nI rf), .ref m2, .ref m3, .ref m4, .ref m5, .ref m6, .ref m7, .ref m8, .long sp, .ref m9, .ref m10, .ref m11, .long ha]] (po_X4_mix G qm m0 m1 m2 m3 m4 m5 m6 m7 m8 m9 m10 m11 hc rf sp ha x) := by
  refine Con.of hl cd_X4_mix (Nat.le_of_ble_eq_true rfl) ?_
  intro p e s m args below meth c A F hin9
  change Fx p l s m args meth c G A "SeasonalAdjusterModel" cX4_mix 3 none at F
  change J p l e (cRm 0 0 0 0) s m args below meth c G A 3 (JQ below G A (po_X4_mix G qm m0 m1 m2 m3 m4 m5 m6 m7 m8 m9 m10 m11 hc rf sp ha x) args s 0 0) 0 0 0 [(0, .ref qm), (1, .long x)] [] [oB 4 qm [.ref m0, .ref m1, .int (nI hc), .int (nI rf), .ref m2, .ref m3, .ref m4, .ref m5, .ref m6, .ref m7, .ref m8, .long sp, .ref m9, .ref m10, .ref m11, .long ha]]
  refine J_aload_n F 0 (dcq dc_X4_mix_0 0 rfl) rfl rfl ?_
  refine J_ldc2 F (v2 := (31)) tw_4_120 rfl (dcq dc_X4_mix_0 1 rfl) ?_
  refine J_aload_n F 0 (dcq dc_X4_mix_0 2 rfl) rfl rfl ?_
  refine J_get F fcX4 0 15 rfl (Nat.le_of_ble_eq_true rfl) tw_3_238 rfl rfl (dcq dc_X4_mix_0 3 rfl) ?_
  refine J_lmul F (v := 31 * ha) (dcq dc_X4_mix_0 4 rfl) rfl ?_
  refine J_lload_n F 1 (dcq dc_X4_mix_0 5 rfl) rfl rfl ?_
  refine J_ladd F (v := (31 * ha) + x) (dcq dc_X4_mix_0 6 rfl) rfl ?_
  refine J_put F (ws2 := [oB 4 qm [.ref m0, .ref m1, .int (nI hc), .int (nI rf), .ref m2, .ref m3, .ref m4, .ref m5, .ref m6, .ref m7, .ref m8, .long sp, .ref m9, .ref m10, .ref m11, .long ((31 * ha) + x)]]) fcX4 0 15 rfl (Nat.le_of_ble_eq_true rfl) tw_3_238 rfl rfl rfl rfl (Nat.le_of_ble_eq_true rfl) rfl (dcq dc_X4_mix_0 7 rfl) ?_
  exact J_vret F ⟨rfl, rfl⟩ (Nat.le_of_ble_eq_true rfl) (Nat.le_of_ble_eq_true rfl) (dcq dc_X4_mix_0 8 rfl)

abbrev po_X4_digest (G : Gt) (qm m0 m1 m2 m3 m4 m5 m6 m7 m8 m9 m10 m11 hc rf : Nat) (sp ha : Int64) (nw : Nat → Int32) (P M R n : Nat) (v g d : Nat → Int32) (s3 : Nat → Int64) (e4 : Nat → Int64) (e5 : Nat → Int64) (e7 : Nat → Int64) (e8 : Nat → Int64) (e9 : Nat → Int64) (e10 : Nat → Int64) (e11 : Nat → Int64) (e6 : Nat → Int32) : Option Value → va_W → Prop := fun (v9 : Option Value) (w9 : va_W) => (∃ (sp2 : Int64), ∃ (k3 k4 k5 : Nat → Int64), ∃ (k6 : Nat → Int32), ∃ (k7 k8 k9 k10 k11 : Nat → Int64), ∃ (r : Int64), v9 = some (.long r) ∧ w9 = [oB 4 qm [.ref m0, .ref m1, .int (nI hc), .int (nI 0), .ref m2, .ref m3, .ref m4, .ref m5, .ref m6, .ref m7, .ref m8, .long sp2, .ref m9, .ref m10, .ref m11, .long r], aI G m0 220 nw, aJ G m3 73 k3, aJ G m4 72 k4, aJ G m5 72 k5, aI G m6 72 k6, aJ G m7 72 k7, aJ G m8 12 k8, aJ G m9 72 k9, aJ G m10 72 k10, aJ G m11 72 k11] ∧ (dcm P n g) ∧ (MPT P M R n v sp2 k4 k5 k6 k7 k8 k9 k10 k11) ∧ (r = ahs P n (P / 2) (osum (wR P M R n v) (fun _ => 1) (P / 2) (n - 2 * (P / 2))) (wid P M (P / 2) n v (wR P M R n v)) (fR P M R n v) (wR P M R n v) (tR P M R n v) (iR P M R n v) (hx (dge v g d (dg0 hc P M R n) n) 1))) ∨ (∃ (r : Int64), v9 = some (.long r) ∧ w9 = [oB 4 qm [.ref m0, .ref m1, .int (nI hc), .int (nI 0), .ref m2, .ref m3, .ref m4, .ref m5, .ref m6, .ref m7, .ref m8, .long sp, .ref m9, .ref m10, .ref m11, .long r], aI G m0 220 nw, aJ G m3 73 s3, aJ G m4 72 e4, aJ G m5 72 e5, aI G m6 72 e6, aJ G m7 72 e7, aJ G m8 12 e8, aJ G m9 72 e9, aJ G m10 72 e10, aJ G m11 72 e11] ∧ (¬ dcm P n g) ∧ (r = 31 * (dge v g d (dg0 hc P M R n) n)))
set_option maxHeartbeats 4000000 in
set_option maxRecDepth 100000 in
theorem c_X4_digest (l : Launch) (hl : l.stackTraces = false) (G : Gt) (qm m0 m1 m2 m3 m4 m5 m6 m7 m8 m9 m10 m11 hc rf : Nat) (sp ha : Int64) (nw : Nat → Int32) (P M R n : Nat) (v g d : Nat → Int32) (s3 : Nat → Int64) (e4 : Nat → Int64) (e5 : Nat → Int64) (e7 : Nat → Int64) (e8 : Nat → Int64) (e9 : Nat → Int64) (e10 : Nat → Int64) (e11 : Nat → Int64) (e6 : Nat → Int32) (hRM : RM nw P M R n v g d) (hn : n ≤ 72) (h01 : G01 n g) (hP : 2 ≤ P) (hP12 : P ≤ 12) (hM : M ≤ 1) (hR : R ≤ 5) (hgv : GVg M n v g) (hhc : hc ≤ 4) : Con l G yX4_digest cX4_digest 3 (some .long) 5 107 0 0 [.ref qm] [oB 4 qm [.ref m0, .ref m1, .int (nI hc), .int (nI rf), .ref m2, .ref m3, .ref m4, .ref m5, .ref m6, .ref m7, .ref m8, .long sp, .ref m9, .ref m10, .ref m11, .long ha], aI G m0 220 nw, aJ G m3 73 s3, aJ G m4 72 e4, aJ G m5 72 e5, aI G m6 72 e6, aJ G m7 72 e7, aJ G m8 12 e8, aJ G m9 72 e9, aJ G m10 72 e10, aJ G m11 72 e11] (po_X4_digest G qm m0 m1 m2 m3 m4 m5 m6 m7 m8 m9 m10 m11 hc rf sp ha nw P M R n v g d s3 e4 e5 e7 e8 e9 e10 e11 e6) := by
  refine Con.of hl cd_X4_digest (Nat.le_of_ble_eq_true rfl) ?_
  intro p e s m args below meth c A F hin9
  change Fx p l s m args meth c G A "SeasonalAdjusterModel" cX4_digest 3 (some .long) at F
  change J p l e (cRm 5 107 0 0) s m args below meth c G A 3 (JQ below G A (po_X4_digest G qm m0 m1 m2 m3 m4 m5 m6 m7 m8 m9 m10 m11 hc rf sp ha nw P M R n v g d s3 e4 e5 e7 e8 e9 e10 e11 e6) args s 0 0) 0 0 0 [(0, .ref qm)] [] [oB 4 qm [.ref m0, .ref m1, .int (nI hc), .int (nI rf), .ref m2, .ref m3, .ref m4, .ref m5, .ref m6, .ref m7, .ref m8, .long sp, .ref m9, .ref m10, .ref m11, .long ha], aI G m0 220 nw, aJ G m3 73 s3, aJ G m4 72 e4, aJ G m5 72 e5, aI G m6 72 e6, aJ G m7 72 e7, aJ G m8 12 e8, aJ G m9 72 e9, aJ G m10 72 e10, aJ G m11 72 e11]
  refine J_aload_n F 0 (dcq dc_X4_digest_0 0 rfl) rfl rfl ?_
  refine J_iconst F (dcq dc_X4_digest_0 1 rfl) ic_0 ?_
  refine J_put F (ws2 := [oB 4 qm [.ref m0, .ref m1, .int (nI hc), .int (nI 0), .ref m2, .ref m3, .ref m4, .ref m5, .ref m6, .ref m7, .ref m8, .long sp, .ref m9, .ref m10, .ref m11, .long ha], aI G m0 220 nw, aJ G m3 73 s3, aJ G m4 72 e4, aJ G m5 72 e5, aI G m6 72 e6, aJ G m7 72 e7, aJ G m8 12 e8, aJ G m9 72 e9, aJ G m10 72 e10, aJ G m11 72 e11]) fcX4 0 3 rfl (Nat.le_of_ble_eq_true rfl) tw_3_226 rfl rfl rfl rfl (Nat.le_of_ble_eq_true rfl) rfl (dcq dc_X4_digest_0 2 rfl) ?_
  refine J_aload_n F 0 (dcq dc_X4_digest_0 3 rfl) rfl rfl ?_
  refine J_ldc2 F (v2 := (11981)) tw_5_72 rfl (dcq dc_X4_digest_0 4 rfl) ?_
  refine J_put F (ws2 := [oB 4 qm [.ref m0, .ref m1, .int (nI hc), .int (nI 0), .ref m2, .ref m3, .ref m4, .ref m5, .ref m6, .ref m7, .ref m8, .long sp, .ref m9, .ref m10, .ref m11, .long 11981], aI G m0 220 nw, aJ G m3 73 s3, aJ G m4 72 e4, aJ G m5 72 e5, aI G m6 72 e6, aJ G m7 72 e7, aJ G m8 12 e8, aJ G m9 72 e9, aJ G m10 72 e10, aJ G m11 72 e11]) fcX4 0 15 rfl (Nat.le_of_ble_eq_true rfl) tw_3_238 rfl rfl rfl rfl (Nat.le_of_ble_eq_true rfl) rfl (dcq dc_X4_digest_0 5 rfl) ?_
  refine J_aload_n F 0 (dcq dc_X4_digest_0 6 rfl) rfl rfl ?_
  refine J_aload_n F 0 (dcq dc_X4_digest_0 7 rfl) rfl rfl ?_
  refine J_get F fcX4 0 2 rfl (Nat.le_of_ble_eq_true rfl) tw_3_225 rfl rfl (dcq dc_X4_digest_0 8 rfl) ?_
  refine J_i2l F (v := lN hc) (dcq dc_X4_digest_0 9 rfl) (nI_l (by omega)) ?_
  refine J_callV F (wc := [oB 4 qm [.ref m0, .ref m1, .int (nI hc), .int (nI 0), .ref m2, .ref m3, .ref m4, .ref m5, .ref m6, .ref m7, .ref m8, .long sp, .ref m9, .ref m10, .ref m11, .long 11981]]) (wr := [aI G m0 220 nw, aJ G m3 73 s3, aJ G m4 72 e4, aJ G m5 72 e5, aI G m6 72 e6, aJ G m7 72 e7, aJ G m8 12 e8, aJ G m9 72 e9, aJ G m10 72 e10, aJ G m11 72 e11]) (rest := []) (qc := 0) (c_X4_mix l hl G qm m0 m1 m2 m3 m4 m5 m6 m7 m8 m9 m10 m11 hc 0 sp 11981 (lN hc)) cd_X4_mix cv_X4_mix rfl rfl rfl tw_5_73 [0] [1, 2, 3, 4, 5, 6, 7, 8, 9, 10] rfl rfl rfl rfl (by decide) rfl ⟨(Nat.le_of_ble_eq_true rfl), (Nat.le_of_ble_eq_true rfl), (Nat.le_of_ble_eq_true rfl), (Nat.le_of_ble_eq_true rfl)⟩ (Nat.le_of_ble_eq_true rfl) rfl (dcq dc_X4_digest_0 10 rfl) ?_
  rintro _ _ ⟨rfl, rfl⟩
  change J p l e (cRm 5 107 0 0) s m args below meth c G A 3 (JQ below G A (po_X4_digest G qm m0 m1 m2 m3 m4 m5 m6 m7 m8 m9 m10 m11 hc rf sp ha nw P M R n v g d s3 e4 e5 e7 e8 e9 e10 e11 e6) args s 0 0) 0 0 21 [(0, .ref qm)] [] [aI G m0 220 nw, aJ G m3 73 s3, aJ G m4 72 e4, aJ G m5 72 e5, aI G m6 72 e6, aJ G m7 72 e7, aJ G m8 12 e8, aJ G m9 72 e9, aJ G m10 72 e10, aJ G m11 72 e11, oB 4 qm [.ref m0, .ref m1, .int (nI hc), .int (nI 0), .ref m2, .ref m3, .ref m4, .ref m5, .ref m6, .ref m7, .ref m8, .long sp, .ref m9, .ref m10, .ref m11, .long ((31 * 11981) + (lN hc))]]
  refine J_world (ws2 := [oB 4 qm [.ref m0, .ref m1, .int (nI hc), .int (nI 0), .ref m2, .ref m3, .ref m4, .ref m5, .ref m6, .ref m7, .ref m8, .long sp, .ref m9, .ref m10, .ref m11, .long ((31 * 11981) + (lN hc))], aI G m0 220 nw, aJ G m3 73 s3, aJ G m4 72 e4, aJ G m5 72 e5, aI G m6 72 e6, aJ G m7 72 e7, aJ G m8 12 e8, aJ G m9 72 e9, aJ G m10 72 e10, aJ G m11 72 e11]) [10, 0, 1, 2, 3, 4, 5, 6, 7, 8, 9] rfl rfl ?_
  refine J_iconst F (dcq dc_X4_digest_0 11 rfl) ic_0 ?_
  refine J_istore_n F (lv2 := [(1, .int (nI 0)), (0, .ref qm)]) (dcq dc_X4_digest_0 12 rfl) rfl (Nat.le_of_ble_eq_true rfl) rfl ?_
  have L23 : ∀ (fu23 : Nat), ∀ (k : Nat) (xh : Int64), (k ≤ 4 + 3 * n) → (xh = hf (xv nw) 0 (hx 11981 (lN hc)) k) → 4 + 3 * n - k < fu23 → J p l e (cRm 5 107 0 0) s m args below meth c G A 3 (JQ below G A (po_X4_digest G qm m0 m1 m2 m3 m4 m5 m6 m7 m8 m9 m10 m11 hc rf sp ha nw P M R n v g d s3 e4 e5 e7 e8 e9 e10 e11 e6) args s 0 0) 0 0 23 [(0, .ref qm), (1, .int (nI k))] [] [oB 4 qm [.ref m0, .ref m1, .int (nI hc), .int (nI 0), .ref m2, .ref m3, .ref m4, .ref m5, .ref m6, .ref m7, .ref m8, .long sp, .ref m9, .ref m10, .ref m11, .long xh], aI G m0 220 nw, aJ G m3 73 s3, aJ G m4 72 e4, aJ G m5 72 e5, aI G m6 72 e6, aJ G m7 72 e7, aJ G m8 12 e8, aJ G m9 72 e9, aJ G m10 72 e10, aJ G m11 72 e11] := by
    intro fu23
    induction fu23 with
    | zero => intro k xh hk ih hm23; exact absurd hm23 (Nat.not_lt_zero _)
    | succ fu23 ih23 =>
      intro k xh hk ih hm23
      refine J_iload_n F 1 (dcq dc_X4_digest_0 13 rfl) rfl rfl ?_
      refine J_iconst F (dcq dc_X4_digest_0 14 rfl) ic_4 ?_
      refine J_iconst F (dcq dc_X4_digest_0 15 rfl) ic_3 ?_
      refine J_aload_n F 0 (dcq dc_X4_digest_0 16 rfl) rfl rfl ?_
      refine J_get F fcX4 0 0 rfl (Nat.le_of_ble_eq_true rfl) tw_3_223 rfl rfl (dcq dc_X4_digest_0 17 rfl) ?_
      refine J_iconst F (dcq dc_X4_digest_0 18 rfl) ic_3 ?_
      refine J_iald F 1 rfl (by omega) (Nat.le_of_ble_eq_true rfl) (dcq dc_X4_digest_0 19 rfl) ?_
      refine J_cast rfl (st2 := [.int (nI n), .int (nI 3), .int (nI 4), .int (nI k)]) (by rw [hRM.2.2.2.1]) rfl ?_
      refine J_imul F (v := nI (3 * n)) (dcq dc_X4_digest_0 20 rfl) (pk_mul _ _) ?_
      refine J_iadd F (v := nI (4 + 3 * n)) (dcq dc_X4_digest_0 21 rfl) (nI_add _ _) ?_
      refine J_ncmp_ge F 54 (by omega) (by omega) (dcq dc_X4_digest_0 22 rfl) (by decide) (fun h_1 => ?_) (fun h_1 => ?_)
      · skip
        have ihh : xh = dge v g d (dg0 hc P M R n) n := by rw [ih, show k = 4 + 3 * n by omega]; exact hf_RM hRM h01 hP12 hM hR hn hc n (Nat.le_refl _)
        refine J_aload_n F 0 (dcq dc_X4_digest_0 32 rfl) rfl rfl ?_
        refine J_callV F (wc := [oB 4 qm [.ref m0, .ref m1, .int (nI hc), .int (nI 0), .ref m2, .ref m3, .ref m4, .ref m5, .ref m6, .ref m7, .ref m8, .long sp, .ref m9, .ref m10, .ref m11, .long xh], aI G m0 220 nw, aJ G m3 73 s3, aJ G m4 72 e4, aJ G m5 72 e5, aI G m6 72 e6, aJ G m7 72 e7, aJ G m8 12 e8, aJ G m9 72 e9, aJ G m10 72 e10, aJ G m11 72 e11]) (wr := []) (rest := []) (qc := 0) (c_X4_decomposes l hl G qm m0 m1 m2 m3 m4 m5 m6 m7 m8 m9 m10 m11 hc 0 sp xh nw P M R n v g d s3 e4 e5 e7 e8 e9 e10 e11 e6 (by first | assumption | omega) (by first | assumption | omega) (by first | assumption | omega) (by first | assumption | omega) (by first | assumption | omega) (by first | assumption | omega) (by first | assumption | omega) (by first | assumption | omega)) cd_X4_decomposes cv_X4_decomposes rfl rfl rfl tw_4_172 [0, 1, 2, 3, 4, 5, 6, 7, 8, 9, 10] [] rfl rfl rfl rfl (by decide) rfl ⟨(Nat.le_of_ble_eq_true rfl), (Nat.le_of_ble_eq_true rfl), (Nat.le_of_ble_eq_true rfl), (Nat.le_of_ble_eq_true rfl)⟩ (Nat.le_of_ble_eq_true rfl) rfl (dcq dc_X4_digest_0 33 rfl) ?_
        rintro _ _ h9x
        rcases h9x with ⟨sp2, k3, k4, k5, k6, k7, k8, k9, k10, k11, rfl, rfl, hd, hmp⟩ | ⟨rfl, rfl, hnd⟩
        · skip
          have hd : dcm P n g := hd
          have hmp : MPT P M R n v sp2 k4 k5 k6 k7 k8 k9 k10 k11 := hmp
          change J p l e (cRm 5 107 0 0) s m args below meth c G A 3 (JQ below G A (po_X4_digest G qm m0 m1 m2 m3 m4 m5 m6 m7 m8 m9 m10 m11 hc rf sp ha nw P M R n v g d s3 e4 e5 e7 e8 e9 e10 e11 e6) args s 0 0) 0 0 58 [(0, .ref qm), (1, .int (nI k))] [.int (nI 1)] [oB 4 qm [.ref m0, .ref m1, .int (nI hc), .int (nI 0), .ref m2, .ref m3, .ref m4, .ref m5, .ref m6, .ref m7, .ref m8, .long sp2, .ref m9, .ref m10, .ref m11, .long xh], aI G m0 220 nw, aJ G m3 73 k3, aJ G m4 72 k4, aJ G m5 72 k5, aI G m6 72 k6, aJ G m7 72 k7, aJ G m8 12 k8, aJ G m9 72 k9, aJ G m10 72 k10, aJ G m11 72 k11]
          obtain ⟨q4, q5, q6, q7, q8, q9, q10, q11, qsp⟩ := id hmp
          have hdu := hd
          unfold dcm at hdu
          obtain ⟨h5n, hPn, hcg⟩ := hdu
          refine J_istore_n F (lv2 := [(1, .int (nI 1)), (0, .ref qm)]) (dcq dc_X4_digest_0 34 rfl) rfl (Nat.le_of_ble_eq_true rfl) rfl ?_
          refine J_aload_n F 1 (dcq dc_X4_digest_0 35 rfl) rfl rfl ?_
          refine J_iload_n F 0 (dcq dc_X4_digest_0 36 rfl) rfl rfl ?_
          refine J_if_eq F 68 (dcq dc_X4_digest_0 37 rfl) (by decide) (fun h_2 => absurd h_2 (by decide)) (fun _ => ?_)
          refine J_lconst F (dcq dc_X4_digest_0 38 rfl) lc_1 ?_
          refine J_goto F 69 (dcq dc_X4_digest_0 39 rfl) (by decide) ?_
          refine J_callV F (wc := [oB 4 qm [.ref m0, .ref m1, .int (nI hc), .int (nI 0), .ref m2, .ref m3, .ref m4, .ref m5, .ref m6, .ref m7, .ref m8, .long sp2, .ref m9, .ref m10, .ref m11, .long xh]]) (wr := [aI G m0 220 nw, aJ G m3 73 k3, aJ G m4 72 k4, aJ G m5 72 k5, aI G m6 72 k6, aJ G m7 72 k7, aJ G m8 12 k8, aJ G m9 72 k9, aJ G m10 72 k10, aJ G m11 72 k11]) (rest := []) (qc := 0) (c_X4_mix l hl G qm m0 m1 m2 m3 m4 m5 m6 m7 m8 m9 m10 m11 hc 0 sp2 xh 1) cd_X4_mix cv_X4_mix rfl rfl rfl tw_5_73 [0] [1, 2, 3, 4, 5, 6, 7, 8, 9, 10] rfl rfl rfl rfl (by decide) rfl ⟨(Nat.le_of_ble_eq_true rfl), (Nat.le_of_ble_eq_true rfl), (Nat.le_of_ble_eq_true rfl), (Nat.le_of_ble_eq_true rfl)⟩ (Nat.le_of_ble_eq_true rfl) rfl (dcq dc_X4_digest_0 41 rfl) ?_
          rintro _ _ ⟨rfl, rfl⟩
          change J p l e (cRm 5 107 0 0) s m args below meth c G A 3 (JQ below G A (po_X4_digest G qm m0 m1 m2 m3 m4 m5 m6 m7 m8 m9 m10 m11 hc rf sp ha nw P M R n v g d s3 e4 e5 e7 e8 e9 e10 e11 e6) args s 0 0) 0 0 72 [(1, .int (nI 1)), (0, .ref qm)] [] [aI G m0 220 nw, aJ G m3 73 k3, aJ G m4 72 k4, aJ G m5 72 k5, aI G m6 72 k6, aJ G m7 72 k7, aJ G m8 12 k8, aJ G m9 72 k9, aJ G m10 72 k10, aJ G m11 72 k11, oB 4 qm [.ref m0, .ref m1, .int (nI hc), .int (nI 0), .ref m2, .ref m3, .ref m4, .ref m5, .ref m6, .ref m7, .ref m8, .long sp2, .ref m9, .ref m10, .ref m11, .long ((31 * xh) + 1)]]
          refine J_world (ws2 := [oB 4 qm [.ref m0, .ref m1, .int (nI hc), .int (nI 0), .ref m2, .ref m3, .ref m4, .ref m5, .ref m6, .ref m7, .ref m8, .long sp2, .ref m9, .ref m10, .ref m11, .long ((31 * xh) + 1)], aI G m0 220 nw, aJ G m3 73 k3, aJ G m4 72 k4, aJ G m5 72 k5, aI G m6 72 k6, aJ G m7 72 k7, aJ G m8 12 k8, aJ G m9 72 k9, aJ G m10 72 k10, aJ G m11 72 k11]) [10, 0, 1, 2, 3, 4, 5, 6, 7, 8, 9] rfl rfl ?_
          refine J_iload_n F 0 (dcq dc_X4_digest_0 42 rfl) rfl rfl ?_
          refine J_if_eq F 196 (dcq dc_X4_digest_0 43 rfl) (by decide) (fun h_3 => absurd h_3 (by decide)) (fun _ => ?_)
          refine J_aload_n F 1 (dcq dc_X4_digest_0 44 rfl) rfl rfl ?_
          refine J_aload_n F 1 (dcq dc_X4_digest_0 45 rfl) rfl rfl ?_
          refine J_get F fcX4 0 11 rfl (Nat.le_of_ble_eq_true rfl) tw_3_234 rfl rfl (dcq dc_X4_digest_0 46 rfl) ?_
          refine J_callV F (wc := [oB 4 qm [.ref m0, .ref m1, .int (nI hc), .int (nI 0), .ref m2, .ref m3, .ref m4, .ref m5, .ref m6, .ref m7, .ref m8, .long sp2, .ref m9, .ref m10, .ref m11, .long ((31 * xh) + 1)]]) (wr := [aI G m0 220 nw, aJ G m3 73 k3, aJ G m4 72 k4, aJ G m5 72 k5, aI G m6 72 k6, aJ G m7 72 k7, aJ G m8 12 k8, aJ G m9 72 k9, aJ G m10 72 k10, aJ G m11 72 k11]) (rest := []) (qc := 0) (c_X4_mix l hl G qm m0 m1 m2 m3 m4 m5 m6 m7 m8 m9 m10 m11 hc 0 sp2 ((31 * xh) + 1) sp2) cd_X4_mix cv_X4_mix rfl rfl rfl tw_5_73 [0] [1, 2, 3, 4, 5, 6, 7, 8, 9, 10] rfl rfl rfl rfl (by decide) rfl ⟨(Nat.le_of_ble_eq_true rfl), (Nat.le_of_ble_eq_true rfl), (Nat.le_of_ble_eq_true rfl), (Nat.le_of_ble_eq_true rfl)⟩ (Nat.le_of_ble_eq_true rfl) rfl (dcq dc_X4_digest_0 47 rfl) ?_
          rintro _ _ ⟨rfl, rfl⟩
          change J p l e (cRm 5 107 0 0) s m args below meth c G A 3 (JQ below G A (po_X4_digest G qm m0 m1 m2 m3 m4 m5 m6 m7 m8 m9 m10 m11 hc rf sp ha nw P M R n v g d s3 e4 e5 e7 e8 e9 e10 e11 e6) args s 0 0) 0 0 84 [(1, .int (nI 1)), (0, .ref qm)] [] [aI G m0 220 nw, aJ G m3 73 k3, aJ G m4 72 k4, aJ G m5 72 k5, aI G m6 72 k6, aJ G m7 72 k7, aJ G m8 12 k8, aJ G m9 72 k9, aJ G m10 72 k10, aJ G m11 72 k11, oB 4 qm [.ref m0, .ref m1, .int (nI hc), .int (nI 0), .ref m2, .ref m3, .ref m4, .ref m5, .ref m6, .ref m7, .ref m8, .long sp2, .ref m9, .ref m10, .ref m11, .long ((31 * ((31 * xh) + 1)) + sp2)]]
          refine J_world (ws2 := [oB 4 qm [.ref m0, .ref m1, .int (nI hc), .int (nI 0), .ref m2, .ref m3, .ref m4, .ref m5, .ref m6, .ref m7, .ref m8, .long sp2, .ref m9, .ref m10, .ref m11, .long ((31 * ((31 * xh) + 1)) + sp2)], aI G m0 220 nw, aJ G m3 73 k3, aJ G m4 72 k4, aJ G m5 72 k5, aI G m6 72 k6, aJ G m7 72 k7, aJ G m8 12 k8, aJ G m9 72 k9, aJ G m10 72 k10, aJ G m11 72 k11]) [10, 0, 1, 2, 3, 4, 5, 6, 7, 8, 9] rfl rfl ?_
          refine J_iconst F (dcq dc_X4_digest_1 0 rfl) ic_0 ?_
          refine J_istore_n F (lv2 := [(2, .int (nI 0)), (1, .int (nI 1)), (0, .ref qm)]) (dcq dc_X4_digest_1 1 rfl) rfl (Nat.le_of_ble_eq_true rfl) rfl ?_
          have L86 : ∀ (fu86 : Nat), ∀ (k : Nat) (yh : Int64), (k ≤ P) → (yh = hf k8 0 (hx (hx (dge v g d (dg0 hc P M R n) n) 1) sp2) k) → P - k < fu86 → J p l e (cRm 5 107 0 0) s m args below meth c G A 3 (JQ below G A (po_X4_digest G qm m0 m1 m2 m3 m4 m5 m6 m7 m8 m9 m10 m11 hc rf sp ha nw P M R n v g d s3 e4 e5 e7 e8 e9 e10 e11 e6) args s 0 0) 0 0 86 [(0, .ref qm), (1, .int (nI 1)), (2, .int (nI k))] [] [oB 4 qm [.ref m0, .ref m1, .int (nI hc), .int (nI 0), .ref m2, .ref m3, .ref m4, .ref m5, .ref m6, .ref m7, .ref m8, .long sp2, .ref m9, .ref m10, .ref m11, .long yh], aI G m0 220 nw, aJ G m3 73 k3, aJ G m4 72 k4, aJ G m5 72 k5, aI G m6 72 k6, aJ G m7 72 k7, aJ G m8 12 k8, aJ G m9 72 k9, aJ G m10 72 k10, aJ G m11 72 k11] := by
            intro fu86
            induction fu86 with
            | zero => intro k yh hk2 iy hm86; exact absurd hm86 (Nat.not_lt_zero _)
            | succ fu86 ih86 =>
              intro k yh hk2 iy hm86
              refine J_iload_n F 2 (dcq dc_X4_digest_1 2 rfl) rfl rfl ?_
              refine J_aload_n F 0 (dcq dc_X4_digest_1 3 rfl) rfl rfl ?_
              refine J_get F fcX4 0 0 rfl (Nat.le_of_ble_eq_true rfl) tw_3_223 rfl rfl (dcq dc_X4_digest_1 4 rfl) ?_
              refine J_iconst F (dcq dc_X4_digest_1 5 rfl) ic_0 ?_
              refine J_iald F 1 rfl (by omega) (Nat.le_of_ble_eq_true rfl) (dcq dc_X4_digest_1 6 rfl) ?_
              refine J_cast rfl (st2 := [.int (nI P), .int (nI k)]) (by rw [hRM.1]) rfl ?_
              refine J_ncmp_ge F 112 (by omega) (by omega) (dcq dc_X4_digest_1 7 rfl) (by decide) (fun h_4 => ?_) (fun h_4 => ?_)
              · skip
                refine J_aload_n F 0 (dcq dc_X4_digest_1 16 rfl) rfl rfl ?_
                refine J_aload_n F 0 (dcq dc_X4_digest_1 17 rfl) rfl rfl ?_
                refine J_callV F (wc := [oB 4 qm [.ref m0, .ref m1, .int (nI hc), .int (nI 0), .ref m2, .ref m3, .ref m4, .ref m5, .ref m6, .ref m7, .ref m8, .long sp2, .ref m9, .ref m10, .ref m11, .long yh], aI G m0 220 nw, aI G m6 72 k6]) (wr := [aJ G m3 73 k3, aJ G m4 72 k4, aJ G m5 72 k5, aJ G m7 72 k7, aJ G m8 12 k8, aJ G m9 72 k9, aJ G m10 72 k10, aJ G m11 72 k11]) (rest := [.ref qm]) (qc := 0) (c_X4_outs l hl G qm m0 m1 m2 m3 m4 m5 m6 m7 m8 m9 m10 m11 hc 0 sp2 yh nw P M R n v g d k6 (wR P M R n v) (by first | assumption | omega) (by first | assumption | omega) (by first | assumption | omega) (by first | assumption | omega) (by first | assumption | omega) (q6)) cd_X4_outs cv_X4_outs rfl rfl rfl tw_5_15 [0, 1, 5] [2, 3, 4, 6, 7, 8, 9, 10] rfl rfl rfl rfl (by decide) rfl ⟨(Nat.le_of_ble_eq_true rfl), (Nat.le_of_ble_eq_true rfl), (Nat.le_of_ble_eq_true rfl), (Nat.le_of_ble_eq_true rfl)⟩ (Nat.le_of_ble_eq_true rfl) rfl (dcq dc_X4_digest_1 18 rfl) ?_
                rintro _ _ ⟨ro, rfl, rfl, hro⟩
                change J p l e (cRm 5 107 0 0) s m args below meth c G A 3 (JQ below G A (po_X4_digest G qm m0 m1 m2 m3 m4 m5 m6 m7 m8 m9 m10 m11 hc rf sp ha nw P M R n v g d s3 e4 e5 e7 e8 e9 e10 e11 e6) args s 0 0) 0 0 117 [(0, .ref qm), (1, .int (nI 1)), (2, .int (nI k))] [.int (nI ro), .ref qm] [aJ G m3 73 k3, aJ G m4 72 k4, aJ G m5 72 k5, aJ G m7 72 k7, aJ G m8 12 k8, aJ G m9 72 k9, aJ G m10 72 k10, aJ G m11 72 k11, oB 4 qm [.ref m0, .ref m1, .int (nI hc), .int (nI 0), .ref m2, .ref m3, .ref m4, .ref m5, .ref m6, .ref m7, .ref m8, .long sp2, .ref m9, .ref m10, .ref m11, .long yh], aI G m0 220 nw, aI G m6 72 k6]
                have hro : ro = osum (wR P M R n v) (fun _ => 1) (P / 2) (n - 2 * (P / 2)) := hro
                refine J_world (ws2 := [oB 4 qm [.ref m0, .ref m1, .int (nI hc), .int (nI 0), .ref m2, .ref m3, .ref m4, .ref m5, .ref m6, .ref m7, .ref m8, .long sp2, .ref m9, .ref m10, .ref m11, .long yh], aI G m0 220 nw, aJ G m3 73 k3, aJ G m4 72 k4, aJ G m5 72 k5, aI G m6 72 k6, aJ G m7 72 k7, aJ G m8 12 k8, aJ G m9 72 k9, aJ G m10 72 k10, aJ G m11 72 k11]) [8, 9, 0, 1, 2, 10, 3, 4, 5, 6, 7] rfl rfl ?_
                have hol := osum_le (wR P M R n v) (P / 2) (n - 2 * (P / 2))
                refine J_i2l F (v := lN ro) (dcq dc_X4_digest_1 19 rfl) (nI_l (by omega)) ?_
                refine J_callV F (wc := [oB 4 qm [.ref m0, .ref m1, .int (nI hc), .int (nI 0), .ref m2, .ref m3, .ref m4, .ref m5, .ref m6, .ref m7, .ref m8, .long sp2, .ref m9, .ref m10, .ref m11, .long yh]]) (wr := [aI G m0 220 nw, aJ G m3 73 k3, aJ G m4 72 k4, aJ G m5 72 k5, aI G m6 72 k6, aJ G m7 72 k7, aJ G m8 12 k8, aJ G m9 72 k9, aJ G m10 72 k10, aJ G m11 72 k11]) (rest := []) (qc := 0) (c_X4_mix l hl G qm m0 m1 m2 m3 m4 m5 m6 m7 m8 m9 m10 m11 hc 0 sp2 yh (lN ro)) cd_X4_mix cv_X4_mix rfl rfl rfl tw_5_73 [0] [1, 2, 3, 4, 5, 6, 7, 8, 9, 10] rfl rfl rfl rfl (by decide) rfl ⟨(Nat.le_of_ble_eq_true rfl), (Nat.le_of_ble_eq_true rfl), (Nat.le_of_ble_eq_true rfl), (Nat.le_of_ble_eq_true rfl)⟩ (Nat.le_of_ble_eq_true rfl) rfl (dcq dc_X4_digest_1 20 rfl) ?_
                rintro _ _ ⟨rfl, rfl⟩
                change J p l e (cRm 5 107 0 0) s m args below meth c G A 3 (JQ below G A (po_X4_digest G qm m0 m1 m2 m3 m4 m5 m6 m7 m8 m9 m10 m11 hc rf sp ha nw P M R n v g d s3 e4 e5 e7 e8 e9 e10 e11 e6) args s 0 0) 0 0 121 [(0, .ref qm), (1, .int (nI 1)), (2, .int (nI k))] [] [aI G m0 220 nw, aJ G m3 73 k3, aJ G m4 72 k4, aJ G m5 72 k5, aI G m6 72 k6, aJ G m7 72 k7, aJ G m8 12 k8, aJ G m9 72 k9, aJ G m10 72 k10, aJ G m11 72 k11, oB 4 qm [.ref m0, .ref m1, .int (nI hc), .int (nI 0), .ref m2, .ref m3, .ref m4, .ref m5, .ref m6, .ref m7, .ref m8, .long sp2, .ref m9, .ref m10, .ref m11, .long ((31 * yh) + (lN ro))]]
                refine J_world (ws2 := [oB 4 qm [.ref m0, .ref m1, .int (nI hc), .int (nI 0), .ref m2, .ref m3, .ref m4, .ref m5, .ref m6, .ref m7, .ref m8, .long sp2, .ref m9, .ref m10, .ref m11, .long ((31 * yh) + (lN ro))], aI G m0 220 nw, aJ G m3 73 k3, aJ G m4 72 k4, aJ G m5 72 k5, aI G m6 72 k6, aJ G m7 72 k7, aJ G m8 12 k8, aJ G m9 72 k9, aJ G m10 72 k10, aJ G m11 72 k11]) [10, 0, 1, 2, 3, 4, 5, 6, 7, 8, 9] rfl rfl ?_
                refine J_aload_n F 0 (dcq dc_X4_digest_1 21 rfl) rfl rfl ?_
                refine J_callV F (wc := [oB 4 qm [.ref m0, .ref m1, .int (nI hc), .int (nI 0), .ref m2, .ref m3, .ref m4, .ref m5, .ref m6, .ref m7, .ref m8, .long sp2, .ref m9, .ref m10, .ref m11, .long ((31 * yh) + (lN ro))], aI G m0 220 nw]) (wr := [aJ G m3 73 k3, aJ G m4 72 k4, aJ G m5 72 k5, aI G m6 72 k6, aJ G m7 72 k7, aJ G m8 12 k8, aJ G m9 72 k9, aJ G m10 72 k10, aJ G m11 72 k11]) (rest := []) (qc := 0) (c_X4_half l hl G qm m0 m1 m2 m3 m4 m5 m6 m7 m8 m9 m10 m11 hc 0 sp2 ((31 * yh) + (lN ro)) nw P M R n v g d (by first | assumption | omega) (by first | assumption | omega)) cd_X4_half cv_X4_half rfl rfl rfl tw_4_160 [0, 1] [2, 3, 4, 5, 6, 7, 8, 9, 10] rfl rfl rfl rfl (by decide) rfl ⟨(Nat.le_of_ble_eq_true rfl), (Nat.le_of_ble_eq_true rfl), (Nat.le_of_ble_eq_true rfl), (Nat.le_of_ble_eq_true rfl)⟩ (Nat.le_of_ble_eq_true rfl) rfl (dcq dc_X4_digest_1 22 rfl) ?_
                rintro _ _ ⟨rfl, rfl⟩
                change J p l e (cRm 5 107 0 0) s m args below meth c G A 3 (JQ below G A (po_X4_digest G qm m0 m1 m2 m3 m4 m5 m6 m7 m8 m9 m10 m11 hc rf sp ha nw P M R n v g d s3 e4 e5 e7 e8 e9 e10 e11 e6) args s 0 0) 0 0 125 [(0, .ref qm), (1, .int (nI 1)), (2, .int (nI k))] [.int (nI (P / 2))] [aJ G m3 73 k3, aJ G m4 72 k4, aJ G m5 72 k5, aI G m6 72 k6, aJ G m7 72 k7, aJ G m8 12 k8, aJ G m9 72 k9, aJ G m10 72 k10, aJ G m11 72 k11, oB 4 qm [.ref m0, .ref m1, .int (nI hc), .int (nI 0), .ref m2, .ref m3, .ref m4, .ref m5, .ref m6, .ref m7, .ref m8, .long sp2, .ref m9, .ref m10, .ref m11, .long ((31 * yh) + (lN ro))], aI G m0 220 nw]
                refine J_world (ws2 := [oB 4 qm [.ref m0, .ref m1, .int (nI hc), .int (nI 0), .ref m2, .ref m3, .ref m4, .ref m5, .ref m6, .ref m7, .ref m8, .long sp2, .ref m9, .ref m10, .ref m11, .long ((31 * yh) + (lN ro))], aI G m0 220 nw, aJ G m3 73 k3, aJ G m4 72 k4, aJ G m5 72 k5, aI G m6 72 k6, aJ G m7 72 k7, aJ G m8 12 k8, aJ G m9 72 k9, aJ G m10 72 k10, aJ G m11 72 k11]) [9, 10, 0, 1, 2, 3, 4, 5, 6, 7, 8] rfl rfl ?_
                refine J_istore_n F (lv2 := [(2, .int (nI (P / 2))), (0, .ref qm), (1, .int (nI 1))]) (dcq dc_X4_digest_1 23 rfl) rfl (Nat.le_of_ble_eq_true rfl) rfl ?_
                have L126 : ∀ (fu126 : Nat), ∀ (t : Nat) (zh : Int64), (P / 2 ≤ t) → (t ≤ n - P / 2) → (zh = hf (xv k6) (P / 2) (hx (hf k8 0 (hx (hx (dge v g d (dg0 hc P M R n) n) 1) sp2) P) (lN ro)) (t - P / 2)) → n - P / 2 - t < fu126 → J p l e (cRm 5 107 0 0) s m args below meth c G A 3 (JQ below G A (po_X4_digest G qm m0 m1 m2 m3 m4 m5 m6 m7 m8 m9 m10 m11 hc rf sp ha nw P M R n v g d s3 e4 e5 e7 e8 e9 e10 e11 e6) args s 0 0) 0 0 126 [(0, .ref qm), (1, .int (nI 1)), (2, .int (nI t))] [] [oB 4 qm [.ref m0, .ref m1, .int (nI hc), .int (nI 0), .ref m2, .ref m3, .ref m4, .ref m5, .ref m6, .ref m7, .ref m8, .long sp2, .ref m9, .ref m10, .ref m11, .long zh], aI G m0 220 nw, aJ G m3 73 k3, aJ G m4 72 k4, aJ G m5 72 k5, aI G m6 72 k6, aJ G m7 72 k7, aJ G m8 12 k8, aJ G m9 72 k9, aJ G m10 72 k10, aJ G m11 72 k11] := by
                  intro fu126
                  induction fu126 with
                  | zero => intro t zh ht1 ht2 iz hm126; exact absurd hm126 (Nat.not_lt_zero _)
                  | succ fu126 ih126 =>
                    intro t zh ht1 ht2 iz hm126
                    refine J_iload_n F 2 (dcq dc_X4_digest_1 24 rfl) rfl rfl ?_
                    refine J_aload_n F 0 (dcq dc_X4_digest_1 25 rfl) rfl rfl ?_
                    refine J_get F fcX4 0 0 rfl (Nat.le_of_ble_eq_true rfl) tw_3_223 rfl rfl (dcq dc_X4_digest_1 26 rfl) ?_
                    refine J_iconst F (dcq dc_X4_digest_1 27 rfl) ic_3 ?_
                    refine J_iald F 1 rfl (by omega) (Nat.le_of_ble_eq_true rfl) (dcq dc_X4_digest_1 28 rfl) ?_
                    refine J_cast rfl (st2 := [.int (nI n), .int (nI t)]) (by rw [hRM.2.2.2.1]) rfl ?_
                    refine J_aload_n F 0 (dcq dc_X4_digest_1 29 rfl) rfl rfl ?_
                    refine J_callV F (wc := [oB 4 qm [.ref m0, .ref m1, .int (nI hc), .int (nI 0), .ref m2, .ref m3, .ref m4, .ref m5, .ref m6, .ref m7, .ref m8, .long sp2, .ref m9, .ref m10, .ref m11, .long zh], aI G m0 220 nw]) (wr := [aJ G m3 73 k3, aJ G m4 72 k4, aJ G m5 72 k5, aI G m6 72 k6, aJ G m7 72 k7, aJ G m8 12 k8, aJ G m9 72 k9, aJ G m10 72 k10, aJ G m11 72 k11]) (rest := [.int (nI n), .int (nI t)]) (qc := 0) (c_X4_half l hl G qm m0 m1 m2 m3 m4 m5 m6 m7 m8 m9 m10 m11 hc 0 sp2 zh nw P M R n v g d (by first | assumption | omega) (by first | assumption | omega)) cd_X4_half cv_X4_half rfl rfl rfl tw_4_160 [0, 1] [2, 3, 4, 5, 6, 7, 8, 9, 10] rfl rfl rfl rfl (by decide) rfl ⟨(Nat.le_of_ble_eq_true rfl), (Nat.le_of_ble_eq_true rfl), (Nat.le_of_ble_eq_true rfl), (Nat.le_of_ble_eq_true rfl)⟩ (Nat.le_of_ble_eq_true rfl) rfl (dcq dc_X4_digest_1 30 rfl) ?_
                    rintro _ _ ⟨rfl, rfl⟩
                    change J p l e (cRm 5 107 0 0) s m args below meth c G A 3 (JQ below G A (po_X4_digest G qm m0 m1 m2 m3 m4 m5 m6 m7 m8 m9 m10 m11 hc rf sp ha nw P M R n v g d s3 e4 e5 e7 e8 e9 e10 e11 e6) args s 0 0) 0 0 137 [(0, .ref qm), (1, .int (nI 1)), (2, .int (nI t))] [.int (nI (P / 2)), .int (nI n), .int (nI t)] [aJ G m3 73 k3, aJ G m4 72 k4, aJ G m5 72 k5, aI G m6 72 k6, aJ G m7 72 k7, aJ G m8 12 k8, aJ G m9 72 k9, aJ G m10 72 k10, aJ G m11 72 k11, oB 4 qm [.ref m0, .ref m1, .int (nI hc), .int (nI 0), .ref m2, .ref m3, .ref m4, .ref m5, .ref m6, .ref m7, .ref m8, .long sp2, .ref m9, .ref m10, .ref m11, .long zh], aI G m0 220 nw]
                    refine J_world (ws2 := [oB 4 qm [.ref m0, .ref m1, .int (nI hc), .int (nI 0), .ref m2, .ref m3, .ref m4, .ref m5, .ref m6, .ref m7, .ref m8, .long sp2, .ref m9, .ref m10, .ref m11, .long zh], aI G m0 220 nw, aJ G m3 73 k3, aJ G m4 72 k4, aJ G m5 72 k5, aI G m6 72 k6, aJ G m7 72 k7, aJ G m8 12 k8, aJ G m9 72 k9, aJ G m10 72 k10, aJ G m11 72 k11]) [9, 10, 0, 1, 2, 3, 4, 5, 6, 7, 8] rfl rfl ?_
                    refine J_isub F (v := nI (n - P / 2)) (dcq dc_X4_digest_1 31 rfl) (pk_sub (by omega)) ?_
                    refine J_ncmp_ge F 158 (by omega) (by omega) (dcq dc_X4_digest_1 32 rfl) (by decide) (fun h_5 => ?_) (fun h_5 => ?_)
                    · skip
                      refine J_iconst F (dcq dc_X4_digest_1 42 rfl) ic_0 ?_
                      refine J_istore_n F (lv2 := [(2, .int (nI 0)), (0, .ref qm), (1, .int (nI 1))]) (dcq dc_X4_digest_1 43 rfl) rfl (Nat.le_of_ble_eq_true rfl) rfl ?_
                      have L160 : ∀ (fu160 : Nat), ∀ (t2 : Nat) (uh : Int64), (t2 ≤ n) → (uh = hf2 k10 k11 (hf (xv k6) (P / 2) (hx (hf k8 0 (hx (hx (dge v g d (dg0 hc P M R n) n) 1) sp2) P) (lN ro)) (n - 2 * (P / 2))) t2) → n - t2 < fu160 → J p l e (cRm 5 107 0 0) s m args below meth c G A 3 (JQ below G A (po_X4_digest G qm m0 m1 m2 m3 m4 m5 m6 m7 m8 m9 m10 m11 hc rf sp ha nw P M R n v g d s3 e4 e5 e7 e8 e9 e10 e11 e6) args s 0 0) 0 0 160 [(0, .ref qm), (1, .int (nI 1)), (2, .int (nI t2))] [] [oB 4 qm [.ref m0, .ref m1, .int (nI hc), .int (nI 0), .ref m2, .ref m3, .ref m4, .ref m5, .ref m6, .ref m7, .ref m8, .long sp2, .ref m9, .ref m10, .ref m11, .long uh], aI G m0 220 nw, aJ G m3 73 k3, aJ G m4 72 k4, aJ G m5 72 k5, aI G m6 72 k6, aJ G m7 72 k7, aJ G m8 12 k8, aJ G m9 72 k9, aJ G m10 72 k10, aJ G m11 72 k11] := by
                        intro fu160
                        induction fu160 with
                        | zero => intro t2 uh hu2 iu hm160; exact absurd hm160 (Nat.not_lt_zero _)
                        | succ fu160 ih160 =>
                          intro t2 uh hu2 iu hm160
                          refine J_iload_n F 2 (dcq dc_X4_digest_1 44 rfl) rfl rfl ?_
                          refine J_aload_n F 0 (dcq dc_X4_digest_1 45 rfl) rfl rfl ?_
                          refine J_get F fcX4 0 0 rfl (Nat.le_of_ble_eq_true rfl) tw_3_223 rfl rfl (dcq dc_X4_digest_1 46 rfl) ?_
                          refine J_iconst F (dcq dc_X4_digest_1 47 rfl) ic_3 ?_
                          refine J_iald F 1 rfl (by omega) (Nat.le_of_ble_eq_true rfl) (dcq dc_X4_digest_2 0 rfl) ?_
                          refine J_cast rfl (st2 := [.int (nI n), .int (nI t2)]) (by rw [hRM.2.2.2.1]) rfl ?_
                          refine J_ncmp_ge F 196 (by omega) (by omega) (dcq dc_X4_digest_2 1 rfl) (by decide) (fun h_6 => ?_) (fun h_6 => ?_)
                          · skip
                            refine J_aload_n F 0 (dcq dc_X4_digest_2 16 rfl) rfl rfl ?_
                            refine J_get F fcX4 0 15 rfl (Nat.le_of_ble_eq_true rfl) tw_3_238 rfl rfl (dcq dc_X4_digest_2 17 rfl) ?_
                            exact J_lret F (Or.inl ⟨sp2, k3, k4, k5, k6, k7, k8, k9, k10, k11, uh, rfl, rfl, hd, hmp, by rw [iu, show t2 = n by omega, hro, qsp]; exact ahs_congr (P := P) (n := n) (fr := P / 2) (oc := osum (wR P M R n v) (fun _ => 1) (P / 2) (n - 2 * (P / 2))) (h0 := hx (dge v g d (dg0 hc P M R n) n) 1) q8 q6 q10 q11⟩) (Nat.le_of_ble_eq_true rfl) (Nat.le_of_ble_eq_true rfl) (dcq dc_X4_digest_2 18 rfl)
                          · skip
                            refine J_aload_n F 0 (dcq dc_X4_digest_2 2 rfl) rfl rfl ?_
                            refine J_aload_n F 0 (dcq dc_X4_digest_2 3 rfl) rfl rfl ?_
                            refine J_get F fcX4 0 13 rfl (Nat.le_of_ble_eq_true rfl) tw_3_236 rfl rfl (dcq dc_X4_digest_2 4 rfl) ?_
                            refine J_iload_n F 2 (dcq dc_X4_digest_2 5 rfl) rfl rfl ?_
                            refine J_lald F 9 rfl (by omega) (Nat.le_of_ble_eq_true rfl) (dcq dc_X4_digest_2 6 rfl) ?_
                            refine J_callV F (wc := [oB 4 qm [.ref m0, .ref m1, .int (nI hc), .int (nI 0), .ref m2, .ref m3, .ref m4, .ref m5, .ref m6, .ref m7, .ref m8, .long sp2, .ref m9, .ref m10, .ref m11, .long uh]]) (wr := [aI G m0 220 nw, aJ G m3 73 k3, aJ G m4 72 k4, aJ G m5 72 k5, aI G m6 72 k6, aJ G m7 72 k7, aJ G m8 12 k8, aJ G m9 72 k9, aJ G m10 72 k10, aJ G m11 72 k11]) (rest := []) (qc := 0) (c_X4_mix l hl G qm m0 m1 m2 m3 m4 m5 m6 m7 m8 m9 m10 m11 hc 0 sp2 uh (k10 t2)) cd_X4_mix cv_X4_mix rfl rfl rfl tw_5_73 [0] [1, 2, 3, 4, 5, 6, 7, 8, 9, 10] rfl rfl rfl rfl (by decide) rfl ⟨(Nat.le_of_ble_eq_true rfl), (Nat.le_of_ble_eq_true rfl), (Nat.le_of_ble_eq_true rfl), (Nat.le_of_ble_eq_true rfl)⟩ (Nat.le_of_ble_eq_true rfl) rfl (dcq dc_X4_digest_2 7 rfl) ?_
                            rintro _ _ ⟨rfl, rfl⟩
                            change J p l e (cRm 5 107 0 0) s m args below meth c G A 3 (JQ below G A (po_X4_digest G qm m0 m1 m2 m3 m4 m5 m6 m7 m8 m9 m10 m11 hc rf sp ha nw P M R n v g d s3 e4 e5 e7 e8 e9 e10 e11 e6) args s 0 0) 0 0 180 [(0, .ref qm), (1, .int (nI 1)), (2, .int (nI t2))] [] [aI G m0 220 nw, aJ G m3 73 k3, aJ G m4 72 k4, aJ G m5 72 k5, aI G m6 72 k6, aJ G m7 72 k7, aJ G m8 12 k8, aJ G m9 72 k9, aJ G m10 72 k10, aJ G m11 72 k11, oB 4 qm [.ref m0, .ref m1, .int (nI hc), .int (nI 0), .ref m2, .ref m3, .ref m4, .ref m5, .ref m6, .ref m7, .ref m8, .long sp2, .ref m9, .ref m10, .ref m11, .long ((31 * uh) + (k10 t2))]]
                            refine J_world (ws2 := [oB 4 qm [.ref m0, .ref m1, .int (nI hc), .int (nI 0), .ref m2, .ref m3, .ref m4, .ref m5, .ref m6, .ref m7, .ref m8, .long sp2, .ref m9, .ref m10, .ref m11, .long ((31 * uh) + (k10 t2))], aI G m0 220 nw, aJ G m3 73 k3, aJ G m4 72 k4, aJ G m5 72 k5, aI G m6 72 k6, aJ G m7 72 k7, aJ G m8 12 k8, aJ G m9 72 k9, aJ G m10 72 k10, aJ G m11 72 k11]) [10, 0, 1, 2, 3, 4, 5, 6, 7, 8, 9] rfl rfl ?_
                            refine J_aload_n F 0 (dcq dc_X4_digest_2 8 rfl) rfl rfl ?_
                            refine J_aload_n F 0 (dcq dc_X4_digest_2 9 rfl) rfl rfl ?_
                            refine J_get F fcX4 0 14 rfl (Nat.le_of_ble_eq_true rfl) tw_3_237 rfl rfl (dcq dc_X4_digest_2 10 rfl) ?_
                            refine J_iload_n F 2 (dcq dc_X4_digest_2 11 rfl) rfl rfl ?_
                            refine J_lald F 10 rfl (by omega) (Nat.le_of_ble_eq_true rfl) (dcq dc_X4_digest_2 12 rfl) ?_
                            refine J_callV F (wc := [oB 4 qm [.ref m0, .ref m1, .int (nI hc), .int (nI 0), .ref m2, .ref m3, .ref m4, .ref m5, .ref m6, .ref m7, .ref m8, .long sp2, .ref m9, .ref m10, .ref m11, .long ((31 * uh) + (k10 t2))]]) (wr := [aI G m0 220 nw, aJ G m3 73 k3, aJ G m4 72 k4, aJ G m5 72 k5, aI G m6 72 k6, aJ G m7 72 k7, aJ G m8 12 k8, aJ G m9 72 k9, aJ G m10 72 k10, aJ G m11 72 k11]) (rest := []) (qc := 0) (c_X4_mix l hl G qm m0 m1 m2 m3 m4 m5 m6 m7 m8 m9 m10 m11 hc 0 sp2 ((31 * uh) + (k10 t2)) (k11 t2)) cd_X4_mix cv_X4_mix rfl rfl rfl tw_5_73 [0] [1, 2, 3, 4, 5, 6, 7, 8, 9, 10] rfl rfl rfl rfl (by decide) rfl ⟨(Nat.le_of_ble_eq_true rfl), (Nat.le_of_ble_eq_true rfl), (Nat.le_of_ble_eq_true rfl), (Nat.le_of_ble_eq_true rfl)⟩ (Nat.le_of_ble_eq_true rfl) rfl (dcq dc_X4_digest_2 13 rfl) ?_
                            rintro _ _ ⟨rfl, rfl⟩
                            change J p l e (cRm 5 107 0 0) s m args below meth c G A 3 (JQ below G A (po_X4_digest G qm m0 m1 m2 m3 m4 m5 m6 m7 m8 m9 m10 m11 hc rf sp ha nw P M R n v g d s3 e4 e5 e7 e8 e9 e10 e11 e6) args s 0 0) 0 0 190 [(0, .ref qm), (1, .int (nI 1)), (2, .int (nI t2))] [] [aI G m0 220 nw, aJ G m3 73 k3, aJ G m4 72 k4, aJ G m5 72 k5, aI G m6 72 k6, aJ G m7 72 k7, aJ G m8 12 k8, aJ G m9 72 k9, aJ G m10 72 k10, aJ G m11 72 k11, oB 4 qm [.ref m0, .ref m1, .int (nI hc), .int (nI 0), .ref m2, .ref m3, .ref m4, .ref m5, .ref m6, .ref m7, .ref m8, .long sp2, .ref m9, .ref m10, .ref m11, .long ((31 * ((31 * uh) + (k10 t2))) + (k11 t2))]]
                            refine J_world (ws2 := [oB 4 qm [.ref m0, .ref m1, .int (nI hc), .int (nI 0), .ref m2, .ref m3, .ref m4, .ref m5, .ref m6, .ref m7, .ref m8, .long sp2, .ref m9, .ref m10, .ref m11, .long ((31 * ((31 * uh) + (k10 t2))) + (k11 t2))], aI G m0 220 nw, aJ G m3 73 k3, aJ G m4 72 k4, aJ G m5 72 k5, aI G m6 72 k6, aJ G m7 72 k7, aJ G m8 12 k8, aJ G m9 72 k9, aJ G m10 72 k10, aJ G m11 72 k11]) [10, 0, 1, 2, 3, 4, 5, 6, 7, 8, 9] rfl rfl ?_
                            refine J_iinc F (lv2 := [(2, .int (nI (t2 + 1))), (0, .ref qm), (1, .int (nI 1))]) (v := nI (t2 + 1)) 2 (dcq dc_X4_digest_2 14 rfl) rfl (nI_inc _) (Nat.le_of_ble_eq_true rfl) rfl ?_
                            refine J_goto F 160 (dcq dc_X4_digest_2 15 rfl) (by decide) ?_
                            refine J_locs [1, 2, 0] rfl ?_
                            exact ih160 (t2 + 1) ((31 * ((31 * uh) + (k10 t2))) + (k11 t2)) (by omega) (by simp only [hf2, hx]; rw [iu]; rfl) (by omega)
                      refine J_locs [1, 2, 0] rfl ?_
                      exact L160 (n - 0 + 1) 0 zh (by omega) (by rw [iz, show t - P / 2 = n - 2 * (P / 2) by omega]; rfl) (Nat.lt_succ_self _)
                    · skip
                      refine J_aload_n F 0 (dcq dc_X4_digest_1 33 rfl) rfl rfl ?_
                      refine J_aload_n F 0 (dcq dc_X4_digest_1 34 rfl) rfl rfl ?_
                      refine J_get F fcX4 0 8 rfl (Nat.le_of_ble_eq_true rfl) tw_3_231 rfl rfl (dcq dc_X4_digest_1 35 rfl) ?_
                      refine J_iload_n F 2 (dcq dc_X4_digest_1 36 rfl) rfl rfl ?_
                      refine J_iald F 5 rfl (by omega) (Nat.le_of_ble_eq_true rfl) (dcq dc_X4_digest_1 37 rfl) ?_
                      refine J_i2l F (v := (k6 t).toInt64) (dcq dc_X4_digest_1 38 rfl) rfl ?_
                      refine J_callV F (wc := [oB 4 qm [.ref m0, .ref m1, .int (nI hc), .int (nI 0), .ref m2, .ref m3, .ref m4, .ref m5, .ref m6, .ref m7, .ref m8, .long sp2, .ref m9, .ref m10, .ref m11, .long zh]]) (wr := [aI G m0 220 nw, aJ G m3 73 k3, aJ G m4 72 k4, aJ G m5 72 k5, aI G m6 72 k6, aJ G m7 72 k7, aJ G m8 12 k8, aJ G m9 72 k9, aJ G m10 72 k10, aJ G m11 72 k11]) (rest := []) (qc := 0) (c_X4_mix l hl G qm m0 m1 m2 m3 m4 m5 m6 m7 m8 m9 m10 m11 hc 0 sp2 zh ((k6 t).toInt64)) cd_X4_mix cv_X4_mix rfl rfl rfl tw_5_73 [0] [1, 2, 3, 4, 5, 6, 7, 8, 9, 10] rfl rfl rfl rfl (by decide) rfl ⟨(Nat.le_of_ble_eq_true rfl), (Nat.le_of_ble_eq_true rfl), (Nat.le_of_ble_eq_true rfl), (Nat.le_of_ble_eq_true rfl)⟩ (Nat.le_of_ble_eq_true rfl) rfl (dcq dc_X4_digest_1 39 rfl) ?_
                      rintro _ _ ⟨rfl, rfl⟩
                      change J p l e (cRm 5 107 0 0) s m args below meth c G A 3 (JQ below G A (po_X4_digest G qm m0 m1 m2 m3 m4 m5 m6 m7 m8 m9 m10 m11 hc rf sp ha nw P M R n v g d s3 e4 e5 e7 e8 e9 e10 e11 e6) args s 0 0) 0 0 152 [(0, .ref qm), (1, .int (nI 1)), (2, .int (nI t))] [] [aI G m0 220 nw, aJ G m3 73 k3, aJ G m4 72 k4, aJ G m5 72 k5, aI G m6 72 k6, aJ G m7 72 k7, aJ G m8 12 k8, aJ G m9 72 k9, aJ G m10 72 k10, aJ G m11 72 k11, oB 4 qm [.ref m0, .ref m1, .int (nI hc), .int (nI 0), .ref m2, .ref m3, .ref m4, .ref m5, .ref m6, .ref m7, .ref m8, .long sp2, .ref m9, .ref m10, .ref m11, .long ((31 * zh) + ((k6 t).toInt64))]]
                      refine J_world (ws2 := [oB 4 qm [.ref m0, .ref m1, .int (nI hc), .int (nI 0), .ref m2, .ref m3, .ref m4, .ref m5, .ref m6, .ref m7, .ref m8, .long sp2, .ref m9, .ref m10, .ref m11, .long ((31 * zh) + ((k6 t).toInt64))], aI G m0 220 nw, aJ G m3 73 k3, aJ G m4 72 k4, aJ G m5 72 k5, aI G m6 72 k6, aJ G m7 72 k7, aJ G m8 12 k8, aJ G m9 72 k9, aJ G m10 72 k10, aJ G m11 72 k11]) [10, 0, 1, 2, 3, 4, 5, 6, 7, 8, 9] rfl rfl ?_
                      refine J_iinc F (lv2 := [(2, .int (nI (t + 1))), (0, .ref qm), (1, .int (nI 1))]) (v := nI (t + 1)) 2 (dcq dc_X4_digest_1 40 rfl) rfl (nI_inc _) (Nat.le_of_ble_eq_true rfl) rfl ?_
                      refine J_goto F 126 (dcq dc_X4_digest_1 41 rfl) (by decide) ?_
                      refine J_locs [1, 2, 0] rfl ?_
                      exact ih126 (t + 1) ((31 * zh) + ((k6 t).toInt64)) (by omega) (by omega) (by rw [hf_step ht1, iz]; rfl) (by omega)
                refine J_locs [1, 2, 0] rfl ?_
                exact L126 (n - P / 2 - (P / 2) + 1) (P / 2) ((31 * yh) + (lN ro)) (by omega) (by omega) (by rw [Nat.sub_self, iy, show k = P by omega]; rfl) (Nat.lt_succ_self _)
              · skip
                refine J_aload_n F 0 (dcq dc_X4_digest_1 8 rfl) rfl rfl ?_
                refine J_aload_n F 0 (dcq dc_X4_digest_1 9 rfl) rfl rfl ?_
                refine J_get F fcX4 0 10 rfl (Nat.le_of_ble_eq_true rfl) tw_3_233 rfl rfl (dcq dc_X4_digest_1 10 rfl) ?_
                refine J_iload_n F 2 (dcq dc_X4_digest_1 11 rfl) rfl rfl ?_
                refine J_lald F 7 rfl (by omega) (Nat.le_of_ble_eq_true rfl) (dcq dc_X4_digest_1 12 rfl) ?_
                refine J_callV F (wc := [oB 4 qm [.ref m0, .ref m1, .int (nI hc), .int (nI 0), .ref m2, .ref m3, .ref m4, .ref m5, .ref m6, .ref m7, .ref m8, .long sp2, .ref m9, .ref m10, .ref m11, .long yh]]) (wr := [aI G m0 220 nw, aJ G m3 73 k3, aJ G m4 72 k4, aJ G m5 72 k5, aI G m6 72 k6, aJ G m7 72 k7, aJ G m8 12 k8, aJ G m9 72 k9, aJ G m10 72 k10, aJ G m11 72 k11]) (rest := []) (qc := 0) (c_X4_mix l hl G qm m0 m1 m2 m3 m4 m5 m6 m7 m8 m9 m10 m11 hc 0 sp2 yh (k8 k)) cd_X4_mix cv_X4_mix rfl rfl rfl tw_5_73 [0] [1, 2, 3, 4, 5, 6, 7, 8, 9, 10] rfl rfl rfl rfl (by decide) rfl ⟨(Nat.le_of_ble_eq_true rfl), (Nat.le_of_ble_eq_true rfl), (Nat.le_of_ble_eq_true rfl), (Nat.le_of_ble_eq_true rfl)⟩ (Nat.le_of_ble_eq_true rfl) rfl (dcq dc_X4_digest_1 13 rfl) ?_
                rintro _ _ ⟨rfl, rfl⟩
                change J p l e (cRm 5 107 0 0) s m args below meth c G A 3 (JQ below G A (po_X4_digest G qm m0 m1 m2 m3 m4 m5 m6 m7 m8 m9 m10 m11 hc rf sp ha nw P M R n v g d s3 e4 e5 e7 e8 e9 e10 e11 e6) args s 0 0) 0 0 106 [(0, .ref qm), (1, .int (nI 1)), (2, .int (nI k))] [] [aI G m0 220 nw, aJ G m3 73 k3, aJ G m4 72 k4, aJ G m5 72 k5, aI G m6 72 k6, aJ G m7 72 k7, aJ G m8 12 k8, aJ G m9 72 k9, aJ G m10 72 k10, aJ G m11 72 k11, oB 4 qm [.ref m0, .ref m1, .int (nI hc), .int (nI 0), .ref m2, .ref m3, .ref m4, .ref m5, .ref m6, .ref m7, .ref m8, .long sp2, .ref m9, .ref m10, .ref m11, .long ((31 * yh) + (k8 k))]]
                refine J_world (ws2 := [oB 4 qm [.ref m0, .ref m1, .int (nI hc), .int (nI 0), .ref m2, .ref m3, .ref m4, .ref m5, .ref m6, .ref m7, .ref m8, .long sp2, .ref m9, .ref m10, .ref m11, .long ((31 * yh) + (k8 k))], aI G m0 220 nw, aJ G m3 73 k3, aJ G m4 72 k4, aJ G m5 72 k5, aI G m6 72 k6, aJ G m7 72 k7, aJ G m8 12 k8, aJ G m9 72 k9, aJ G m10 72 k10, aJ G m11 72 k11]) [10, 0, 1, 2, 3, 4, 5, 6, 7, 8, 9] rfl rfl ?_
                refine J_iinc F (lv2 := [(2, .int (nI (k + 1))), (0, .ref qm), (1, .int (nI 1))]) (v := nI (k + 1)) 2 (dcq dc_X4_digest_1 14 rfl) rfl (nI_inc _) (Nat.le_of_ble_eq_true rfl) rfl ?_
                refine J_goto F 86 (dcq dc_X4_digest_1 15 rfl) (by decide) ?_
                refine J_locs [1, 2, 0] rfl ?_
                exact ih86 (k + 1) ((31 * yh) + (k8 k)) (by omega) (by simp only [hf, hx, Nat.zero_add]; rw [iy]; rfl) (by omega)
          refine J_locs [2, 1, 0] rfl ?_
          exact L86 (P - 0 + 1) 0 ((31 * ((31 * xh) + 1)) + sp2) (by omega) (by rw [ihh]; rfl) (Nat.lt_succ_self _)
        · skip
          have hnd : ¬ dcm P n g := hnd
          change J p l e (cRm 5 107 0 0) s m args below meth c G A 3 (JQ below G A (po_X4_digest G qm m0 m1 m2 m3 m4 m5 m6 m7 m8 m9 m10 m11 hc rf sp ha nw P M R n v g d s3 e4 e5 e7 e8 e9 e10 e11 e6) args s 0 0) 0 0 58 [(0, .ref qm), (1, .int (nI k))] [.int (nI 0)] [oB 4 qm [.ref m0, .ref m1, .int (nI hc), .int (nI 0), .ref m2, .ref m3, .ref m4, .ref m5, .ref m6, .ref m7, .ref m8, .long sp, .ref m9, .ref m10, .ref m11, .long xh], aI G m0 220 nw, aJ G m3 73 s3, aJ G m4 72 e4, aJ G m5 72 e5, aI G m6 72 e6, aJ G m7 72 e7, aJ G m8 12 e8, aJ G m9 72 e9, aJ G m10 72 e10, aJ G m11 72 e11]
          refine J_istore_n F (lv2 := [(1, .int (nI 0)), (0, .ref qm)]) (dcq dc_X4_digest_0 34 rfl) rfl (Nat.le_of_ble_eq_true rfl) rfl ?_
          refine J_aload_n F 1 (dcq dc_X4_digest_0 35 rfl) rfl rfl ?_
          refine J_iload_n F 0 (dcq dc_X4_digest_0 36 rfl) rfl rfl ?_
          refine J_if_eq F 68 (dcq dc_X4_digest_0 37 rfl) (by decide) (fun _ => ?_) (fun h_7 => absurd h_7 (by decide))
          refine J_lconst F (dcq dc_X4_digest_0 40 rfl) lc_0 ?_
          refine J_callV F (wc := [oB 4 qm [.ref m0, .ref m1, .int (nI hc), .int (nI 0), .ref m2, .ref m3, .ref m4, .ref m5, .ref m6, .ref m7, .ref m8, .long sp, .ref m9, .ref m10, .ref m11, .long xh]]) (wr := [aI G m0 220 nw, aJ G m3 73 s3, aJ G m4 72 e4, aJ G m5 72 e5, aI G m6 72 e6, aJ G m7 72 e7, aJ G m8 12 e8, aJ G m9 72 e9, aJ G m10 72 e10, aJ G m11 72 e11]) (rest := []) (qc := 0) (c_X4_mix l hl G qm m0 m1 m2 m3 m4 m5 m6 m7 m8 m9 m10 m11 hc 0 sp xh 0) cd_X4_mix cv_X4_mix rfl rfl rfl tw_5_73 [0] [1, 2, 3, 4, 5, 6, 7, 8, 9, 10] rfl rfl rfl rfl (by decide) rfl ⟨(Nat.le_of_ble_eq_true rfl), (Nat.le_of_ble_eq_true rfl), (Nat.le_of_ble_eq_true rfl), (Nat.le_of_ble_eq_true rfl)⟩ (Nat.le_of_ble_eq_true rfl) rfl (dcq dc_X4_digest_0 41 rfl) ?_
          rintro _ _ ⟨rfl, rfl⟩
          change J p l e (cRm 5 107 0 0) s m args below meth c G A 3 (JQ below G A (po_X4_digest G qm m0 m1 m2 m3 m4 m5 m6 m7 m8 m9 m10 m11 hc rf sp ha nw P M R n v g d s3 e4 e5 e7 e8 e9 e10 e11 e6) args s 0 0) 0 0 72 [(1, .int (nI 0)), (0, .ref qm)] [] [aI G m0 220 nw, aJ G m3 73 s3, aJ G m4 72 e4, aJ G m5 72 e5, aI G m6 72 e6, aJ G m7 72 e7, aJ G m8 12 e8, aJ G m9 72 e9, aJ G m10 72 e10, aJ G m11 72 e11, oB 4 qm [.ref m0, .ref m1, .int (nI hc), .int (nI 0), .ref m2, .ref m3, .ref m4, .ref m5, .ref m6, .ref m7, .ref m8, .long sp, .ref m9, .ref m10, .ref m11, .long ((31 * xh) + 0)]]
          refine J_world (ws2 := [oB 4 qm [.ref m0, .ref m1, .int (nI hc), .int (nI 0), .ref m2, .ref m3, .ref m4, .ref m5, .ref m6, .ref m7, .ref m8, .long sp, .ref m9, .ref m10, .ref m11, .long ((31 * xh) + 0)], aI G m0 220 nw, aJ G m3 73 s3, aJ G m4 72 e4, aJ G m5 72 e5, aI G m6 72 e6, aJ G m7 72 e7, aJ G m8 12 e8, aJ G m9 72 e9, aJ G m10 72 e10, aJ G m11 72 e11]) [10, 0, 1, 2, 3, 4, 5, 6, 7, 8, 9] rfl rfl ?_
          refine J_iload_n F 0 (dcq dc_X4_digest_0 42 rfl) rfl rfl ?_
          refine J_if_eq F 196 (dcq dc_X4_digest_0 43 rfl) (by decide) (fun _ => ?_) (fun h_8 => absurd h_8 (by decide))
          refine J_aload_n F 1 (dcq dc_X4_digest_2 16 rfl) rfl rfl ?_
          refine J_get F fcX4 0 15 rfl (Nat.le_of_ble_eq_true rfl) tw_3_238 rfl rfl (dcq dc_X4_digest_2 17 rfl) ?_
          exact J_lret F (Or.inr (⟨(31 * xh) + 0, rfl, rfl, hnd, by rw [ihh, Int64.add_zero]⟩)) (Nat.le_of_ble_eq_true rfl) (Nat.le_of_ble_eq_true rfl) (dcq dc_X4_digest_2 18 rfl)
      · skip
        refine J_aload_n F 0 (dcq dc_X4_digest_0 23 rfl) rfl rfl ?_
        refine J_aload_n F 0 (dcq dc_X4_digest_0 24 rfl) rfl rfl ?_
        refine J_get F fcX4 0 0 rfl (Nat.le_of_ble_eq_true rfl) tw_3_223 rfl rfl (dcq dc_X4_digest_0 25 rfl) ?_
        refine J_iload_n F 1 (dcq dc_X4_digest_0 26 rfl) rfl rfl ?_
        refine J_iald F 1 rfl (by omega) (Nat.le_of_ble_eq_true rfl) (dcq dc_X4_digest_0 27 rfl) ?_
        refine J_i2l F (v := (nw k).toInt64) (dcq dc_X4_digest_0 28 rfl) rfl ?_
        refine J_callV F (wc := [oB 4 qm [.ref m0, .ref m1, .int (nI hc), .int (nI 0), .ref m2, .ref m3, .ref m4, .ref m5, .ref m6, .ref m7, .ref m8, .long sp, .ref m9, .ref m10, .ref m11, .long xh]]) (wr := [aI G m0 220 nw, aJ G m3 73 s3, aJ G m4 72 e4, aJ G m5 72 e5, aI G m6 72 e6, aJ G m7 72 e7, aJ G m8 12 e8, aJ G m9 72 e9, aJ G m10 72 e10, aJ G m11 72 e11]) (rest := []) (qc := 0) (c_X4_mix l hl G qm m0 m1 m2 m3 m4 m5 m6 m7 m8 m9 m10 m11 hc 0 sp xh ((nw k).toInt64)) cd_X4_mix cv_X4_mix rfl rfl rfl tw_5_73 [0] [1, 2, 3, 4, 5, 6, 7, 8, 9, 10] rfl rfl rfl rfl (by decide) rfl ⟨(Nat.le_of_ble_eq_true rfl), (Nat.le_of_ble_eq_true rfl), (Nat.le_of_ble_eq_true rfl), (Nat.le_of_ble_eq_true rfl)⟩ (Nat.le_of_ble_eq_true rfl) rfl (dcq dc_X4_digest_0 29 rfl) ?_
        rintro _ _ ⟨rfl, rfl⟩
        change J p l e (cRm 5 107 0 0) s m args below meth c G A 3 (JQ below G A (po_X4_digest G qm m0 m1 m2 m3 m4 m5 m6 m7 m8 m9 m10 m11 hc rf sp ha nw P M R n v g d s3 e4 e5 e7 e8 e9 e10 e11 e6) args s 0 0) 0 0 48 [(0, .ref qm), (1, .int (nI k))] [] [aI G m0 220 nw, aJ G m3 73 s3, aJ G m4 72 e4, aJ G m5 72 e5, aI G m6 72 e6, aJ G m7 72 e7, aJ G m8 12 e8, aJ G m9 72 e9, aJ G m10 72 e10, aJ G m11 72 e11, oB 4 qm [.ref m0, .ref m1, .int (nI hc), .int (nI 0), .ref m2, .ref m3, .ref m4, .ref m5, .ref m6, .ref m7, .ref m8, .long sp, .ref m9, .ref m10, .ref m11, .long ((31 * xh) + ((nw k).toInt64))]]
        refine J_world (ws2 := [oB 4 qm [.ref m0, .ref m1, .int (nI hc), .int (nI 0), .ref m2, .ref m3, .ref m4, .ref m5, .ref m6, .ref m7, .ref m8, .long sp, .ref m9, .ref m10, .ref m11, .long ((31 * xh) + ((nw k).toInt64))], aI G m0 220 nw, aJ G m3 73 s3, aJ G m4 72 e4, aJ G m5 72 e5, aI G m6 72 e6, aJ G m7 72 e7, aJ G m8 12 e8, aJ G m9 72 e9, aJ G m10 72 e10, aJ G m11 72 e11]) [10, 0, 1, 2, 3, 4, 5, 6, 7, 8, 9] rfl rfl ?_
        refine J_iinc F (lv2 := [(1, .int (nI (k + 1))), (0, .ref qm)]) (v := nI (k + 1)) 1 (dcq dc_X4_digest_0 30 rfl) rfl (nI_inc _) (Nat.le_of_ble_eq_true rfl) rfl ?_
        refine J_goto F 23 (dcq dc_X4_digest_0 31 rfl) (by decide) ?_
        refine J_locs [1, 0] rfl ?_
        exact ih23 (k + 1) ((31 * xh) + ((nw k).toInt64)) (by omega) (by simp only [hf, hx, Nat.zero_add]; rw [ih]; rfl) (by omega)
  refine J_locs [1, 0] rfl ?_
  exact L23 (4 + 3 * n - 0 + 1) 0 ((31 * 11981) + (lN hc)) (by omega) (rfl) (Nat.lt_succ_self _)

abbrev po_X4_init (G : Gt) (qm : Nat) : Option Value → va_W → Prop := fun (v9 : Option Value) (w9 : va_W) => ∃ (m0 m1 m2 m3 m4 m5 m6 m7 m8 m9 m10 m11 : Nat), ∃ (nw : Nat → Int32), v9 = none ∧ w9 = [oB 4 qm [.ref m0, .ref m1, .int (nI 0), .int (nI 0), .ref m2, .ref m3, .ref m4, .ref m5, .ref m6, .ref m7, .ref m8, .long 0, .ref m9, .ref m10, .ref m11, .long 0], aI G m0 220 nw, aI G m1 880 (fun _ => 0), aI G m2 72 (fun _ => 0), aJ G m3 73 (fun _ => 0), aJ G m4 72 (fun _ => 0), aJ G m5 72 (fun _ => 0), aI G m6 72 (fun _ => 0), aJ G m7 72 (fun _ => 0), aJ G m8 12 (fun _ => 0), aJ G m9 72 (fun _ => 0), aJ G m10 72 (fun _ => 0), aJ G m11 72 (fun _ => 0)] ∧ (RM nw 4 0 2 0 (fun _ => 0) (fun _ => 0) (fun _ => 0))
set_option maxHeartbeats 4000000 in
set_option maxRecDepth 100000 in
theorem c_X4_init (l : Launch) (hl : l.stackTraces = false) (G : Gt) (qm : Nat) : Con l G yX4_init cX4_init 1 none 1 20 12 1761 [.ref qm] [oB 4 qm [.null, .null, .int 0, .int 0, .null, .null, .null, .null, .null, .null, .null, .long 0, .null, .null, .null, .long 0]] (po_X4_init G qm) := by
  refine Con.of hl cd_X4_init (Nat.le_of_ble_eq_true rfl) ?_
  intro p e s m args below meth c A F hin9
  change Fx p l s m args meth c G A "SeasonalAdjusterModel" cX4_init 1 none at F
  change J p l e (cRm 1 20 12 1761) s m args below meth c G A 1 (JQ below G A (po_X4_init G qm) args s 12 1761) 0 0 0 [(0, .ref qm)] [] [oB 4 qm [.null, .null, .int 0, .int 0, .null, .null, .null, .null, .null, .null, .null, .long 0, .null, .null, .null, .long 0]]
  refine J_aload_n F 0 (dcq dc_X4_init_0 0 rfl) rfl rfl ?_
  refine J_objInit F tw_3_222 tw_1_19 tw_objinit ⟨(Nat.le_of_ble_eq_true rfl), (Nat.le_of_ble_eq_true rfl)⟩ (dcq dc_X4_init_0 1 rfl) ?_
  refine J_aload_n F 0 (dcq dc_X4_init_0 2 rfl) rfl rfl ?_
  refine J_sipush F (dcq dc_X4_init_0 3 rfl) sc_220 ?_
  refine J_newI F tw_1_61 (Nat.le_of_ble_eq_true rfl) (Nat.le_of_ble_eq_true rfl) (Nat.le_of_ble_eq_true rfl) (dcq dc_X4_init_0 4 rfl) (fun m0 => ?_)
  refine J_cast (ws2 := [oB 4 qm [.null, .null, .int 0, .int 0, .null, .null, .null, .null, .null, .null, .null, .long 0, .null, .null, .null, .long 0], aI G m0 220 (fun _ => 0)]) rfl rfl rfl ?_
  refine J_putF F (ws2 := [oB 4 qm [.ref m0, .null, .int 0, .int 0, .null, .null, .null, .null, .null, .null, .null, .long 0, .null, .null, .null, .long 0], aI G m0 220 (fun _ => 0)]) fcX4 hin9 0 0 rfl (Nat.le_of_ble_eq_true rfl) tw_3_223 rfl rfl rfl rfl rfl (Nat.le_of_ble_eq_true rfl) rfl (dcq dc_X4_init_0 5 rfl) ?_
  refine J_aload_n F 0 (dcq dc_X4_init_0 6 rfl) rfl rfl ?_
  refine J_sipush F (dcq dc_X4_init_0 7 rfl) sc_880 ?_
  refine J_newI F tw_1_61 (Nat.le_of_ble_eq_true rfl) (Nat.le_of_ble_eq_true rfl) (Nat.le_of_ble_eq_true rfl) (dcq dc_X4_init_0 8 rfl) (fun m1 => ?_)
  refine J_cast (ws2 := [oB 4 qm [.ref m0, .null, .int 0, .int 0, .null, .null, .null, .null, .null, .null, .null, .long 0, .null, .null, .null, .long 0], aI G m0 220 (fun _ => 0), aI G m1 880 (fun _ => 0)]) rfl rfl rfl ?_
  refine J_putF F (ws2 := [oB 4 qm [.ref m0, .ref m1, .int 0, .int 0, .null, .null, .null, .null, .null, .null, .null, .long 0, .null, .null, .null, .long 0], aI G m0 220 (fun _ => 0), aI G m1 880 (fun _ => 0)]) fcX4 hin9 0 1 rfl (Nat.le_of_ble_eq_true rfl) tw_3_224 rfl rfl rfl rfl rfl (Nat.le_of_ble_eq_true rfl) rfl (dcq dc_X4_init_0 9 rfl) ?_
  refine J_aload_n F 0 (dcq dc_X4_init_0 10 rfl) rfl rfl ?_
  refine J_bipush F (dcq dc_X4_init_0 11 rfl) bc_72 ?_
  refine J_newI F tw_1_61 (Nat.le_of_ble_eq_true rfl) (Nat.le_of_ble_eq_true rfl) (Nat.le_of_ble_eq_true rfl) (dcq dc_X4_init_0 12 rfl) (fun m2 => ?_)
  refine J_cast (ws2 := [oB 4 qm [.ref m0, .ref m1, .int 0, .int 0, .null, .null, .null, .null, .null, .null, .null, .long 0, .null, .null, .null, .long 0], aI G m0 220 (fun _ => 0), aI G m1 880 (fun _ => 0), aI G m2 72 (fun _ => 0)]) rfl rfl rfl ?_
  refine J_putF F (ws2 := [oB 4 qm [.ref m0, .ref m1, .int 0, .int 0, .ref m2, .null, .null, .null, .null, .null, .null, .long 0, .null, .null, .null, .long 0], aI G m0 220 (fun _ => 0), aI G m1 880 (fun _ => 0), aI G m2 72 (fun _ => 0)]) fcX4 hin9 0 4 rfl (Nat.le_of_ble_eq_true rfl) tw_3_227 rfl rfl rfl rfl rfl (Nat.le_of_ble_eq_true rfl) rfl (dcq dc_X4_init_0 13 rfl) ?_
  refine J_aload_n F 0 (dcq dc_X4_init_0 14 rfl) rfl rfl ?_
  refine J_bipush F (dcq dc_X4_init_0 15 rfl) bc_73 ?_
  refine J_newJ F tw_1_145 (Nat.le_of_ble_eq_true rfl) (Nat.le_of_ble_eq_true rfl) (Nat.le_of_ble_eq_true rfl) (dcq dc_X4_init_0 16 rfl) (fun m3 => ?_)
  refine J_cast (ws2 := [oB 4 qm [.ref m0, .ref m1, .int 0, .int 0, .ref m2, .null, .null, .null, .null, .null, .null, .long 0, .null, .null, .null, .long 0], aI G m0 220 (fun _ => 0), aI G m1 880 (fun _ => 0), aI G m2 72 (fun _ => 0), aJ G m3 73 (fun _ => 0)]) rfl rfl rfl ?_
  refine J_putF F (ws2 := [oB 4 qm [.ref m0, .ref m1, .int 0, .int 0, .ref m2, .ref m3, .null, .null, .null, .null, .null, .long 0, .null, .null, .null, .long 0], aI G m0 220 (fun _ => 0), aI G m1 880 (fun _ => 0), aI G m2 72 (fun _ => 0), aJ G m3 73 (fun _ => 0)]) fcX4 hin9 0 5 rfl (Nat.le_of_ble_eq_true rfl) tw_3_228 rfl rfl rfl rfl rfl (Nat.le_of_ble_eq_true rfl) rfl (dcq dc_X4_init_0 17 rfl) ?_
  refine J_aload_n F 0 (dcq dc_X4_init_0 18 rfl) rfl rfl ?_
  refine J_bipush F (dcq dc_X4_init_0 19 rfl) bc_72 ?_
  refine J_newJ F tw_1_145 (Nat.le_of_ble_eq_true rfl) (Nat.le_of_ble_eq_true rfl) (Nat.le_of_ble_eq_true rfl) (dcq dc_X4_init_0 20 rfl) (fun m4 => ?_)
  refine J_cast (ws2 := [oB 4 qm [.ref m0, .ref m1, .int 0, .int 0, .ref m2, .ref m3, .null, .null, .null, .null, .null, .long 0, .null, .null, .null, .long 0], aI G m0 220 (fun _ => 0), aI G m1 880 (fun _ => 0), aI G m2 72 (fun _ => 0), aJ G m3 73 (fun _ => 0), aJ G m4 72 (fun _ => 0)]) rfl rfl rfl ?_
  refine J_putF F (ws2 := [oB 4 qm [.ref m0, .ref m1, .int 0, .int 0, .ref m2, .ref m3, .ref m4, .null, .null, .null, .null, .long 0, .null, .null, .null, .long 0], aI G m0 220 (fun _ => 0), aI G m1 880 (fun _ => 0), aI G m2 72 (fun _ => 0), aJ G m3 73 (fun _ => 0), aJ G m4 72 (fun _ => 0)]) fcX4 hin9 0 6 rfl (Nat.le_of_ble_eq_true rfl) tw_3_229 rfl rfl rfl rfl rfl (Nat.le_of_ble_eq_true rfl) rfl (dcq dc_X4_init_0 21 rfl) ?_
  refine J_aload_n F 0 (dcq dc_X4_init_0 22 rfl) rfl rfl ?_
  refine J_bipush F (dcq dc_X4_init_0 23 rfl) bc_72 ?_
  refine J_newJ F tw_1_145 (Nat.le_of_ble_eq_true rfl) (Nat.le_of_ble_eq_true rfl) (Nat.le_of_ble_eq_true rfl) (dcq dc_X4_init_0 24 rfl) (fun m5 => ?_)
  refine J_cast (ws2 := [oB 4 qm [.ref m0, .ref m1, .int 0, .int 0, .ref m2, .ref m3, .ref m4, .null, .null, .null, .null, .long 0, .null, .null, .null, .long 0], aI G m0 220 (fun _ => 0), aI G m1 880 (fun _ => 0), aI G m2 72 (fun _ => 0), aJ G m3 73 (fun _ => 0), aJ G m4 72 (fun _ => 0), aJ G m5 72 (fun _ => 0)]) rfl rfl rfl ?_
  refine J_putF F (ws2 := [oB 4 qm [.ref m0, .ref m1, .int 0, .int 0, .ref m2, .ref m3, .ref m4, .ref m5, .null, .null, .null, .long 0, .null, .null, .null, .long 0], aI G m0 220 (fun _ => 0), aI G m1 880 (fun _ => 0), aI G m2 72 (fun _ => 0), aJ G m3 73 (fun _ => 0), aJ G m4 72 (fun _ => 0), aJ G m5 72 (fun _ => 0)]) fcX4 hin9 0 7 rfl (Nat.le_of_ble_eq_true rfl) tw_3_230 rfl rfl rfl rfl rfl (Nat.le_of_ble_eq_true rfl) rfl (dcq dc_X4_init_0 25 rfl) ?_
  refine J_aload_n F 0 (dcq dc_X4_init_0 26 rfl) rfl rfl ?_
  refine J_bipush F (dcq dc_X4_init_0 27 rfl) bc_72 ?_
  refine J_newI F tw_1_61 (Nat.le_of_ble_eq_true rfl) (Nat.le_of_ble_eq_true rfl) (Nat.le_of_ble_eq_true rfl) (dcq dc_X4_init_0 28 rfl) (fun m6 => ?_)
  refine J_cast (ws2 := [oB 4 qm [.ref m0, .ref m1, .int 0, .int 0, .ref m2, .ref m3, .ref m4, .ref m5, .null, .null, .null, .long 0, .null, .null, .null, .long 0], aI G m0 220 (fun _ => 0), aI G m1 880 (fun _ => 0), aI G m2 72 (fun _ => 0), aJ G m3 73 (fun _ => 0), aJ G m4 72 (fun _ => 0), aJ G m5 72 (fun _ => 0), aI G m6 72 (fun _ => 0)]) rfl rfl rfl ?_
  refine J_putF F (ws2 := [oB 4 qm [.ref m0, .ref m1, .int 0, .int 0, .ref m2, .ref m3, .ref m4, .ref m5, .ref m6, .null, .null, .long 0, .null, .null, .null, .long 0], aI G m0 220 (fun _ => 0), aI G m1 880 (fun _ => 0), aI G m2 72 (fun _ => 0), aJ G m3 73 (fun _ => 0), aJ G m4 72 (fun _ => 0), aJ G m5 72 (fun _ => 0), aI G m6 72 (fun _ => 0)]) fcX4 hin9 0 8 rfl (Nat.le_of_ble_eq_true rfl) tw_3_231 rfl rfl rfl rfl rfl (Nat.le_of_ble_eq_true rfl) rfl (dcq dc_X4_init_0 29 rfl) ?_
  refine J_aload_n F 0 (dcq dc_X4_init_0 30 rfl) rfl rfl ?_
  refine J_bipush F (dcq dc_X4_init_0 31 rfl) bc_72 ?_
  refine J_newJ F tw_1_145 (Nat.le_of_ble_eq_true rfl) (Nat.le_of_ble_eq_true rfl) (Nat.le_of_ble_eq_true rfl) (dcq dc_X4_init_0 32 rfl) (fun m7 => ?_)
  refine J_cast (ws2 := [oB 4 qm [.ref m0, .ref m1, .int 0, .int 0, .ref m2, .ref m3, .ref m4, .ref m5, .ref m6, .null, .null, .long 0, .null, .null, .null, .long 0], aI G m0 220 (fun _ => 0), aI G m1 880 (fun _ => 0), aI G m2 72 (fun _ => 0), aJ G m3 73 (fun _ => 0), aJ G m4 72 (fun _ => 0), aJ G m5 72 (fun _ => 0), aI G m6 72 (fun _ => 0), aJ G m7 72 (fun _ => 0)]) rfl rfl rfl ?_
  refine J_putF F (ws2 := [oB 4 qm [.ref m0, .ref m1, .int 0, .int 0, .ref m2, .ref m3, .ref m4, .ref m5, .ref m6, .ref m7, .null, .long 0, .null, .null, .null, .long 0], aI G m0 220 (fun _ => 0), aI G m1 880 (fun _ => 0), aI G m2 72 (fun _ => 0), aJ G m3 73 (fun _ => 0), aJ G m4 72 (fun _ => 0), aJ G m5 72 (fun _ => 0), aI G m6 72 (fun _ => 0), aJ G m7 72 (fun _ => 0)]) fcX4 hin9 0 9 rfl (Nat.le_of_ble_eq_true rfl) tw_3_232 rfl rfl rfl rfl rfl (Nat.le_of_ble_eq_true rfl) rfl (dcq dc_X4_init_0 33 rfl) ?_
  refine J_aload_n F 0 (dcq dc_X4_init_0 34 rfl) rfl rfl ?_
  refine J_bipush F (dcq dc_X4_init_0 35 rfl) bc_12 ?_
  refine J_newJ F tw_1_145 (Nat.le_of_ble_eq_true rfl) (Nat.le_of_ble_eq_true rfl) (Nat.le_of_ble_eq_true rfl) (dcq dc_X4_init_0 36 rfl) (fun m8 => ?_)
  refine J_cast (ws2 := [oB 4 qm [.ref m0, .ref m1, .int 0, .int 0, .ref m2, .ref m3, .ref m4, .ref m5, .ref m6, .ref m7, .null, .long 0, .null, .null, .null, .long 0], aI G m0 220 (fun _ => 0), aI G m1 880 (fun _ => 0), aI G m2 72 (fun _ => 0), aJ G m3 73 (fun _ => 0), aJ G m4 72 (fun _ => 0), aJ G m5 72 (fun _ => 0), aI G m6 72 (fun _ => 0), aJ G m7 72 (fun _ => 0), aJ G m8 12 (fun _ => 0)]) rfl rfl rfl ?_
  refine J_putF F (ws2 := [oB 4 qm [.ref m0, .ref m1, .int 0, .int 0, .ref m2, .ref m3, .ref m4, .ref m5, .ref m6, .ref m7, .ref m8, .long 0, .null, .null, .null, .long 0], aI G m0 220 (fun _ => 0), aI G m1 880 (fun _ => 0), aI G m2 72 (fun _ => 0), aJ G m3 73 (fun _ => 0), aJ G m4 72 (fun _ => 0), aJ G m5 72 (fun _ => 0), aI G m6 72 (fun _ => 0), aJ G m7 72 (fun _ => 0), aJ G m8 12 (fun _ => 0)]) fcX4 hin9 0 10 rfl (Nat.le_of_ble_eq_true rfl) tw_3_233 rfl rfl rfl rfl rfl (Nat.le_of_ble_eq_true rfl) rfl (dcq dc_X4_init_0 37 rfl) ?_
  refine J_aload_n F 0 (dcq dc_X4_init_0 38 rfl) rfl rfl ?_
  refine J_bipush F (dcq dc_X4_init_0 39 rfl) bc_72 ?_
  refine J_newJ F tw_1_145 (Nat.le_of_ble_eq_true rfl) (Nat.le_of_ble_eq_true rfl) (Nat.le_of_ble_eq_true rfl) (dcq dc_X4_init_0 40 rfl) (fun m9 => ?_)
  refine J_cast (ws2 := [oB 4 qm [.ref m0, .ref m1, .int 0, .int 0, .ref m2, .ref m3, .ref m4, .ref m5, .ref m6, .ref m7, .ref m8, .long 0, .null, .null, .null, .long 0], aI G m0 220 (fun _ => 0), aI G m1 880 (fun _ => 0), aI G m2 72 (fun _ => 0), aJ G m3 73 (fun _ => 0), aJ G m4 72 (fun _ => 0), aJ G m5 72 (fun _ => 0), aI G m6 72 (fun _ => 0), aJ G m7 72 (fun _ => 0), aJ G m8 12 (fun _ => 0), aJ G m9 72 (fun _ => 0)]) rfl rfl rfl ?_
  refine J_putF F (ws2 := [oB 4 qm [.ref m0, .ref m1, .int 0, .int 0, .ref m2, .ref m3, .ref m4, .ref m5, .ref m6, .ref m7, .ref m8, .long 0, .ref m9, .null, .null, .long 0], aI G m0 220 (fun _ => 0), aI G m1 880 (fun _ => 0), aI G m2 72 (fun _ => 0), aJ G m3 73 (fun _ => 0), aJ G m4 72 (fun _ => 0), aJ G m5 72 (fun _ => 0), aI G m6 72 (fun _ => 0), aJ G m7 72 (fun _ => 0), aJ G m8 12 (fun _ => 0), aJ G m9 72 (fun _ => 0)]) fcX4 hin9 0 12 rfl (Nat.le_of_ble_eq_true rfl) tw_3_235 rfl rfl rfl rfl rfl (Nat.le_of_ble_eq_true rfl) rfl (dcq dc_X4_init_0 41 rfl) ?_
  refine J_aload_n F 0 (dcq dc_X4_init_0 42 rfl) rfl rfl ?_
  refine J_bipush F (dcq dc_X4_init_0 43 rfl) bc_72 ?_
  refine J_newJ F tw_1_145 (Nat.le_of_ble_eq_true rfl) (Nat.le_of_ble_eq_true rfl) (Nat.le_of_ble_eq_true rfl) (dcq dc_X4_init_0 44 rfl) (fun m10 => ?_)
  refine J_cast (ws2 := [oB 4 qm [.ref m0, .ref m1, .int 0, .int 0, .ref m2, .ref m3, .ref m4, .ref m5, .ref m6, .ref m7, .ref m8, .long 0, .ref m9, .null, .null, .long 0], aI G m0 220 (fun _ => 0), aI G m1 880 (fun _ => 0), aI G m2 72 (fun _ => 0), aJ G m3 73 (fun _ => 0), aJ G m4 72 (fun _ => 0), aJ G m5 72 (fun _ => 0), aI G m6 72 (fun _ => 0), aJ G m7 72 (fun _ => 0), aJ G m8 12 (fun _ => 0), aJ G m9 72 (fun _ => 0), aJ G m10 72 (fun _ => 0)]) rfl rfl rfl ?_
  refine J_putF F (ws2 := [oB 4 qm [.ref m0, .ref m1, .int 0, .int 0, .ref m2, .ref m3, .ref m4, .ref m5, .ref m6, .ref m7, .ref m8, .long 0, .ref m9, .ref m10, .null, .long 0], aI G m0 220 (fun _ => 0), aI G m1 880 (fun _ => 0), aI G m2 72 (fun _ => 0), aJ G m3 73 (fun _ => 0), aJ G m4 72 (fun _ => 0), aJ G m5 72 (fun _ => 0), aI G m6 72 (fun _ => 0), aJ G m7 72 (fun _ => 0), aJ G m8 12 (fun _ => 0), aJ G m9 72 (fun _ => 0), aJ G m10 72 (fun _ => 0)]) fcX4 hin9 0 13 rfl (Nat.le_of_ble_eq_true rfl) tw_3_236 rfl rfl rfl rfl rfl (Nat.le_of_ble_eq_true rfl) rfl (dcq dc_X4_init_0 45 rfl) ?_
  refine J_aload_n F 0 (dcq dc_X4_init_0 46 rfl) rfl rfl ?_
  refine J_bipush F (dcq dc_X4_init_0 47 rfl) bc_72 ?_
  refine J_newJ F tw_1_145 (Nat.le_of_ble_eq_true rfl) (Nat.le_of_ble_eq_true rfl) (Nat.le_of_ble_eq_true rfl) (dcq dc_X4_init_1 0 rfl) (fun m11 => ?_)
  refine J_cast (ws2 := [oB 4 qm [.ref m0, .ref m1, .int 0, .int 0, .ref m2, .ref m3, .ref m4, .ref m5, .ref m6, .ref m7, .ref m8, .long 0, .ref m9, .ref m10, .null, .long 0], aI G m0 220 (fun _ => 0), aI G m1 880 (fun _ => 0), aI G m2 72 (fun _ => 0), aJ G m3 73 (fun _ => 0), aJ G m4 72 (fun _ => 0), aJ G m5 72 (fun _ => 0), aI G m6 72 (fun _ => 0), aJ G m7 72 (fun _ => 0), aJ G m8 12 (fun _ => 0), aJ G m9 72 (fun _ => 0), aJ G m10 72 (fun _ => 0), aJ G m11 72 (fun _ => 0)]) rfl rfl rfl ?_
  refine J_putF F (ws2 := [oB 4 qm [.ref m0, .ref m1, .int 0, .int 0, .ref m2, .ref m3, .ref m4, .ref m5, .ref m6, .ref m7, .ref m8, .long 0, .ref m9, .ref m10, .ref m11, .long 0], aI G m0 220 (fun _ => 0), aI G m1 880 (fun _ => 0), aI G m2 72 (fun _ => 0), aJ G m3 73 (fun _ => 0), aJ G m4 72 (fun _ => 0), aJ G m5 72 (fun _ => 0), aI G m6 72 (fun _ => 0), aJ G m7 72 (fun _ => 0), aJ G m8 12 (fun _ => 0), aJ G m9 72 (fun _ => 0), aJ G m10 72 (fun _ => 0), aJ G m11 72 (fun _ => 0)]) fcX4 hin9 0 14 rfl (Nat.le_of_ble_eq_true rfl) tw_3_237 rfl rfl rfl rfl rfl (Nat.le_of_ble_eq_true rfl) rfl (dcq dc_X4_init_1 1 rfl) ?_
  refine J_aload_n F 0 (dcq dc_X4_init_1 2 rfl) rfl rfl ?_
  refine J_get F fcX4 0 0 rfl (Nat.le_of_ble_eq_true rfl) tw_3_223 rfl rfl (dcq dc_X4_init_1 3 rfl) ?_
  refine J_iconst F (dcq dc_X4_init_1 4 rfl) ic_0 ?_
  refine J_iconst F (dcq dc_X4_init_1 5 rfl) ic_4 ?_
  refine J_iast F (ws2 := [oB 4 qm [.ref m0, .ref m1, .int 0, .int 0, .ref m2, .ref m3, .ref m4, .ref m5, .ref m6, .ref m7, .ref m8, .long 0, .ref m9, .ref m10, .ref m11, .long 0], aI G m0 220 (upd (fun _ => 0) 0 (nI 4)), aI G m1 880 (fun _ => 0), aI G m2 72 (fun _ => 0), aJ G m3 73 (fun _ => 0), aJ G m4 72 (fun _ => 0), aJ G m5 72 (fun _ => 0), aI G m6 72 (fun _ => 0), aJ G m7 72 (fun _ => 0), aJ G m8 12 (fun _ => 0), aJ G m9 72 (fun _ => 0), aJ G m10 72 (fun _ => 0), aJ G m11 72 (fun _ => 0)]) 1 rfl (by omega) (Nat.le_of_ble_eq_true rfl) rfl (dcq dc_X4_init_1 6 rfl) ?_
  refine J_aload_n F 0 (dcq dc_X4_init_1 7 rfl) rfl rfl ?_
  refine J_get F fcX4 0 0 rfl (Nat.le_of_ble_eq_true rfl) tw_3_223 rfl rfl (dcq dc_X4_init_1 8 rfl) ?_
  refine J_iconst F (dcq dc_X4_init_1 9 rfl) ic_2 ?_
  refine J_iconst F (dcq dc_X4_init_1 10 rfl) ic_2 ?_
  refine J_iast F (ws2 := [oB 4 qm [.ref m0, .ref m1, .int 0, .int 0, .ref m2, .ref m3, .ref m4, .ref m5, .ref m6, .ref m7, .ref m8, .long 0, .ref m9, .ref m10, .ref m11, .long 0], aI G m0 220 (upd (upd (fun _ => 0) 0 (nI 4)) 2 (nI 2)), aI G m1 880 (fun _ => 0), aI G m2 72 (fun _ => 0), aJ G m3 73 (fun _ => 0), aJ G m4 72 (fun _ => 0), aJ G m5 72 (fun _ => 0), aI G m6 72 (fun _ => 0), aJ G m7 72 (fun _ => 0), aJ G m8 12 (fun _ => 0), aJ G m9 72 (fun _ => 0), aJ G m10 72 (fun _ => 0), aJ G m11 72 (fun _ => 0)]) 1 rfl (by omega) (Nat.le_of_ble_eq_true rfl) rfl (dcq dc_X4_init_1 11 rfl) ?_
  refine J_cast (lv2 := [(0, .ref qm)]) (st2 := []) (ws2 := [oB 4 qm [.ref m0, .ref m1, .int (nI 0), .int (nI 0), .ref m2, .ref m3, .ref m4, .ref m5, .ref m6, .ref m7, .ref m8, .long 0, .ref m9, .ref m10, .ref m11, .long 0], aI G m0 220 (upd (upd (fun _ => 0) 0 (nI 4)) 2 (nI 2)), aI G m1 880 (fun _ => 0), aI G m2 72 (fun _ => 0), aJ G m3 73 (fun _ => 0), aJ G m4 72 (fun _ => 0), aJ G m5 72 (fun _ => 0), aI G m6 72 (fun _ => 0), aJ G m7 72 (fun _ => 0), aJ G m8 12 (fun _ => 0), aJ G m9 72 (fun _ => 0), aJ G m10 72 (fun _ => 0), aJ G m11 72 (fun _ => 0)]) (rfl) (rfl) (by rw [nI_0]) ?_
  exact J_vret F ⟨m0, m1, m2, m3, m4, m5, m6, m7, m8, m9, m10, m11, upd (upd (fun _ => 0) 0 (nI 4)) 2 (nI 2), rfl, rfl, ⟨by rw [pk_un (by decide), pk_us], by rw [pk_un (by decide), pk_un (by decide)]; exact nI_0.symm, by rw [pk_us], by rw [pk_un (by decide), pk_un (by decide)]; exact nI_0.symm, fun t h => absurd h (Nat.not_lt_zero _)⟩⟩ (Nat.le_of_ble_eq_true rfl) (Nat.le_of_ble_eq_true rfl) (dcq dc_X4_init_1 12 rfl)
