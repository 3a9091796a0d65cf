theorem low_mono {t : Nat} {v g : Nat → Int32} (h : low t v g) : low (t + 1) v g := by
  obtain ⟨j, h1, h2⟩ := h
  exact ⟨j, by omega, h2⟩
theorem low_pred {t : Nat} {v g : Nat → Int32} (h : low (t + 1) v g) (h2 : ¬ (g t = 0 ∧ ¬ nI 1 ≤ v t)) : low t v g := by
  obtain ⟨j, h1, h3⟩ := h
  by_cases e : j = t
  · subst e; exact absurd h3 h2
  · exact ⟨j, by omega, h3⟩

abbrev po_X4_refused_0 (G : Gt) (qm m0 m1 m2 m3 m4 m5 m6 m7 m8 m9 m10 m11 hc rf : Nat) (sp ha : Int64) : Option Value → va_W → Prop := fun (v9 : Option Value) (w9 : va_W) => v9 = some (.int (nI 0)) ∧ w9 = [oB 4 qm [.ref m0, .ref m1, .int (nI hc), .int (nI 0), .ref m2, .ref m3, .ref m4, .ref m5, .ref m6, .ref m7, .ref m8, .long sp, .ref m9, .ref m10, .ref m11, .long ha]]
set_option maxHeartbeats 4000000 in
set_option maxRecDepth 100000 in
theorem c_X4_refused_0 (l : Launch) (hl : l.stackTraces = false) (G : Gt) (qm m0 m1 m2 m3 m4 m5 m6 m7 m8 m9 m10 m11 hc rf : Nat) (sp ha : Int64) : Con l G yX4_refused cX4_refused 2 (some .boolean) 0 0 0 0 [.ref qm, .int (nI 0)] [oB 4 qm [.ref m0, .ref m1, .int (nI hc), .int (nI rf), .ref m2, .ref m3, .ref m4, .ref m5, .ref m6, .ref m7, .ref m8, .long sp, .ref m9, .ref m10, .ref m11, .long ha]] (po_X4_refused_0 G qm m0 m1 m2 m3 m4 m5 m6 m7 m8 m9 m10 m11 hc rf sp ha) := by
  refine Con.of hl cd_X4_refused (Nat.le_of_ble_eq_true rfl) ?_
  intro p e s m args below meth c A F hin9
  change Fx p l s m args meth c G A "SeasonalAdjusterModel" cX4_refused 2 (some .boolean) at F
  change J p l e (cRm 0 0 0 0) s m args below meth c G A 2 (JQ below G A (po_X4_refused_0 G qm m0 m1 m2 m3 m4 m5 m6 m7 m8 m9 m10 m11 hc rf sp ha) args s 0 0) 0 0 0 [(0, .ref qm), (1, .int (nI 0))] [] [oB 4 qm [.ref m0, .ref m1, .int (nI hc), .int (nI rf), .ref m2, .ref m3, .ref m4, .ref m5, .ref m6, .ref m7, .ref m8, .long sp, .ref m9, .ref m10, .ref m11, .long ha]]
  refine J_aload_n F 0 (dcq dc_X4_refused_0 0 rfl) rfl rfl ?_
  refine J_iload_n F 1 (dcq dc_X4_refused_0 1 rfl) rfl rfl ?_
  refine J_put F (ws2 := [oB 4 qm [.ref m0, .ref m1, .int (nI hc), .int (nI 0), .ref m2, .ref m3, .ref m4, .ref m5, .ref m6, .ref m7, .ref m8, .long sp, .ref m9, .ref m10, .ref m11, .long ha]]) fcX4 0 3 rfl (Nat.le_of_ble_eq_true rfl) tw_3_226 rfl rfl rfl rfl (Nat.le_of_ble_eq_true rfl) rfl (dcq dc_X4_refused_0 2 rfl) ?_
  refine J_iload_n F 1 (dcq dc_X4_refused_0 3 rfl) rfl rfl ?_
  refine J_if_le F 13 (dcq dc_X4_refused_0 4 rfl) (by decide) (fun _ => ?_) (fun h_1 => absurd h_1 (by decide))
  refine J_iconst F (dcq dc_X4_refused_0 7 rfl) ic_0 ?_
  exact J_zret F (rfl) ⟨rfl, rfl⟩ (Nat.le_of_ble_eq_true rfl) (Nat.le_of_ble_eq_true rfl) (dcq dc_X4_refused_0 8 rfl)

abbrev po_X4_refused_1 (G : Gt) (qm m0 m1 m2 m3 m4 m5 m6 m7 m8 m9 m10 m11 hc rf : Nat) (sp ha : Int64) : Option Value → va_W → Prop := fun (v9 : Option Value) (w9 : va_W) => v9 = some (.int (nI 1)) ∧ w9 = [oB 4 qm [.ref m0, .ref m1, .int (nI hc), .int (nI 1), .ref m2, .ref m3, .ref m4, .ref m5, .ref m6, .ref m7, .ref m8, .long sp, .ref m9, .ref m10, .ref m11, .long ha]]
set_option maxHeartbeats 4000000 in
set_option maxRecDepth 100000 in
theorem c_X4_refused_1 (l : Launch) (hl : l.stackTraces = false) (G : Gt) (qm m0 m1 m2 m3 m4 m5 m6 m7 m8 m9 m10 m11 hc rf : Nat) (sp ha : Int64) : Con l G yX4_refused cX4_refused 2 (some .boolean) 0 0 0 0 [.ref qm, .int (nI 1)] [oB 4 qm [.ref m0, .ref m1, .int (nI hc), .int (nI rf), .ref m2, .ref m3, .ref m4, .ref m5, .ref m6, .ref m7, .ref m8, .long sp, .ref m9, .ref m10, .ref m11, .long ha]] (po_X4_refused_1 G qm m0 m1 m2 m3 m4 m5 m6 m7 m8 m9 m10 m11 hc rf sp ha) := by
  refine Con.of hl cd_X4_refused (Nat.le_of_ble_eq_true rfl) ?_
  intro p e s m args below meth c A F hin9
  change Fx p l s m args meth c G A "SeasonalAdjusterModel" cX4_refused 2 (some .boolean) at F
  change J p l e (cRm 0 0 0 0) s m args below meth c G A 2 (JQ below G A (po_X4_refused_1 G qm m0 m1 m2 m3 m4 m5 m6 m7 m8 m9 m10 m11 hc rf sp ha) args s 0 0) 0 0 0 [(0, .ref qm), (1, .int (nI 1))] [] [oB 4 qm [.ref m0, .ref m1, .int (nI hc), .int (nI rf), .ref m2, .ref m3, .ref m4, .ref m5, .ref m6, .ref m7, .ref m8, .long sp, .ref m9, .ref m10, .ref m11, .long ha]]
  refine J_aload_n F 0 (dcq dc_X4_refused_0 0 rfl) rfl rfl ?_
  refine J_iload_n F 1 (dcq dc_X4_refused_0 1 rfl) rfl rfl ?_
  refine J_put F (ws2 := [oB 4 qm [.ref m0, .ref m1, .int (nI hc), .int (nI 1), .ref m2, .ref m3, .ref m4, .ref m5, .ref m6, .ref m7, .ref m8, .long sp, .ref m9, .ref m10, .ref m11, .long ha]]) fcX4 0 3 rfl (Nat.le_of_ble_eq_true rfl) tw_3_226 rfl rfl rfl rfl (Nat.le_of_ble_eq_true rfl) rfl (dcq dc_X4_refused_0 2 rfl) ?_
  refine J_iload_n F 1 (dcq dc_X4_refused_0 3 rfl) rfl rfl ?_
  refine J_if_le F 13 (dcq dc_X4_refused_0 4 rfl) (by decide) (fun h_1 => absurd h_1 (by decide)) (fun _ => ?_)
  refine J_iconst F (dcq dc_X4_refused_0 5 rfl) ic_1 ?_
  refine J_goto F 14 (dcq dc_X4_refused_0 6 rfl) (by decide) ?_
  exact J_zret F (rfl) ⟨rfl, rfl⟩ (Nat.le_of_ble_eq_true rfl) (Nat.le_of_ble_eq_true rfl) (dcq dc_X4_refused_0 8 rfl)

abbrev po_X4_refused_2 (G : Gt) (qm m0 m1 m2 m3 m4 m5 m6 m7 m8 m9 m10 m11 hc rf : Nat) (sp ha : Int64) : Option Value → va_W → Prop := fun (v9 : Option Value) (w9 : va_W) => v9 = some (.int (nI 1)) ∧ w9 = [oB 4 qm [.ref m0, .ref m1, .int (nI hc), .int (nI 2), .ref m2, .ref m3, .ref m4, .ref m5, .ref m6, .ref m7, .ref m8, .long sp, .ref m9, .ref m10, .ref m11, .long ha]]
set_option maxHeartbeats 4000000 in
set_option maxRecDepth 100000 in
theorem c_X4_refused_2 (l : Launch) (hl : l.stackTraces = false) (G : Gt) (qm m0 m1 m2 m3 m4 m5 m6 m7 m8 m9 m10 m11 hc rf : Nat) (sp ha : Int64) : Con l G yX4_refused cX4_refused 2 (some .boolean) 0 0 0 0 [.ref qm, .int (nI 2)] [oB 4 qm [.ref m0, .ref m1, .int (nI hc), .int (nI rf), .ref m2, .ref m3, .ref m4, .ref m5, .ref m6, .ref m7, .ref m8, .long sp, .ref m9, .ref m10, .ref m11, .long ha]] (po_X4_refused_2 G qm m0 m1 m2 m3 m4 m5 m6 m7 m8 m9 m10 m11 hc rf sp ha) := by
  refine Con.of hl cd_X4_refused (Nat.le_of_ble_eq_true rfl) ?_
  intro p e s m args below meth c A F hin9
  change Fx p l s m args meth c G A "SeasonalAdjusterModel" cX4_refused 2 (some .boolean) at F
  change J p l e (cRm 0 0 0 0) s m args below meth c G A 2 (JQ below G A (po_X4_refused_2 G qm m0 m1 m2 m3 m4 m5 m6 m7 m8 m9 m10 m11 hc rf sp ha) args s 0 0) 0 0 0 [(0, .ref qm), (1, .int (nI 2))] [] [oB 4 qm [.ref m0, .ref m1, .int (nI hc), .int (nI rf), .ref m2, .ref m3, .ref m4, .ref m5, .ref m6, .ref m7, .ref m8, .long sp, .ref m9, .ref m10, .ref m11, .long ha]]
  refine J_aload_n F 0 (dcq dc_X4_refused_0 0 rfl) rfl rfl ?_
  refine J_iload_n F 1 (dcq dc_X4_refused_0 1 rfl) rfl rfl ?_
  refine J_put F (ws2 := [oB 4 qm [.ref m0, .ref m1, .int (nI hc), .int (nI 2), .ref m2, .ref m3, .ref m4, .ref m5, .ref m6, .ref m7, .ref m8, .long sp, .ref m9, .ref m10, .ref m11, .long ha]]) fcX4 0 3 rfl (Nat.le_of_ble_eq_true rfl) tw_3_226 rfl rfl rfl rfl (Nat.le_of_ble_eq_true rfl) rfl (dcq dc_X4_refused_0 2 rfl) ?_
  refine J_iload_n F 1 (dcq dc_X4_refused_0 3 rfl) rfl rfl ?_
  refine J_if_le F 13 (dcq dc_X4_refused_0 4 rfl) (by decide) (fun h_1 => absurd h_1 (by decide)) (fun _ => ?_)
  refine J_iconst F (dcq dc_X4_refused_0 5 rfl) ic_1 ?_
  refine J_goto F 14 (dcq dc_X4_refused_0 6 rfl) (by decide) ?_
  exact J_zret F (rfl) ⟨rfl, rfl⟩ (Nat.le_of_ble_eq_true rfl) (Nat.le_of_ble_eq_true rfl) (dcq dc_X4_refused_0 8 rfl)

abbrev po_X4_thrown (G : Gt) (qm m0 m1 m2 m3 m4 m5 m6 m7 m8 m9 m10 m11 hc rf : Nat) (sp ha : Int64) : Option Value → va_W → Prop := fun (v9 : Option Value) (w9 : va_W) => v9 = some (.int (nI rf)) ∧ w9 = [oB 4 qm [.ref m0, .ref m1, .int (nI hc), .int (nI rf), .ref m2, .ref m3, .ref m4, .ref m5, .ref m6, .ref m7, .ref m8, .long sp, .ref m9, .ref m10, .ref m11, .long ha]]
set_option maxHeartbeats 4000000 in
set_option maxRecDepth 100000 in
theorem c_X4_thrown (l : Launch) (hl : l.stackTraces = false) (G : Gt) (qm m0 m1 m2 m3 m4 m5 m6 m7 m8 m9 m10 m11 hc rf : Nat) (sp ha : Int64) : Con l G yX4_thrown cX4_thrown 1 (some .int) 0 0 0 0 [.ref qm] [oB 4 qm [.ref m0, .ref m1, .int (nI hc), .int (nI rf), .ref m2, .ref m3, .ref m4, .ref m5, .ref m6, .ref m7, .ref m8, .long sp, .ref m9, .ref m10, .ref m11, .long ha]] (po_X4_thrown G qm m0 m1 m2 m3 m4 m5 m6 m7 m8 m9 m10 m11 hc rf sp ha) := by
  refine Con.of hl cd_X4_thrown (Nat.le_of_ble_eq_true rfl) ?_
  intro p e s m args below meth c A F hin9
  change Fx p l s m args meth c G A "SeasonalAdjusterModel" cX4_thrown 1 (some .int) at F
  change J p l e (cRm 0 0 0 0) s m args below meth c G A 1 (JQ below G A (po_X4_thrown G qm m0 m1 m2 m3 m4 m5 m6 m7 m8 m9 m10 m11 hc rf sp ha) args s 0 0) 0 0 0 [(0, .ref qm)] [] [oB 4 qm [.ref m0, .ref m1, .int (nI hc), .int (nI rf), .ref m2, .ref m3, .ref m4, .ref m5, .ref m6, .ref m7, .ref m8, .long sp, .ref m9, .ref m10, .ref m11, .long ha]]
  refine J_aload_n F 0 (dcq dc_X4_thrown_0 0 rfl) rfl rfl ?_
  refine J_get F fcX4 0 3 rfl (Nat.le_of_ble_eq_true rfl) tw_3_226 rfl rfl (dcq dc_X4_thrown_0 1 rfl) ?_
  exact J_iret F ⟨rfl, rfl⟩ (Nat.le_of_ble_eq_true rfl) (Nat.le_of_ble_eq_true rfl) (dcq dc_X4_thrown_0 2 rfl)

abbrev po_X4_within (G : Gt) (a b c9 : Int64) : Option Value → va_W → Prop := fun (v9 : Option Value) (w9 : va_W) => (v9 = some (.int (nI 1)) ∧ w9 = [] ∧ (b ≤ a ∧ a ≤ c9)) ∨ (v9 = some (.int (nI 0)) ∧ w9 = [] ∧ (¬ (b ≤ a ∧ a ≤ c9)))
set_option maxHeartbeats 4000000 in
set_option maxRecDepth 100000 in
theorem c_X4_within (l : Launch) (hl : l.stackTraces = false) (G : Gt) (a b c9 : Int64) : Con l G yX4_within cX4_within 6 (some .boolean) 0 0 0 0 [.long a, .long b, .long c9] [] (po_X4_within G a b c9) := by
  refine Con.of hl cd_X4_within (Nat.le_of_ble_eq_true rfl) ?_
  intro p e s m args below meth c A F hin9
  change Fx p l s m args meth c G A "SeasonalAdjusterModel" cX4_within 6 (some .boolean) at F
  change J p l e (cRm 0 0 0 0) s m args below meth c G A 6 (JQ below G A (po_X4_within G a b c9) args s 0 0) 0 0 0 [(0, .long a), (2, .long b), (4, .long c9)] [] []
  refine J_lload_n F 0 (dcq dc_X4_within_0 0 rfl) rfl rfl ?_
  refine J_lload_n F 1 (dcq dc_X4_within_0 1 rfl) rfl rfl ?_
  refine J_lcmp_lt F 17 (dcq dc_X4_within_0 2 rfl) (dcq dc_X4_within_0 3 rfl) (by decide) (fun h_1 => ?_) (fun h_1 => ?_)
  · skip
    have h1 := h_1
    refine J_iconst F (dcq dc_X4_within_0 10 rfl) ic_0 ?_
    exact J_zret F (by decide) (Or.inr (⟨rfl, rfl, by first | exact ⟨Int64.not_lt.mp h1, Int64.not_lt.mp h2⟩ | exact fun z => absurd h1 (Int64.not_lt.mpr z.1) | exact fun z => absurd h2 (Int64.not_lt.mpr z.2)⟩)) (Nat.le_of_ble_eq_true rfl) (Nat.le_of_ble_eq_true rfl) (dcq dc_X4_within_0 11 rfl)
  · skip
    have h1 := h_1
    refine J_lload_n F 0 (dcq dc_X4_within_0 4 rfl) rfl rfl ?_
    refine J_lload F 2 (dcq dc_X4_within_0 5 rfl) rfl ?_
    refine J_lcmp_gt F 17 (dcq dc_X4_within_0 6 rfl) (dcq dc_X4_within_0 7 rfl) (by decide) (fun h_2 => ?_) (fun h_2 => ?_)
    · skip
      have h2 := h_2
      refine J_iconst F (dcq dc_X4_within_0 10 rfl) ic_0 ?_
      exact J_zret F (by decide) (Or.inr (⟨rfl, rfl, by first | exact ⟨Int64.not_lt.mp h1, Int64.not_lt.mp h2⟩ | exact fun z => absurd h1 (Int64.not_lt.mpr z.1) | exact fun z => absurd h2 (Int64.not_lt.mpr z.2)⟩)) (Nat.le_of_ble_eq_true rfl) (Nat.le_of_ble_eq_true rfl) (dcq dc_X4_within_0 11 rfl)
    · skip
      have h2 := h_2
      refine J_iconst F (dcq dc_X4_within_0 8 rfl) ic_1 ?_
      refine J_goto F 18 (dcq dc_X4_within_0 9 rfl) (by decide) ?_
      exact J_zret F (by decide) (Or.inl ⟨rfl, rfl, by first | exact ⟨Int64.not_lt.mp h1, Int64.not_lt.mp h2⟩ | exact fun z => absurd h1 (Int64.not_lt.mpr z.1) | exact fun z => absurd h2 (Int64.not_lt.mpr z.2)⟩) (Nat.le_of_ble_eq_true rfl) (Nat.le_of_ble_eq_true rfl) (dcq dc_X4_within_0 11 rfl)

abbrev po_X4_over (G : Gt) (a b : Int64) : Option Value → va_W → Prop := fun (v9 : Option Value) (w9 : va_W) => ∃ (r : Int64), v9 = some (.long r) ∧ w9 = [] ∧ (r = quo a b)
set_option maxHeartbeats 4000000 in
set_option maxRecDepth 100000 in
theorem c_X4_over (l : Launch) (hl : l.stackTraces = false) (G : Gt) (a b : Int64) (hb : 0 < b) : Con l G yX4_over cX4_over 12 (some .long) 0 0 0 0 [.long a, .long b] [] (po_X4_over G a b) := by
  refine Con.of hl cd_X4_over (Nat.le_of_ble_eq_true rfl) ?_
  intro p e s m args below meth c A F hin9
  change Fx p l s m args meth c G A "SeasonalAdjusterModel" cX4_over 12 (some .long) at F
  change J p l e (cRm 0 0 0 0) s m args below meth c G A 12 (JQ below G A (po_X4_over G a b) args s 0 0) 0 0 0 [(0, .long a), (2, .long b)] [] []
  refine J_lload_n F 0 (dcq dc_X4_over_0 0 rfl) rfl rfl ?_
  refine J_lconst F (dcq dc_X4_over_0 1 rfl) lc_0 ?_
  refine J_lcmp_ge F 11 (dcq dc_X4_over_0 2 rfl) (dcq dc_X4_over_0 3 rfl) (by decide) (fun h_1 => ?_) (fun h_1 => ?_)
  · skip
    have ha := h_1
    refine J_lload_n F 0 (dcq dc_X4_over_0 7 rfl) rfl rfl ?_
    refine J_lstore F (lv2 := [(4, .long a), (0, .long a), (2, .long b)]) (dcq dc_X4_over_0 8 rfl) (Nat.le_of_ble_eq_true rfl) rfl ?_
    refine J_lload F 0 (dcq dc_X4_over_0 9 rfl) rfl ?_
    refine J_lload_n F 2 (dcq dc_X4_over_0 10 rfl) rfl rfl ?_
    refine J_ldiv F (v := a / b) (dcq dc_X4_over_0 11 rfl) (fun e => absurd hb (by rw [e]; decide)) rfl ?_
    refine J_lstore F (lv2 := [(6, .long (a / b)), (4, .long a), (0, .long a), (2, .long b)]) (dcq dc_X4_over_0 12 rfl) (Nat.le_of_ble_eq_true rfl) rfl ?_
    refine J_lload F 1 (dcq dc_X4_over_0 13 rfl) rfl ?_
    refine J_lload F 0 (dcq dc_X4_over_0 14 rfl) rfl ?_
    refine J_lload_n F 3 (dcq dc_X4_over_0 15 rfl) rfl rfl ?_
    refine J_lmul F (v := (a / b) * b) (dcq dc_X4_over_0 16 rfl) rfl ?_
    refine J_lsub F (v := a - ((a / b) * b)) (dcq dc_X4_over_0 17 rfl) rfl ?_
    refine J_lstore F (lv2 := [(8, .long (a - ((a / b) * b))), (6, .long (a / b)), (4, .long a), (0, .long a), (2, .long b)]) (dcq dc_X4_over_0 18 rfl) (Nat.le_of_ble_eq_true rfl) rfl ?_
    refine J_lload F 0 (dcq dc_X4_over_0 19 rfl) rfl ?_
    refine J_lload_n F 4 (dcq dc_X4_over_0 20 rfl) rfl rfl ?_
    refine J_lload F 0 (dcq dc_X4_over_0 21 rfl) rfl ?_
    refine J_lsub F (v := b - (a - ((a / b) * b))) (dcq dc_X4_over_0 22 rfl) rfl ?_
    refine J_lcmp_lt F 46 (dcq dc_X4_over_0 23 rfl) (dcq dc_X4_over_0 24 rfl) (by decide) (fun h_2 => ?_) (fun h_2 => ?_)
    · skip
      have hr := h_2
      refine J_lload F 1 (dcq dc_X4_over_0 29 rfl) rfl ?_
      refine J_lstore F (lv2 := [(10, .long (a / b)), (8, .long (a - ((a / b) * b))), (6, .long (a / b)), (4, .long a), (0, .long a), (2, .long b)]) (dcq dc_X4_over_0 30 rfl) (Nat.le_of_ble_eq_true rfl) rfl ?_
      refine J_lload_n F 4 (dcq dc_X4_over_0 31 rfl) rfl rfl ?_
      refine J_lconst F (dcq dc_X4_over_0 32 rfl) lc_0 ?_
      refine J_lcmp_ge F 62 (dcq dc_X4_over_0 33 rfl) (dcq dc_X4_over_0 34 rfl) (by decide) (fun h_3 => ?_) (fun h_3 => ?_)
      · skip
        have ha2 := h_3
        refine J_lload F 0 (dcq dc_X4_over_0 38 rfl) rfl ?_
        exact J_lret F ⟨a / b, rfl, rfl, by rw [quo_pos hb]; unfold qt absL; first | (have ha9 := Int64.not_le.mp ha; simp only [if_pos ha9, if_pos hr]; done) | (have ha9 := Int64.not_le.mp ha; simp only [if_pos ha9, if_neg hr]; done) | (have ha9 := Int64.not_lt.mpr ha; simp only [if_neg ha9, if_pos hr]; done) | (have ha9 := Int64.not_lt.mpr ha; simp only [if_neg ha9, if_neg hr]; done) | exact absurd ha ha2 | exact absurd ha2 ha⟩ (Nat.le_of_ble_eq_true rfl) (Nat.le_of_ble_eq_true rfl) (dcq dc_X4_over_0 39 rfl)
      · skip
        have ha2 := h_3
        refine J_lload F 0 (dcq dc_X4_over_0 35 rfl) rfl ?_
        refine J_lneg F (v := -(a / b)) (dcq dc_X4_over_0 36 rfl) rfl ?_
        refine J_goto F 64 (dcq dc_X4_over_0 37 rfl) (by decide) ?_
        exact J_lret F ⟨-(a / b), rfl, rfl, by rw [quo_pos hb]; unfold qt absL; first | (have ha9 := Int64.not_le.mp ha; simp only [if_pos ha9, if_pos hr]; done) | (have ha9 := Int64.not_le.mp ha; simp only [if_pos ha9, if_neg hr]; done) | (have ha9 := Int64.not_lt.mpr ha; simp only [if_neg ha9, if_pos hr]; done) | (have ha9 := Int64.not_lt.mpr ha; simp only [if_neg ha9, if_neg hr]; done) | exact absurd ha ha2 | exact absurd ha2 ha⟩ (Nat.le_of_ble_eq_true rfl) (Nat.le_of_ble_eq_true rfl) (dcq dc_X4_over_0 39 rfl)
    · skip
      have hr := h_2
      refine J_lload F 1 (dcq dc_X4_over_0 25 rfl) rfl ?_
      refine J_lconst F (dcq dc_X4_over_0 26 rfl) lc_1 ?_
      refine J_ladd F (v := (a / b) + 1) (dcq dc_X4_over_0 27 rfl) rfl ?_
      refine J_goto F 48 (dcq dc_X4_over_0 28 rfl) (by decide) ?_
      refine J_lstore F (lv2 := [(10, .long ((a / b) + 1)), (8, .long (a - ((a / b) * b))), (6, .long (a / b)), (4, .long a), (0, .long a), (2, .long b)]) (dcq dc_X4_over_0 30 rfl) (Nat.le_of_ble_eq_true rfl) rfl ?_
      refine J_lload_n F 4 (dcq dc_X4_over_0 31 rfl) rfl rfl ?_
      refine J_lconst F (dcq dc_X4_over_0 32 rfl) lc_0 ?_
      refine J_lcmp_ge F 62 (dcq dc_X4_over_0 33 rfl) (dcq dc_X4_over_0 34 rfl) (by decide) (fun h_4 => ?_) (fun h_4 => ?_)
      · skip
        have ha2 := h_4
        refine J_lload F 0 (dcq dc_X4_over_0 38 rfl) rfl ?_
        exact J_lret F ⟨(a / b) + 1, rfl, rfl, by rw [quo_pos hb]; unfold qt absL; first | (have ha9 := Int64.not_le.mp ha; simp only [if_pos ha9, if_pos hr]; done) | (have ha9 := Int64.not_le.mp ha; simp only [if_pos ha9, if_neg hr]; done) | (have ha9 := Int64.not_lt.mpr ha; simp only [if_neg ha9, if_pos hr]; done) | (have ha9 := Int64.not_lt.mpr ha; simp only [if_neg ha9, if_neg hr]; done) | exact absurd ha ha2 | exact absurd ha2 ha⟩ (Nat.le_of_ble_eq_true rfl) (Nat.le_of_ble_eq_true rfl) (dcq dc_X4_over_0 39 rfl)
      · skip
        have ha2 := h_4
        refine J_lload F 0 (dcq dc_X4_over_0 35 rfl) rfl ?_
        refine J_lneg F (v := -((a / b) + 1)) (dcq dc_X4_over_0 36 rfl) rfl ?_
        refine J_goto F 64 (dcq dc_X4_over_0 37 rfl) (by decide) ?_
        exact J_lret F ⟨-((a / b) + 1), rfl, rfl, by rw [quo_pos hb]; unfold qt absL; first | (have ha9 := Int64.not_le.mp ha; simp only [if_pos ha9, if_pos hr]; done) | (have ha9 := Int64.not_le.mp ha; simp only [if_pos ha9, if_neg hr]; done) | (have ha9 := Int64.not_lt.mpr ha; simp only [if_neg ha9, if_pos hr]; done) | (have ha9 := Int64.not_lt.mpr ha; simp only [if_neg ha9, if_neg hr]; done) | exact absurd ha ha2 | exact absurd ha2 ha⟩ (Nat.le_of_ble_eq_true rfl) (Nat.le_of_ble_eq_true rfl) (dcq dc_X4_over_0 39 rfl)
  · skip
    have ha := h_1
    refine J_lload_n F 0 (dcq dc_X4_over_0 4 rfl) rfl rfl ?_
    refine J_lneg F (v := -a) (dcq dc_X4_over_0 5 rfl) rfl ?_
    refine J_goto F 12 (dcq dc_X4_over_0 6 rfl) (by decide) ?_
    refine J_lstore F (lv2 := [(4, .long (-a)), (0, .long a), (2, .long b)]) (dcq dc_X4_over_0 8 rfl) (Nat.le_of_ble_eq_true rfl) rfl ?_
    refine J_lload F 0 (dcq dc_X4_over_0 9 rfl) rfl ?_
    refine J_lload_n F 2 (dcq dc_X4_over_0 10 rfl) rfl rfl ?_
    refine J_ldiv F (v := (-a) / b) (dcq dc_X4_over_0 11 rfl) (fun e => absurd hb (by rw [e]; decide)) rfl ?_
    refine J_lstore F (lv2 := [(6, .long ((-a) / b)), (4, .long (-a)), (0, .long a), (2, .long b)]) (dcq dc_X4_over_0 12 rfl) (Nat.le_of_ble_eq_true rfl) rfl ?_
    refine J_lload F 1 (dcq dc_X4_over_0 13 rfl) rfl ?_
    refine J_lload F 0 (dcq dc_X4_over_0 14 rfl) rfl ?_
    refine J_lload_n F 3 (dcq dc_X4_over_0 15 rfl) rfl rfl ?_
    refine J_lmul F (v := ((-a) / b) * b) (dcq dc_X4_over_0 16 rfl) rfl ?_
    refine J_lsub F (v := (-a) - (((-a) / b) * b)) (dcq dc_X4_over_0 17 rfl) rfl ?_
    refine J_lstore F (lv2 := [(8, .long ((-a) - (((-a) / b) * b))), (6, .long ((-a) / b)), (4, .long (-a)), (0, .long a), (2, .long b)]) (dcq dc_X4_over_0 18 rfl) (Nat.le_of_ble_eq_true rfl) rfl ?_
    refine J_lload F 0 (dcq dc_X4_over_0 19 rfl) rfl ?_
    refine J_lload_n F 4 (dcq dc_X4_over_0 20 rfl) rfl rfl ?_
    refine J_lload F 0 (dcq dc_X4_over_0 21 rfl) rfl ?_
    refine J_lsub F (v := b - ((-a) - (((-a) / b) * b))) (dcq dc_X4_over_0 22 rfl) rfl ?_
    refine J_lcmp_lt F 46 (dcq dc_X4_over_0 23 rfl) (dcq dc_X4_over_0 24 rfl) (by decide) (fun h_5 => ?_) (fun h_5 => ?_)
    · skip
      have hr := h_5
      refine J_lload F 1 (dcq dc_X4_over_0 29 rfl) rfl ?_
      refine J_lstore F (lv2 := [(10, .long ((-a) / b)), (8, .long ((-a) - (((-a) / b) * b))), (6, .long ((-a) / b)), (4, .long (-a)), (0, .long a), (2, .long b)]) (dcq dc_X4_over_0 30 rfl) (Nat.le_of_ble_eq_true rfl) rfl ?_
      refine J_lload_n F 4 (dcq dc_X4_over_0 31 rfl) rfl rfl ?_
      refine J_lconst F (dcq dc_X4_over_0 32 rfl) lc_0 ?_
      refine J_lcmp_ge F 62 (dcq dc_X4_over_0 33 rfl) (dcq dc_X4_over_0 34 rfl) (by decide) (fun h_6 => ?_) (fun h_6 => ?_)
      · skip
        have ha2 := h_6
        refine J_lload F 0 (dcq dc_X4_over_0 38 rfl) rfl ?_
        exact J_lret F ⟨(-a) / b, rfl, rfl, by rw [quo_pos hb]; unfold qt absL; first | (have ha9 := Int64.not_le.mp ha; simp only [if_pos ha9, if_pos hr]; done) | (have ha9 := Int64.not_le.mp ha; simp only [if_pos ha9, if_neg hr]; done) | (have ha9 := Int64.not_lt.mpr ha; simp only [if_neg ha9, if_pos hr]; done) | (have ha9 := Int64.not_lt.mpr ha; simp only [if_neg ha9, if_neg hr]; done) | exact absurd ha ha2 | exact absurd ha2 ha⟩ (Nat.le_of_ble_eq_true rfl) (Nat.le_of_ble_eq_true rfl) (dcq dc_X4_over_0 39 rfl)
      · skip
        have ha2 := h_6
        refine J_lload F 0 (dcq dc_X4_over_0 35 rfl) rfl ?_
        refine J_lneg F (v := -((-a) / b)) (dcq dc_X4_over_0 36 rfl) rfl ?_
        refine J_goto F 64 (dcq dc_X4_over_0 37 rfl) (by decide) ?_
        exact J_lret F ⟨-((-a) / b), rfl, rfl, by rw [quo_pos hb]; unfold qt absL; first | (have ha9 := Int64.not_le.mp ha; simp only [if_pos ha9, if_pos hr]; done) | (have ha9 := Int64.not_le.mp ha; simp only [if_pos ha9, if_neg hr]; done) | (have ha9 := Int64.not_lt.mpr ha; simp only [if_neg ha9, if_pos hr]; done) | (have ha9 := Int64.not_lt.mpr ha; simp only [if_neg ha9, if_neg hr]; done) | exact absurd ha ha2 | exact absurd ha2 ha⟩ (Nat.le_of_ble_eq_true rfl) (Nat.le_of_ble_eq_true rfl) (dcq dc_X4_over_0 39 rfl)
    · skip
      have hr := h_5
      refine J_lload F 1 (dcq dc_X4_over_0 25 rfl) rfl ?_
      refine J_lconst F (dcq dc_X4_over_0 26 rfl) lc_1 ?_
      refine J_ladd F (v := ((-a) / b) + 1) (dcq dc_X4_over_0 27 rfl) rfl ?_
      refine J_goto F 48 (dcq dc_X4_over_0 28 rfl) (by decide) ?_
      refine J_lstore F (lv2 := [(10, .long (((-a) / b) + 1)), (8, .long ((-a) - (((-a) / b) * b))), (6, .long ((-a) / b)), (4, .long (-a)), (0, .long a), (2, .long b)]) (dcq dc_X4_over_0 30 rfl) (Nat.le_of_ble_eq_true rfl) rfl ?_
      refine J_lload_n F 4 (dcq dc_X4_over_0 31 rfl) rfl rfl ?_
      refine J_lconst F (dcq dc_X4_over_0 32 rfl) lc_0 ?_
      refine J_lcmp_ge F 62 (dcq dc_X4_over_0 33 rfl) (dcq dc_X4_over_0 34 rfl) (by decide) (fun h_7 => ?_) (fun h_7 => ?_)
      · skip
        have ha2 := h_7
        refine J_lload F 0 (dcq dc_X4_over_0 38 rfl) rfl ?_
        exact J_lret F ⟨((-a) / b) + 1, rfl, rfl, by rw [quo_pos hb]; unfold qt absL; first | (have ha9 := Int64.not_le.mp ha; simp only [if_pos ha9, if_pos hr]; done) | (have ha9 := Int64.not_le.mp ha; simp only [if_pos ha9, if_neg hr]; done) | (have ha9 := Int64.not_lt.mpr ha; simp only [if_neg ha9, if_pos hr]; done) | (have ha9 := Int64.not_lt.mpr ha; simp only [if_neg ha9, if_neg hr]; done) | exact absurd ha ha2 | exact absurd ha2 ha⟩ (Nat.le_of_ble_eq_true rfl) (Nat.le_of_ble_eq_true rfl) (dcq dc_X4_over_0 39 rfl)
      · skip
        have ha2 := h_7
        refine J_lload F 0 (dcq dc_X4_over_0 35 rfl) rfl ?_
        refine J_lneg F (v := -(((-a) / b) + 1)) (dcq dc_X4_over_0 36 rfl) rfl ?_
        refine J_goto F 64 (dcq dc_X4_over_0 37 rfl) (by decide) ?_
        exact J_lret F ⟨-(((-a) / b) + 1), rfl, rfl, by rw [quo_pos hb]; unfold qt absL; first | (have ha9 := Int64.not_le.mp ha; simp only [if_pos ha9, if_pos hr]; done) | (have ha9 := Int64.not_le.mp ha; simp only [if_pos ha9, if_neg hr]; done) | (have ha9 := Int64.not_lt.mpr ha; simp only [if_neg ha9, if_pos hr]; done) | (have ha9 := Int64.not_lt.mpr ha; simp only [if_neg ha9, if_neg hr]; done) | exact absurd ha ha2 | exact absurd ha2 ha⟩ (Nat.le_of_ble_eq_true rfl) (Nat.le_of_ble_eq_true rfl) (dcq dc_X4_over_0 39 rfl)

abbrev po_X4_size (G : Gt) (x : Int64) : Option Value → va_W → Prop := fun (v9 : Option Value) (w9 : va_W) => ∃ (r : Int64), v9 = some (.long r) ∧ w9 = [] ∧ (r = absL x)
set_option maxHeartbeats 4000000 in
set_option maxRecDepth 100000 in
theorem c_X4_size (l : Launch) (hl : l.stackTraces = false) (G : Gt) (x : Int64) : Con l G yX4_size cX4_size 2 (some .long) 0 0 0 0 [.long x] [] (po_X4_size G x) := by
  refine Con.of hl cd_X4_size (Nat.le_of_ble_eq_true rfl) ?_
  intro p e s m args below meth c A F hin9
  change Fx p l s m args meth c G A "SeasonalAdjusterModel" cX4_size 2 (some .long) at F
  change J p l e (cRm 0 0 0 0) s m args below meth c G A 2 (JQ below G A (po_X4_size G x) args s 0 0) 0 0 0 [(0, .long x)] [] []
  refine J_lload_n F 0 (dcq dc_X4_size_0 0 rfl) rfl rfl ?_
  refine J_lconst F (dcq dc_X4_size_0 1 rfl) lc_0 ?_
  refine J_lcmp_ge F 11 (dcq dc_X4_size_0 2 rfl) (dcq dc_X4_size_0 3 rfl) (by decide) (fun h_1 => ?_) (fun h_1 => ?_)
  · skip
    have h1 := h_1
    refine J_lload_n F 0 (dcq dc_X4_size_0 7 rfl) rfl rfl ?_
    exact J_lret F ⟨x, rfl, rfl, by unfold absL; first | exact (if_pos (Int64.not_le.mp h1)).symm | exact (if_neg (Int64.not_lt.mpr h1)).symm⟩ (Nat.le_of_ble_eq_true rfl) (Nat.le_of_ble_eq_true rfl) (dcq dc_X4_size_0 8 rfl)
  · skip
    have h1 := h_1
    refine J_lload_n F 0 (dcq dc_X4_size_0 4 rfl) rfl rfl ?_
    refine J_lneg F (v := -x) (dcq dc_X4_size_0 5 rfl) rfl ?_
    refine J_goto F 12 (dcq dc_X4_size_0 6 rfl) (by decide) ?_
    exact J_lret F ⟨-x, rfl, rfl, by unfold absL; first | exact (if_pos (Int64.not_le.mp h1)).symm | exact (if_neg (Int64.not_lt.mpr h1)).symm⟩ (Nat.le_of_ble_eq_true rfl) (Nat.le_of_ble_eq_true rfl) (dcq dc_X4_size_0 8 rfl)

abbrev po_X4_size_ (G : Gt) (qm m0 m1 m2 m3 m4 m5 m6 m7 m8 m9 m10 m11 hc rf : Nat) (sp ha : Int64) (nw : Nat → Int32) (P M R n : Nat) (v g d : Nat → Int32) : Option Value → va_W → Prop := fun (v9 : Option Value) (w9 : va_W) => v9 = some (.int (nI n)) ∧ w9 = [oB 4 qm [.ref m0, .ref m1, .int (nI hc), .int (nI 0), .ref m2, .ref m3, .ref m4, .ref m5, .ref m6, .ref m7, .ref m8, .long sp, .ref m9, .ref m10, .ref m11, .long ha], aI G m0 220 nw]
set_option maxHeartbeats 4000000 in
set_option maxRecDepth 100000 in
theorem c_X4_size_ (l : Launch) (hl : l.stackTraces = false) (G : Gt) (qm m0 m1 m2 m3 m4 m5 m6 m7 m8 m9 m10 m11 hc rf : Nat) (sp ha : Int64) (nw : Nat → Int32) (P M R n : Nat) (v g d : Nat → Int32) (hRM : RM nw P M R n v g d) : Con l G yX4_size_ cX4_size_ 1 (some .int) 0 0 0 0 [.ref qm] [oB 4 qm [.ref m0, .ref m1, .int (nI hc), .int (nI rf), .ref m2, .ref m3, .ref m4, .ref m5, .ref m6, .ref m7, .ref m8, .long sp, .ref m9, .ref m10, .ref m11, .long ha], aI G m0 220 nw] (po_X4_size_ G qm m0 m1 m2 m3 m4 m5 m6 m7 m8 m9 m10 m11 hc rf sp ha nw P M R n v g d) := by
  refine Con.of hl cd_X4_size_ (Nat.le_of_ble_eq_true rfl) ?_
  intro p e s m args below meth c A F hin9
  change Fx p l s m args meth c G A "SeasonalAdjusterModel" cX4_size_ 1 (some .int) at F
  change J p l e (cRm 0 0 0 0) s m args below meth c G A 1 (JQ below G A (po_X4_size_ G qm m0 m1 m2 m3 m4 m5 m6 m7 m8 m9 m10 m11 hc rf sp ha nw P M R n v g d) args s 0 0) 0 0 0 [(0, .ref qm)] [] [oB 4 qm [.ref m0, .ref m1, .int (nI hc), .int (nI rf), .ref m2, .ref m3, .ref m4, .ref m5, .ref m6, .ref m7, .ref m8, .long sp, .ref m9, .ref m10, .ref m11, .long ha], aI G m0 220 nw]
  refine J_aload_n F 0 (dcq dc_X4_size__0 0 rfl) rfl rfl ?_
  refine J_iconst F (dcq dc_X4_size__0 1 rfl) ic_0 ?_
  refine J_put F (ws2 := [oB 4 qm [.ref m0, .ref m1, .int (nI hc), .int (nI 0), .ref m2, .ref m3, .ref m4, .ref m5, .ref m6, .ref m7, .ref m8, .long sp, .ref m9, .ref m10, .ref m11, .long ha], aI G m0 220 nw]) fcX4 0 3 rfl (Nat.le_of_ble_eq_true rfl) tw_3_226 rfl rfl rfl rfl (Nat.le_of_ble_eq_true rfl) rfl (dcq dc_X4_size__0 2 rfl) ?_
  refine J_aload_n F 0 (dcq dc_X4_size__0 3 rfl) rfl rfl ?_
  refine J_get F fcX4 0 0 rfl (Nat.le_of_ble_eq_true rfl) tw_3_223 rfl rfl (dcq dc_X4_size__0 4 rfl) ?_
  refine J_iconst F (dcq dc_X4_size__0 5 rfl) ic_3 ?_
  refine J_iald F 1 rfl (by omega) (Nat.le_of_ble_eq_true rfl) (dcq dc_X4_size__0 6 rfl) ?_
  refine J_cast rfl (st2 := [.int (nI n)]) (by rw [hRM.2.2.2.1]) rfl ?_
  exact J_iret F ⟨rfl, rfl⟩ (Nat.le_of_ble_eq_true rfl) (Nat.le_of_ble_eq_true rfl) (dcq dc_X4_size__0 7 rfl)

abbrev po_X4_saves (G : Gt) (qm m0 m1 m2 m3 m4 m5 m6 m7 m8 m9 m10 m11 hc rf : Nat) (sp ha : Int64) (nw : Nat → Int32) (pp : Nat → Int32) : Option Value → va_W → Prop := fun (v9 : Option Value) (w9 : va_W) => ∃ (c2 : Nat), ∃ (pp2 : Nat → Int32), v9 = none ∧ w9 = [oB 4 qm [.ref m0, .ref m1, .int (nI c2), .int (nI rf), .ref m2, .ref m3, .ref m4, .ref m5, .ref m6, .ref m7, .ref m8, .long sp, .ref m9, .ref m10, .ref m11, .long ha], aI G m0 220 nw, aI G m1 880 pp2] ∧ (MSV hc pp nw c2 pp2)
set_option maxHeartbeats 4000000 in
set_option maxRecDepth 100000 in
theorem c_X4_saves (l : Launch) (hl : l.stackTraces = false) (G : Gt) (qm m0 m1 m2 m3 m4 m5 m6 m7 m8 m9 m10 m11 hc rf : Nat) (sp ha : Int64) (nw : Nat → Int32) (pp : Nat → Int32) (hhc : hc ≤ 4) : Con l G yX4_saves cX4_saves 2 none 0 0 0 0 [.ref qm] [oB 4 qm [.ref m0, .ref m1, .int (nI hc), .int (nI rf), .ref m2, .ref m3, .ref m4, .ref m5, .ref m6, .ref m7, .ref m8, .long sp, .ref m9, .ref m10, .ref m11, .long ha], aI G m0 220 nw, aI G m1 880 pp] (po_X4_saves G qm m0 m1 m2 m3 m4 m5 m6 m7 m8 m9 m10 m11 hc rf sp ha nw pp) := by
  refine Con.of hl cd_X4_saves (Nat.le_of_ble_eq_true rfl) ?_
  intro p e s m args below meth c A F hin9
  change Fx p l s m args meth c G A "SeasonalAdjusterModel" cX4_saves 2 none at F
  change J p l e (cRm 0 0 0 0) s m args below meth c G A 2 (JQ below G A (po_X4_saves G qm m0 m1 m2 m3 m4 m5 m6 m7 m8 m9 m10 m11 hc rf sp ha nw pp) args s 0 0) 0 0 0 [(0, .ref qm)] [] [oB 4 qm [.ref m0, .ref m1, .int (nI hc), .int (nI rf), .ref m2, .ref m3, .ref m4, .ref m5, .ref m6, .ref m7, .ref m8, .long sp, .ref m9, .ref m10, .ref m11, .long ha], aI G m0 220 nw, aI G m1 880 pp]
  refine J_aload_n F 0 (dcq dc_X4_saves_0 0 rfl) rfl rfl ?_
  refine J_get F fcX4 0 2 rfl (Nat.le_of_ble_eq_true rfl) tw_3_225 rfl rfl (dcq dc_X4_saves_0 1 rfl) ?_
  refine J_iconst F (dcq dc_X4_saves_0 2 rfl) ic_4 ?_
  refine J_ncmp_ne F 49 (by omega) (by omega) (dcq dc_X4_saves_0 3 rfl) (by decide) (fun h_1 => ?_) (fun h_1 => ?_)
  · skip
    have h4 := h_1
    refine J_iconst F (dcq dc_X4_saves_0 27 rfl) ic_0 ?_
    refine J_istore_n F (lv2 := [(1, .int (nI 0)), (0, .ref qm)]) (dcq dc_X4_saves_0 28 rfl) rfl (Nat.le_of_ble_eq_true rfl) rfl ?_
    have L51 : ∀ (fu51 : Nat), ∀ (k2 c0 : Nat) (pb : Nat → Int32), (k2 ≤ 220) → (c0 = if hc = 4 then 3 else hc) → (c0 ≤ 3) → (∀ i, i < k2 → pb (220 * c0 + i) = nw i) → (∀ j, j < 220 * c0 → pb j = if hc = 4 then pp (j + 220) else pp j) → 220 - k2 < fu51 → J p l e (cRm 0 0 0 0) s m args below meth c G A 2 (JQ below G A (po_X4_saves G qm m0 m1 m2 m3 m4 m5 m6 m7 m8 m9 m10 m11 hc rf sp ha nw pp) args s 0 0) 0 0 51 [(0, .ref qm), (1, .int (nI k2))] [] [oB 4 qm [.ref m0, .ref m1, .int (nI c0), .int (nI rf), .ref m2, .ref m3, .ref m4, .ref m5, .ref m6, .ref m7, .ref m8, .long sp, .ref m9, .ref m10, .ref m11, .long ha], aI G m0 220 nw, aI G m1 880 pb] := by
      intro fu51
      induction fu51 with
      | zero => intro k2 c0 pb hk2 hc0 hc3 b1 b2 hm51; exact absurd hm51 (Nat.not_lt_zero _)
      | succ fu51 ih51 =>
        intro k2 c0 pb hk2 hc0 hc3 b1 b2 hm51
        refine J_iload_n F 1 (dcq dc_X4_saves_0 29 rfl) rfl rfl ?_
        refine J_sipush F (dcq dc_X4_saves_0 30 rfl) sc_220 ?_
        refine J_ncmp_ge F 85 (by omega) (by omega) (dcq dc_X4_saves_0 31 rfl) (by decide) (fun h_2 => ?_) (fun h_2 => ?_)
        · skip
          refine J_aload_n F 0 (dcq dc_X4_saves_0 47 rfl) rfl rfl ?_
          refine J_dup F (dcq dc_X4_saves_1 0 rfl) rfl ?_
          refine J_get F fcX4 0 2 rfl (Nat.le_of_ble_eq_true rfl) tw_3_225 rfl rfl (dcq dc_X4_saves_1 1 rfl) ?_
          refine J_iconst F (dcq dc_X4_saves_1 2 rfl) ic_1 ?_
          refine J_iadd F (v := nI (c0 + 1)) (dcq dc_X4_saves_1 3 rfl) (nI_add _ _) ?_
          refine J_put F (ws2 := [oB 4 qm [.ref m0, .ref m1, .int (nI (c0 + 1)), .int (nI rf), .ref m2, .ref m3, .ref m4, .ref m5, .ref m6, .ref m7, .ref m8, .long sp, .ref m9, .ref m10, .ref m11, .long ha], aI G m0 220 nw, aI G m1 880 pb]) fcX4 0 2 rfl (Nat.le_of_ble_eq_true rfl) tw_3_225 rfl rfl rfl rfl (Nat.le_of_ble_eq_true rfl) rfl (dcq dc_X4_saves_1 4 rfl) ?_
          exact J_vret F ⟨c0 + 1, pb, rfl, rfl, msv_of hhc hc0 (fun i h => b1 i (by omega)) b2⟩ (Nat.le_of_ble_eq_true rfl) (Nat.le_of_ble_eq_true rfl) (dcq dc_X4_saves_1 5 rfl)
        · skip
          refine J_aload_n F 0 (dcq dc_X4_saves_0 32 rfl) rfl rfl ?_
          refine J_get F fcX4 0 1 rfl (Nat.le_of_ble_eq_true rfl) tw_3_224 rfl rfl (dcq dc_X4_saves_0 33 rfl) ?_
          refine J_sipush F (dcq dc_X4_saves_0 34 rfl) sc_220 ?_
          refine J_aload_n F 0 (dcq dc_X4_saves_0 35 rfl) rfl rfl ?_
          refine J_get F fcX4 0 2 rfl (Nat.le_of_ble_eq_true rfl) tw_3_225 rfl rfl (dcq dc_X4_saves_0 36 rfl) ?_
          refine J_imul F (v := nI (220 * c0)) (dcq dc_X4_saves_0 37 rfl) (pk_mul _ _) ?_
          refine J_iload_n F 1 (dcq dc_X4_saves_0 38 rfl) rfl rfl ?_
          refine J_iadd F (v := nI (220 * c0 + k2)) (dcq dc_X4_saves_0 39 rfl) (nI_add _ _) ?_
          refine J_aload_n F 0 (dcq dc_X4_saves_0 40 rfl) rfl rfl ?_
          refine J_get F fcX4 0 0 rfl (Nat.le_of_ble_eq_true rfl) tw_3_223 rfl rfl (dcq dc_X4_saves_0 41 rfl) ?_
          refine J_iload_n F 1 (dcq dc_X4_saves_0 42 rfl) rfl rfl ?_
          refine J_iald F 1 rfl (by omega) (Nat.le_of_ble_eq_true rfl) (dcq dc_X4_saves_0 43 rfl) ?_
          refine J_iast F (ws2 := [oB 4 qm [.ref m0, .ref m1, .int (nI c0), .int (nI rf), .ref m2, .ref m3, .ref m4, .ref m5, .ref m6, .ref m7, .ref m8, .long sp, .ref m9, .ref m10, .ref m11, .long ha], aI G m0 220 nw, aI G m1 880 (upd pb (220 * c0 + k2) (nw k2))]) 2 rfl (by omega) (Nat.le_of_ble_eq_true rfl) rfl (dcq dc_X4_saves_0 44 rfl) ?_
          refine J_iinc F (lv2 := [(1, .int (nI (k2 + 1))), (0, .ref qm)]) (v := nI (k2 + 1)) 1 (dcq dc_X4_saves_0 45 rfl) rfl (nI_inc _) (Nat.le_of_ble_eq_true rfl) rfl ?_
          refine J_goto F 51 (dcq dc_X4_saves_0 46 rfl) (by decide) ?_
          refine J_locs [1, 0] rfl ?_
          exact ih51 (k2 + 1) c0 (upd pb (220 * c0 + k2) (nw k2)) (by omega) (by omega) (by omega) (blk_step b1) (low_blk b2) (by omega)
    refine J_locs [1, 0] rfl ?_
    exact L51 (220 - 0 + 1) 0 hc pp (by omega) (by first | rw [if_pos h4, h4] | rw [if_neg h4]) (by omega) (fun i h => absurd h (Nat.not_lt_zero _)) (fun j h => by first | rw [if_pos h4]; exact a1 j (Nat.zero_le _) (by omega) | rw [if_neg h4]) (Nat.lt_succ_self _)
  · skip
    have h4 := h_1
    refine J_iconst F (dcq dc_X4_saves_0 4 rfl) ic_0 ?_
    refine J_istore_n F (lv2 := [(1, .int (nI 0)), (0, .ref qm)]) (dcq dc_X4_saves_0 5 rfl) rfl (Nat.le_of_ble_eq_true rfl) rfl ?_
    have L10 : ∀ (fu10 : Nat), ∀ (k : Nat) (pa : Nat → Int32), (k ≤ 660) → (∀ j, 0 ≤ j → j < k → pa j = pp (j + 220)) → (∀ j, k ≤ j → pa j = pp j) → 660 - k < fu10 → J p l e (cRm 0 0 0 0) s m args below meth c G A 2 (JQ below G A (po_X4_saves G qm m0 m1 m2 m3 m4 m5 m6 m7 m8 m9 m10 m11 hc rf sp ha nw pp) args s 0 0) 0 0 10 [(0, .ref qm), (1, .int (nI k))] [] [oB 4 qm [.ref m0, .ref m1, .int (nI hc), .int (nI rf), .ref m2, .ref m3, .ref m4, .ref m5, .ref m6, .ref m7, .ref m8, .long sp, .ref m9, .ref m10, .ref m11, .long ha], aI G m0 220 nw, aI G m1 880 pa] := by
      intro fu10
      induction fu10 with
      | zero => intro k pa hk a1 a2 hm10; exact absurd hm10 (Nat.not_lt_zero _)
      | succ fu10 ih10 =>
        intro k pa hk a1 a2 hm10
        refine J_iload_n F 1 (dcq dc_X4_saves_0 6 rfl) rfl rfl ?_
        refine J_sipush F (dcq dc_X4_saves_0 7 rfl) sc_660 ?_
        refine J_ncmp_ge F 39 (by omega) (by omega) (dcq dc_X4_saves_0 8 rfl) (by decide) (fun h_3 => ?_) (fun h_3 => ?_)
        · skip
          refine J_aload_n F 0 (dcq dc_X4_saves_0 21 rfl) rfl rfl ?_
          refine J_dup F (dcq dc_X4_saves_0 22 rfl) rfl ?_
          refine J_get F fcX4 0 2 rfl (Nat.le_of_ble_eq_true rfl) tw_3_225 rfl rfl (dcq dc_X4_saves_0 23 rfl) ?_
          refine J_iconst F (dcq dc_X4_saves_0 24 rfl) ic_1 ?_
          refine J_isub F (v := nI (hc - 1)) (dcq dc_X4_saves_0 25 rfl) (pk_sub (by omega)) ?_
          refine J_put F (ws2 := [oB 4 qm [.ref m0, .ref m1, .int (nI (hc - 1)), .int (nI rf), .ref m2, .ref m3, .ref m4, .ref m5, .ref m6, .ref m7, .ref m8, .long sp, .ref m9, .ref m10, .ref m11, .long ha], aI G m0 220 nw, aI G m1 880 pa]) fcX4 0 2 rfl (Nat.le_of_ble_eq_true rfl) tw_3_225 rfl rfl rfl rfl (Nat.le_of_ble_eq_true rfl) rfl (dcq dc_X4_saves_0 26 rfl) ?_
          refine J_iconst F (dcq dc_X4_saves_0 27 rfl) ic_0 ?_
          refine J_istore_n F (lv2 := [(1, .int (nI 0)), (0, .ref qm)]) (dcq dc_X4_saves_0 28 rfl) rfl (Nat.le_of_ble_eq_true rfl) rfl ?_
          have L51 : ∀ (fu51 : Nat), ∀ (k2 c0 : Nat) (pb : Nat → Int32), (k2 ≤ 220) → (c0 = if hc = 4 then 3 else hc) → (c0 ≤ 3) → (∀ i, i < k2 → pb (220 * c0 + i) = nw i) → (∀ j, j < 220 * c0 → pb j = if hc = 4 then pp (j + 220) else pp j) → 220 - k2 < fu51 → J p l e (cRm 0 0 0 0) s m args below meth c G A 2 (JQ below G A (po_X4_saves G qm m0 m1 m2 m3 m4 m5 m6 m7 m8 m9 m10 m11 hc rf sp ha nw pp) args s 0 0) 0 0 51 [(0, .ref qm), (1, .int (nI k2))] [] [oB 4 qm [.ref m0, .ref m1, .int (nI c0), .int (nI rf), .ref m2, .ref m3, .ref m4, .ref m5, .ref m6, .ref m7, .ref m8, .long sp, .ref m9, .ref m10, .ref m11, .long ha], aI G m0 220 nw, aI G m1 880 pb] := by
            intro fu51
            induction fu51 with
            | zero => intro k2 c0 pb hk2 hc0 hc3 b1 b2 hm51; exact absurd hm51 (Nat.not_lt_zero _)
            | succ fu51 ih51 =>
              intro k2 c0 pb hk2 hc0 hc3 b1 b2 hm51
              refine J_iload_n F 1 (dcq dc_X4_saves_0 29 rfl) rfl rfl ?_
              refine J_sipush F (dcq dc_X4_saves_0 30 rfl) sc_220 ?_
              refine J_ncmp_ge F 85 (by omega) (by omega) (dcq dc_X4_saves_0 31 rfl) (by decide) (fun h_4 => ?_) (fun h_4 => ?_)
              · skip
                refine J_aload_n F 0 (dcq dc_X4_saves_0 47 rfl) rfl rfl ?_
                refine J_dup F (dcq dc_X4_saves_1 0 rfl) rfl ?_
                refine J_get F fcX4 0 2 rfl (Nat.le_of_ble_eq_true rfl) tw_3_225 rfl rfl (dcq dc_X4_saves_1 1 rfl) ?_
                refine J_iconst F (dcq dc_X4_saves_1 2 rfl) ic_1 ?_
                refine J_iadd F (v := nI (c0 + 1)) (dcq dc_X4_saves_1 3 rfl) (nI_add _ _) ?_
                refine J_put F (ws2 := [oB 4 qm [.ref m0, .ref m1, .int (nI (c0 + 1)), .int (nI rf), .ref m2, .ref m3, .ref m4, .ref m5, .ref m6, .ref m7, .ref m8, .long sp, .ref m9, .ref m10, .ref m11, .long ha], aI G m0 220 nw, aI G m1 880 pb]) fcX4 0 2 rfl (Nat.le_of_ble_eq_true rfl) tw_3_225 rfl rfl rfl rfl (Nat.le_of_ble_eq_true rfl) rfl (dcq dc_X4_saves_1 4 rfl) ?_
                exact J_vret F ⟨c0 + 1, pb, rfl, rfl, msv_of hhc hc0 (fun i h => b1 i (by omega)) b2⟩ (Nat.le_of_ble_eq_true rfl) (Nat.le_of_ble_eq_true rfl) (dcq dc_X4_saves_1 5 rfl)
              · skip
                refine J_aload_n F 0 (dcq dc_X4_saves_0 32 rfl) rfl rfl ?_
                refine J_get F fcX4 0 1 rfl (Nat.le_of_ble_eq_true rfl) tw_3_224 rfl rfl (dcq dc_X4_saves_0 33 rfl) ?_
                refine J_sipush F (dcq dc_X4_saves_0 34 rfl) sc_220 ?_
                refine J_aload_n F 0 (dcq dc_X4_saves_0 35 rfl) rfl rfl ?_
                refine J_get F fcX4 0 2 rfl (Nat.le_of_ble_eq_true rfl) tw_3_225 rfl rfl (dcq dc_X4_saves_0 36 rfl) ?_
                refine J_imul F (v := nI (220 * c0)) (dcq dc_X4_saves_0 37 rfl) (pk_mul _ _) ?_
                refine J_iload_n F 1 (dcq dc_X4_saves_0 38 rfl) rfl rfl ?_
                refine J_iadd F (v := nI (220 * c0 + k2)) (dcq dc_X4_saves_0 39 rfl) (nI_add _ _) ?_
                refine J_aload_n F 0 (dcq dc_X4_saves_0 40 rfl) rfl rfl ?_
                refine J_get F fcX4 0 0 rfl (Nat.le_of_ble_eq_true rfl) tw_3_223 rfl rfl (dcq dc_X4_saves_0 41 rfl) ?_
                refine J_iload_n F 1 (dcq dc_X4_saves_0 42 rfl) rfl rfl ?_
                refine J_iald F 1 rfl (by omega) (Nat.le_of_ble_eq_true rfl) (dcq dc_X4_saves_0 43 rfl) ?_
                refine J_iast F (ws2 := [oB 4 qm [.ref m0, .ref m1, .int (nI c0), .int (nI rf), .ref m2, .ref m3, .ref m4, .ref m5, .ref m6, .ref m7, .ref m8, .long sp, .ref m9, .ref m10, .ref m11, .long ha], aI G m0 220 nw, aI G m1 880 (upd pb (220 * c0 + k2) (nw k2))]) 2 rfl (by omega) (Nat.le_of_ble_eq_true rfl) rfl (dcq dc_X4_saves_0 44 rfl) ?_
                refine J_iinc F (lv2 := [(1, .int (nI (k2 + 1))), (0, .ref qm)]) (v := nI (k2 + 1)) 1 (dcq dc_X4_saves_0 45 rfl) rfl (nI_inc _) (Nat.le_of_ble_eq_true rfl) rfl ?_
                refine J_goto F 51 (dcq dc_X4_saves_0 46 rfl) (by decide) ?_
                refine J_locs [1, 0] rfl ?_
                exact ih51 (k2 + 1) c0 (upd pb (220 * c0 + k2) (nw k2)) (by omega) (by omega) (by omega) (blk_step b1) (low_blk b2) (by omega)
          refine J_locs [1, 0] rfl ?_
          exact L51 (220 - 0 + 1) 0 (hc - 1) pa (by omega) (by first | rw [if_pos h4, h4] | rw [if_neg h4]) (by omega) (fun i h => absurd h (Nat.not_lt_zero _)) (fun j h => by first | rw [if_pos h4]; exact a1 j (Nat.zero_le _) (by omega) | rw [if_neg h4]) (Nat.lt_succ_self _)
        · skip
          refine J_aload_n F 0 (dcq dc_X4_saves_0 9 rfl) rfl rfl ?_
          refine J_get F fcX4 0 1 rfl (Nat.le_of_ble_eq_true rfl) tw_3_224 rfl rfl (dcq dc_X4_saves_0 10 rfl) ?_
          refine J_iload_n F 1 (dcq dc_X4_saves_0 11 rfl) rfl rfl ?_
          refine J_aload_n F 0 (dcq dc_X4_saves_0 12 rfl) rfl rfl ?_
          refine J_get F fcX4 0 1 rfl (Nat.le_of_ble_eq_true rfl) tw_3_224 rfl rfl (dcq dc_X4_saves_0 13 rfl) ?_
          refine J_iload_n F 1 (dcq dc_X4_saves_0 14 rfl) rfl rfl ?_
          refine J_sipush F (dcq dc_X4_saves_0 15 rfl) sc_220 ?_
          refine J_iadd F (v := nI (k + 220)) (dcq dc_X4_saves_0 16 rfl) (nI_add _ _) ?_
          refine J_iald F 2 rfl (by omega) (Nat.le_of_ble_eq_true rfl) (dcq dc_X4_saves_0 17 rfl) ?_
          refine J_iast F (ws2 := [oB 4 qm [.ref m0, .ref m1, .int (nI hc), .int (nI rf), .ref m2, .ref m3, .ref m4, .ref m5, .ref m6, .ref m7, .ref m8, .long sp, .ref m9, .ref m10, .ref m11, .long ha], aI G m0 220 nw, aI G m1 880 (upd pa k (pa (k + 220)))]) 2 rfl (by omega) (Nat.le_of_ble_eq_true rfl) rfl (dcq dc_X4_saves_0 18 rfl) ?_
          refine J_iinc F (lv2 := [(1, .int (nI (k + 1))), (0, .ref qm)]) (v := nI (k + 1)) 1 (dcq dc_X4_saves_0 19 rfl) rfl (nI_inc _) (Nat.le_of_ble_eq_true rfl) rfl ?_
          refine J_goto F 10 (dcq dc_X4_saves_0 20 rfl) (by decide) ?_
          refine J_locs [1, 0] rfl ?_
          exact ih10 (k + 1) (upd pa k (pa (k + 220))) (by omega) (up_i (s := fun j => pp (j + 220)) a1 (a2 (k + 220) (by omega))) (fun j h => by rw [pk_un (by omega)]; exact a2 j (by omega)) (by omega)
    refine J_locs [1, 0] rfl ?_
    exact L10 (660 - 0 + 1) 0 pp (by omega) (fun j _ h => absurd h (Nat.not_lt_zero _)) (fun _ _ => rfl) (Nat.lt_succ_self _)

abbrev po_X4_undo (G : Gt) (qm m0 m1 m2 m3 m4 m5 m6 m7 m8 m9 m10 m11 hc rf : Nat) (sp ha : Int64) (nw : Nat → Int32) (pp : Nat → Int32) : Option Value → va_W → Prop := fun (v9 : Option Value) (w9 : va_W) => (∃ (c2 : Nat), ∃ (nw2 : Nat → Int32), v9 = some (.int (nI c2)) ∧ w9 = [oB 4 qm [.ref m0, .ref m1, .int (nI c2), .int (nI 0), .ref m2, .ref m3, .ref m4, .ref m5, .ref m6, .ref m7, .ref m8, .long sp, .ref m9, .ref m10, .ref m11, .long ha], aI G m0 220 nw2, aI G m1 880 pp] ∧ (c2 + 1 = hc) ∧ (∀ i, i < 220 → nw2 i = pp (220 * c2 + i))) ∨ (v9 = some (.int (nI 0)) ∧ w9 = [oB 4 qm [.ref m0, .ref m1, .int (nI hc), .int (nI 1), .ref m2, .ref m3, .ref m4, .ref m5, .ref m6, .ref m7, .ref m8, .long sp, .ref m9, .ref m10, .ref m11, .long ha], aI G m0 220 nw, aI G m1 880 pp] ∧ (hc = 0))
set_option maxHeartbeats 4000000 in
set_option maxRecDepth 100000 in
theorem c_X4_undo (l : Launch) (hl : l.stackTraces = false) (G : Gt) (qm m0 m1 m2 m3 m4 m5 m6 m7 m8 m9 m10 m11 hc rf : Nat) (sp ha : Int64) (nw : Nat → Int32) (pp : Nat → Int32) (hhc : hc ≤ 4) : Con l G yX4_undo cX4_undo 2 (some .int) 1 21 0 0 [.ref qm] [oB 4 qm [.ref m0, .ref m1, .int (nI hc), .int (nI rf), .ref m2, .ref m3, .ref m4, .ref m5, .ref m6, .ref m7, .ref m8, .long sp, .ref m9, .ref m10, .ref m11, .long ha], aI G m0 220 nw, aI G m1 880 pp] (po_X4_undo G qm m0 m1 m2 m3 m4 m5 m6 m7 m8 m9 m10 m11 hc rf sp ha nw pp) := by
  refine Con.of hl cd_X4_undo (Nat.le_of_ble_eq_true rfl) ?_
  intro p e s m args below meth c A F hin9
  change Fx p l s m args meth c G A "SeasonalAdjusterModel" cX4_undo 2 (some .int) at F
  change J p l e (cRm 1 21 0 0) s m args below meth c G A 2 (JQ below G A (po_X4_undo G qm m0 m1 m2 m3 m4 m5 m6 m7 m8 m9 m10 m11 hc rf sp ha nw pp) args s 0 0) 0 0 0 [(0, .ref qm)] [] [oB 4 qm [.ref m0, .ref m1, .int (nI hc), .int (nI rf), .ref m2, .ref m3, .ref m4, .ref m5, .ref m6, .ref m7, .ref m8, .long sp, .ref m9, .ref m10, .ref m11, .long ha], aI G m0 220 nw, aI G m1 880 pp]
  refine J_aload_n F 0 (dcq dc_X4_undo_0 0 rfl) rfl rfl ?_
  refine J_aload_n F 0 (dcq dc_X4_undo_0 1 rfl) rfl rfl ?_
  refine J_get F fcX4 0 2 rfl (Nat.le_of_ble_eq_true rfl) tw_3_225 rfl rfl (dcq dc_X4_undo_0 2 rfl) ?_
  refine J_nif_ne F 12 (by omega) (dcq dc_X4_undo_0 3 rfl) (by decide) (fun h_1 => ?_) (fun h_1 => ?_)
  · skip
    refine J_iconst F (dcq dc_X4_undo_0 6 rfl) ic_0 ?_
    refine J_callV F (wc := [oB 4 qm [.ref m0, .ref m1, .int (nI hc), .int (nI rf), .ref m2, .ref m3, .ref m4, .ref m5, .ref m6, .ref m7, .ref m8, .long sp, .ref m9, .ref m10, .ref m11, .long ha]]) (wr := [aI G m0 220 nw, aI G m1 880 pp]) (rest := []) (qc := 0) (c_X4_refused_0 l hl G qm m0 m1 m2 m3 m4 m5 m6 m7 m8 m9 m10 m11 hc rf sp ha) cd_X4_refused cv_X4_refused rfl rfl rfl tw_4_40 [0] [1, 2] rfl rfl rfl rfl (by decide) rfl ⟨(Nat.le_of_ble_eq_true rfl), (Nat.le_of_ble_eq_true rfl), (Nat.le_of_ble_eq_true rfl), (Nat.le_of_ble_eq_true rfl)⟩ (Nat.le_of_ble_eq_true rfl) rfl (dcq dc_X4_undo_0 7 rfl) ?_
    rintro _ _ ⟨rfl, rfl⟩
    change J p l e (cRm 1 21 0 0) s m args below meth c G A 2 (JQ below G A (po_X4_undo G qm m0 m1 m2 m3 m4 m5 m6 m7 m8 m9 m10 m11 hc rf sp ha nw pp) args s 0 0) 0 0 16 [(0, .ref qm)] [.int (nI 0)] [aI G m0 220 nw, aI G m1 880 pp, oB 4 qm [.ref m0, .ref m1, .int (nI hc), .int (nI 0), .ref m2, .ref m3, .ref m4, .ref m5, .ref m6, .ref m7, .ref m8, .long sp, .ref m9, .ref m10, .ref m11, .long ha]]
    refine J_world (ws2 := [oB 4 qm [.ref m0, .ref m1, .int (nI hc), .int (nI 0), .ref m2, .ref m3, .ref m4, .ref m5, .ref m6, .ref m7, .ref m8, .long sp, .ref m9, .ref m10, .ref m11, .long ha], aI G m0 220 nw, aI G m1 880 pp]) [2, 0, 1] rfl rfl ?_
    refine J_if_eq F 21 (dcq dc_X4_undo_0 8 rfl) (by decide) (fun _ => ?_) (fun h_2 => absurd h_2 (by decide))
    refine J_aload_n F 0 (dcq dc_X4_undo_0 11 rfl) rfl rfl ?_
    refine J_dup F (dcq dc_X4_undo_0 12 rfl) rfl ?_
    refine J_get F fcX4 0 2 rfl (Nat.le_of_ble_eq_true rfl) tw_3_225 rfl rfl (dcq dc_X4_undo_0 13 rfl) ?_
    refine J_iconst F (dcq dc_X4_undo_0 14 rfl) ic_1 ?_
    refine J_isub F (v := nI (hc - 1)) (dcq dc_X4_undo_0 15 rfl) (pk_sub (by omega)) ?_
    refine J_put F (ws2 := [oB 4 qm [.ref m0, .ref m1, .int (nI (hc - 1)), .int (nI 0), .ref m2, .ref m3, .ref m4, .ref m5, .ref m6, .ref m7, .ref m8, .long sp, .ref m9, .ref m10, .ref m11, .long ha], aI G m0 220 nw, aI G m1 880 pp]) fcX4 0 2 rfl (Nat.le_of_ble_eq_true rfl) tw_3_225 rfl rfl rfl rfl (Nat.le_of_ble_eq_true rfl) rfl (dcq dc_X4_undo_0 16 rfl) ?_
    refine J_iconst F (dcq dc_X4_undo_0 17 rfl) ic_0 ?_
    refine J_istore_n F (lv2 := [(1, .int (nI 0)), (0, .ref qm)]) (dcq dc_X4_undo_0 18 rfl) rfl (Nat.le_of_ble_eq_true rfl) rfl ?_
    have L33 : ∀ (fu33 : Nat), ∀ (k : Nat) (nk : Nat → Int32), (k ≤ 220) → (∀ i, 0 ≤ i → i < k → nk i = pp (220 * (hc - 1) + i)) → 220 - k < fu33 → J p l e (cRm 1 21 0 0) s m args below meth c G A 2 (JQ below G A (po_X4_undo G qm m0 m1 m2 m3 m4 m5 m6 m7 m8 m9 m10 m11 hc rf sp ha nw pp) args s 0 0) 0 0 33 [(0, .ref qm), (1, .int (nI k))] [] [oB 4 qm [.ref m0, .ref m1, .int (nI (hc - 1)), .int (nI 0), .ref m2, .ref m3, .ref m4, .ref m5, .ref m6, .ref m7, .ref m8, .long sp, .ref m9, .ref m10, .ref m11, .long ha], aI G m0 220 nk, aI G m1 880 pp] := by
      intro fu33
      induction fu33 with
      | zero => intro k nk hk b1 hm33; exact absurd hm33 (Nat.not_lt_zero _)
      | succ fu33 ih33 =>
        intro k nk hk b1 hm33
        refine J_iload_n F 1 (dcq dc_X4_undo_0 19 rfl) rfl rfl ?_
        refine J_sipush F (dcq dc_X4_undo_0 20 rfl) sc_220 ?_
        refine J_ncmp_ge F 67 (by omega) (by omega) (dcq dc_X4_undo_0 21 rfl) (by decide) (fun h_3 => ?_) (fun h_3 => ?_)
        · skip
          refine J_aload_n F 0 (dcq dc_X4_undo_0 37 rfl) rfl rfl ?_
          refine J_get F fcX4 0 2 rfl (Nat.le_of_ble_eq_true rfl) tw_3_225 rfl rfl (dcq dc_X4_undo_0 38 rfl) ?_
          exact J_iret F (Or.inl ⟨hc - 1, nk, rfl, rfl, by first | assumption | omega, fun i h => b1 i (Nat.zero_le _) (by omega)⟩) (Nat.le_of_ble_eq_true rfl) (Nat.le_of_ble_eq_true rfl) (dcq dc_X4_undo_0 39 rfl)
        · skip
          refine J_aload_n F 0 (dcq dc_X4_undo_0 22 rfl) rfl rfl ?_
          refine J_get F fcX4 0 0 rfl (Nat.le_of_ble_eq_true rfl) tw_3_223 rfl rfl (dcq dc_X4_undo_0 23 rfl) ?_
          refine J_iload_n F 1 (dcq dc_X4_undo_0 24 rfl) rfl rfl ?_
          refine J_aload_n F 0 (dcq dc_X4_undo_0 25 rfl) rfl rfl ?_
          refine J_get F fcX4 0 1 rfl (Nat.le_of_ble_eq_true rfl) tw_3_224 rfl rfl (dcq dc_X4_undo_0 26 rfl) ?_
          refine J_sipush F (dcq dc_X4_undo_0 27 rfl) sc_220 ?_
          refine J_aload_n F 0 (dcq dc_X4_undo_0 28 rfl) rfl rfl ?_
          refine J_get F fcX4 0 2 rfl (Nat.le_of_ble_eq_true rfl) tw_3_225 rfl rfl (dcq dc_X4_undo_0 29 rfl) ?_
          refine J_imul F (v := nI (220 * (hc - 1))) (dcq dc_X4_undo_0 30 rfl) (pk_mul _ _) ?_
          refine J_iload_n F 1 (dcq dc_X4_undo_0 31 rfl) rfl rfl ?_
          refine J_iadd F (v := nI (220 * (hc - 1) + k)) (dcq dc_X4_undo_0 32 rfl) (nI_add _ _) ?_
          refine J_iald F 2 rfl (by omega) (Nat.le_of_ble_eq_true rfl) (dcq dc_X4_undo_0 33 rfl) ?_
          refine J_iast F (ws2 := [oB 4 qm [.ref m0, .ref m1, .int (nI (hc - 1)), .int (nI 0), .ref m2, .ref m3, .ref m4, .ref m5, .ref m6, .ref m7, .ref m8, .long sp, .ref m9, .ref m10, .ref m11, .long ha], aI G m0 220 (upd nk k (pp (220 * (hc - 1) + k))), aI G m1 880 pp]) 1 rfl (by omega) (Nat.le_of_ble_eq_true rfl) rfl (dcq dc_X4_undo_0 34 rfl) ?_
          refine J_iinc F (lv2 := [(1, .int (nI (k + 1))), (0, .ref qm)]) (v := nI (k + 1)) 1 (dcq dc_X4_undo_0 35 rfl) rfl (nI_inc _) (Nat.le_of_ble_eq_true rfl) rfl ?_
          refine J_goto F 33 (dcq dc_X4_undo_0 36 rfl) (by decide) ?_
          refine J_locs [1, 0] rfl ?_
          exact ih33 (k + 1) (upd nk k (pp (220 * (hc - 1) + k))) (by omega) (up_i (s := fun i => pp (220 * (hc - 1) + i)) b1 rfl) (by omega)
    refine J_locs [1, 0] rfl ?_
    exact L33 (220 - 0 + 1) 0 nw (by omega) (fun i _ h => absurd h (Nat.not_lt_zero _)) (Nat.lt_succ_self _)
  · skip
    refine J_iconst F (dcq dc_X4_undo_0 4 rfl) ic_1 ?_
    refine J_goto F 13 (dcq dc_X4_undo_0 5 rfl) (by decide) ?_
    refine J_callV F (wc := [oB 4 qm [.ref m0, .ref m1, .int (nI hc), .int (nI rf), .ref m2, .ref m3, .ref m4, .ref m5, .ref m6, .ref m7, .ref m8, .long sp, .ref m9, .ref m10, .ref m11, .long ha]]) (wr := [aI G m0 220 nw, aI G m1 880 pp]) (rest := []) (qc := 0) (c_X4_refused_1 l hl G qm m0 m1 m2 m3 m4 m5 m6 m7 m8 m9 m10 m11 hc rf sp ha) cd_X4_refused cv_X4_refused rfl rfl rfl tw_4_40 [0] [1, 2] rfl rfl rfl rfl (by decide) rfl ⟨(Nat.le_of_ble_eq_true rfl), (Nat.le_of_ble_eq_true rfl), (Nat.le_of_ble_eq_true rfl), (Nat.le_of_ble_eq_true rfl)⟩ (Nat.le_of_ble_eq_true rfl) rfl (dcq dc_X4_undo_0 7 rfl) ?_
    rintro _ _ ⟨rfl, rfl⟩
    change J p l e (cRm 1 21 0 0) s m args below meth c G A 2 (JQ below G A (po_X4_undo G qm m0 m1 m2 m3 m4 m5 m6 m7 m8 m9 m10 m11 hc rf sp ha nw pp) args s 0 0) 0 0 16 [(0, .ref qm)] [.int (nI 1)] [aI G m0 220 nw, aI G m1 880 pp, oB 4 qm [.ref m0, .ref m1, .int (nI hc), .int (nI 1), .ref m2, .ref m3, .ref m4, .ref m5, .ref m6, .ref m7, .ref m8, .long sp, .ref m9, .ref m10, .ref m11, .long ha]]
    refine J_world (ws2 := [oB 4 qm [.ref m0, .ref m1, .int (nI hc), .int (nI 1), .ref m2, .ref m3, .ref m4, .ref m5, .ref m6, .ref m7, .ref m8, .long sp, .ref m9, .ref m10, .ref m11, .long ha], aI G m0 220 nw, aI G m1 880 pp]) [2, 0, 1] rfl rfl ?_
    refine J_if_eq F 21 (dcq dc_X4_undo_0 8 rfl) (by decide) (fun h_4 => absurd h_4 (by decide)) (fun _ => ?_)
    refine J_iconst F (dcq dc_X4_undo_0 9 rfl) ic_0 ?_
    exact J_iret F (Or.inr (⟨rfl, rfl, by first | assumption | omega⟩)) (Nat.le_of_ble_eq_true rfl) (Nat.le_of_ble_eq_true rfl) (dcq dc_X4_undo_0 10 rfl)

abbrev po_X4_isMissing (G : Gt) (qm m0 m1 m2 m3 m4 m5 m6 m7 m8 m9 m10 m11 hc rf : Nat) (sp ha : Int64) (nw : Nat → Int32) (P M R n : Nat) (v g d : Nat → Int32) (t : Nat) : Option Value → va_W → Prop := fun (v9 : Option Value) (w9 : va_W) => (v9 = some (.int (nI 1)) ∧ w9 = [oB 4 qm [.ref m0, .ref m1, .int (nI hc), .int (nI rf), .ref m2, .ref m3, .ref m4, .ref m5, .ref m6, .ref m7, .ref m8, .long sp, .ref m9, .ref m10, .ref m11, .long ha], aI G m0 220 nw] ∧ (¬ g t = 0)) ∨ (v9 = some (.int (nI 0)) ∧ w9 = [oB 4 qm [.ref m0, .ref m1, .int (nI hc), .int (nI rf), .ref m2, .ref m3, .ref m4, .ref m5, .ref m6, .ref m7, .ref m8, .long sp, .ref m9, .ref m10, .ref m11, .long ha], aI G m0 220 nw] ∧ (g t = 0))
set_option maxHeartbeats 4000000 in
set_option maxRecDepth 100000 in
theorem c_X4_isMissing (l : Launch) (hl : l.stackTraces = false) (G : Gt) (qm m0 m1 m2 m3 m4 m5 m6 m7 m8 m9 m10 m11 hc rf : Nat) (sp ha : Int64) (nw : Nat → Int32) (P M R n : Nat) (v g d : Nat → Int32) (t : Nat) (hRM : RM nw P M R n v g d) (hn : n ≤ 72) (h01 : G01 n g) (ht : t < n) : Con l G yX4_isMissing cX4_isMissing 2 (some .boolean) 0 0 0 0 [.ref qm, .int (nI t)] [oB 4 qm [.ref m0, .ref m1, .int (nI hc), .int (nI rf), .ref m2, .ref m3, .ref m4, .ref m5, .ref m6, .ref m7, .ref m8, .long sp, .ref m9, .ref m10, .ref m11, .long ha], aI G m0 220 nw] (po_X4_isMissing G qm m0 m1 m2 m3 m4 m5 m6 m7 m8 m9 m10 m11 hc rf sp ha nw P M R n v g d t) := by
  refine Con.of hl cd_X4_isMissing (Nat.le_of_ble_eq_true rfl) ?_
  intro p e s m args below meth c A F hin9
  change Fx p l s m args meth c G A "SeasonalAdjusterModel" cX4_isMissing 2 (some .boolean) at F
  change J p l e (cRm 0 0 0 0) s m args below meth c G A 2 (JQ below G A (po_X4_isMissing G qm m0 m1 m2 m3 m4 m5 m6 m7 m8 m9 m10 m11 hc rf sp ha nw P M R n v g d t) args s 0 0) 0 0 0 [(0, .ref qm), (1, .int (nI t))] [] [oB 4 qm [.ref m0, .ref m1, .int (nI hc), .int (nI rf), .ref m2, .ref m3, .ref m4, .ref m5, .ref m6, .ref m7, .ref m8, .long sp, .ref m9, .ref m10, .ref m11, .long ha], aI G m0 220 nw]
  refine J_aload_n F 0 (dcq dc_X4_isMissing_0 0 rfl) rfl rfl ?_
  refine J_get F fcX4 0 0 rfl (Nat.le_of_ble_eq_true rfl) tw_3_223 rfl rfl (dcq dc_X4_isMissing_0 1 rfl) ?_
  refine J_iconst F (dcq dc_X4_isMissing_0 2 rfl) ic_4 ?_
  refine J_iconst F (dcq dc_X4_isMissing_0 3 rfl) ic_3 ?_
  refine J_iload_n F 1 (dcq dc_X4_isMissing_0 4 rfl) rfl rfl ?_
  refine J_imul F (v := nI (3 * t)) (dcq dc_X4_isMissing_0 5 rfl) (pk_mul _ _) ?_
  refine J_iadd F (v := nI (4 + 3 * t)) (dcq dc_X4_isMissing_0 6 rfl) (nI_add _ _) ?_
  refine J_iald F 1 rfl (by omega) (Nat.le_of_ble_eq_true rfl) (dcq dc_X4_isMissing_0 7 rfl) ?_
  refine J_cast rfl (st2 := [.int (g t)]) (by rw [(hRM.2.2.2.2 t (by omega)).1]) rfl ?_
  refine J_iconst F (dcq dc_X4_isMissing_0 8 rfl) ic_1 ?_
  refine J_icmp_ne F 18 (dcq dc_X4_isMissing_0 9 rfl) (by decide) (fun h_1 => ?_) (fun h_1 => ?_)
  · skip
    have h1 := h_1
    refine J_iconst F (dcq dc_X4_isMissing_0 12 rfl) ic_0 ?_
    exact J_zret F (by decide) (Or.inr (⟨rfl, rfl, by first | exact (G01_1 (h01 t ht)).mpr h1 | exact Decidable.not_not.mp (fun z => h1 ((G01_1 (h01 t ht)).mp z))⟩)) (Nat.le_of_ble_eq_true rfl) (Nat.le_of_ble_eq_true rfl) (dcq dc_X4_isMissing_0 13 rfl)
  · skip
    have h1 := h_1
    refine J_iconst F (dcq dc_X4_isMissing_0 10 rfl) ic_1 ?_
    refine J_goto F 19 (dcq dc_X4_isMissing_0 11 rfl) (by decide) ?_
    exact J_zret F (by decide) (Or.inl ⟨rfl, rfl, by first | exact (G01_1 (h01 t ht)).mpr h1 | exact Decidable.not_not.mp (fun z => h1 ((G01_1 (h01 t ht)).mp z))⟩) (Nat.le_of_ble_eq_true rfl) (Nat.le_of_ble_eq_true rfl) (dcq dc_X4_isMissing_0 13 rfl)

abbrev po_X4_valueAt (G : Gt) (qm m0 m1 m2 m3 m4 m5 m6 m7 m8 m9 m10 m11 hc rf : Nat) (sp ha : Int64) (nw : Nat → Int32) (P M R n : Nat) (v g d : Nat → Int32) (t : Nat) : Option Value → va_W → Prop := fun (v9 : Option Value) (w9 : va_W) => v9 = some (.int (v t)) ∧ w9 = [oB 4 qm [.ref m0, .ref m1, .int (nI hc), .int (nI rf), .ref m2, .ref m3, .ref m4, .ref m5, .ref m6, .ref m7, .ref m8, .long sp, .ref m9, .ref m10, .ref m11, .long ha], aI G m0 220 nw]
set_option maxHeartbeats 4000000 in
set_option maxRecDepth 100000 in
theorem c_X4_valueAt (l : Launch) (hl : l.stackTraces = false) (G : Gt) (qm m0 m1 m2 m3 m4 m5 m6 m7 m8 m9 m10 m11 hc rf : Nat) (sp ha : Int64) (nw : Nat → Int32) (P M R n : Nat) (v g d : Nat → Int32) (t : Nat) (hRM : RM nw P M R n v g d) (hn : n ≤ 72) (ht : t < n) : Con l G yX4_valueAt cX4_valueAt 2 (some .int) 0 0 0 0 [.ref qm, .int (nI t)] [oB 4 qm [.ref m0, .ref m1, .int (nI hc), .int (nI rf), .ref m2, .ref m3, .ref m4, .ref m5, .ref m6, .ref m7, .ref m8, .long sp, .ref m9, .ref m10, .ref m11, .long ha], aI G m0 220 nw] (po_X4_valueAt G qm m0 m1 m2 m3 m4 m5 m6 m7 m8 m9 m10 m11 hc rf sp ha nw P M R n v g d t) := by
  refine Con.of hl cd_X4_valueAt (Nat.le_of_ble_eq_true rfl) ?_
  intro p e s m args below meth c A F hin9
  change Fx p l s m args meth c G A "SeasonalAdjusterModel" cX4_valueAt 2 (some .int) at F
  change J p l e (cRm 0 0 0 0) s m args below meth c G A 2 (JQ below G A (po_X4_valueAt G qm m0 m1 m2 m3 m4 m5 m6 m7 m8 m9 m10 m11 hc rf sp ha nw P M R n v g d t) args s 0 0) 0 0 0 [(0, .ref qm), (1, .int (nI t))] [] [oB 4 qm [.ref m0, .ref m1, .int (nI hc), .int (nI rf), .ref m2, .ref m3, .ref m4, .ref m5, .ref m6, .ref m7, .ref m8, .long sp, .ref m9, .ref m10, .ref m11, .long ha], aI G m0 220 nw]
  refine J_aload_n F 0 (dcq dc_X4_valueAt_0 0 rfl) rfl rfl ?_
  refine J_get F fcX4 0 0 rfl (Nat.le_of_ble_eq_true rfl) tw_3_223 rfl rfl (dcq dc_X4_valueAt_0 1 rfl) ?_
  refine J_iconst F (dcq dc_X4_valueAt_0 2 rfl) ic_4 ?_
  refine J_iconst F (dcq dc_X4_valueAt_0 3 rfl) ic_3 ?_
  refine J_iload_n F 1 (dcq dc_X4_valueAt_0 4 rfl) rfl rfl ?_
  refine J_imul F (v := nI (3 * t)) (dcq dc_X4_valueAt_0 5 rfl) (pk_mul _ _) ?_
  refine J_iadd F (v := nI (4 + 3 * t)) (dcq dc_X4_valueAt_0 6 rfl) (nI_add _ _) ?_
  refine J_iconst F (dcq dc_X4_valueAt_0 7 rfl) ic_1 ?_
  refine J_iadd F (v := nI (4 + 3 * t + 1)) (dcq dc_X4_valueAt_0 8 rfl) (nI_add _ _) ?_
  refine J_iald F 1 rfl (by omega) (Nat.le_of_ble_eq_true rfl) (dcq dc_X4_valueAt_0 9 rfl) ?_
  refine J_cast rfl (st2 := [.int (v t)]) (by rw [(hRM.2.2.2.2 t (by omega)).2.1]) rfl ?_
  exact J_iret F ⟨rfl, rfl⟩ (Nat.le_of_ble_eq_true rfl) (Nat.le_of_ble_eq_true rfl) (dcq dc_X4_valueAt_0 10 rfl)

abbrev po_X4_daysAt (G : Gt) (qm m0 m1 m2 m3 m4 m5 m6 m7 m8 m9 m10 m11 hc rf : Nat) (sp ha : Int64) (nw : Nat → Int32) (P M R n : Nat) (v g d : Nat → Int32) (t : Nat) : Option Value → va_W → Prop := fun (v9 : Option Value) (w9 : va_W) => v9 = some (.int (d t)) ∧ w9 = [oB 4 qm [.ref m0, .ref m1, .int (nI hc), .int (nI rf), .ref m2, .ref m3, .ref m4, .ref m5, .ref m6, .ref m7, .ref m8, .long sp, .ref m9, .ref m10, .ref m11, .long ha], aI G m0 220 nw]
set_option maxHeartbeats 4000000 in
set_option maxRecDepth 100000 in
theorem c_X4_daysAt (l : Launch) (hl : l.stackTraces = false) (G : Gt) (qm m0 m1 m2 m3 m4 m5 m6 m7 m8 m9 m10 m11 hc rf : Nat) (sp ha : Int64) (nw : Nat → Int32) (P M R n : Nat) (v g d : Nat → Int32) (t : Nat) (hRM : RM nw P M R n v g d) (hn : n ≤ 72) (ht : t < n) : Con l G yX4_daysAt cX4_daysAt 2 (some .int) 0 0 0 0 [.ref qm, .int (nI t)] [oB 4 qm [.ref m0, .ref m1, .int (nI hc), .int (nI rf), .ref m2, .ref m3, .ref m4, .ref m5, .ref m6, .ref m7, .ref m8, .long sp, .ref m9, .ref m10, .ref m11, .long ha], aI G m0 220 nw] (po_X4_daysAt G qm m0 m1 m2 m3 m4 m5 m6 m7 m8 m9 m10 m11 hc rf sp ha nw P M R n v g d t) := by
  refine Con.of hl cd_X4_daysAt (Nat.le_of_ble_eq_true rfl) ?_
  intro p e s m args below meth c A F hin9
  change Fx p l s m args meth c G A "SeasonalAdjusterModel" cX4_daysAt 2 (some .int) at F
  change J p l e (cRm 0 0 0 0) s m args below meth c G A 2 (JQ below G A (po_X4_daysAt G qm m0 m1 m2 m3 m4 m5 m6 m7 m8 m9 m10 m11 hc rf sp ha nw P M R n v g d t) args s 0 0) 0 0 0 [(0, .ref qm), (1, .int (nI t))] [] [oB 4 qm [.ref m0, .ref m1, .int (nI hc), .int (nI rf), .ref m2, .ref m3, .ref m4, .ref m5, .ref m6, .ref m7, .ref m8, .long sp, .ref m9, .ref m10, .ref m11, .long ha], aI G m0 220 nw]
  refine J_aload_n F 0 (dcq dc_X4_daysAt_0 0 rfl) rfl rfl ?_
  refine J_get F fcX4 0 0 rfl (Nat.le_of_ble_eq_true rfl) tw_3_223 rfl rfl (dcq dc_X4_daysAt_0 1 rfl) ?_
  refine J_iconst F (dcq dc_X4_daysAt_0 2 rfl) ic_4 ?_
  refine J_iconst F (dcq dc_X4_daysAt_0 3 rfl) ic_3 ?_
  refine J_iload_n F 1 (dcq dc_X4_daysAt_0 4 rfl) rfl rfl ?_
  refine J_imul F (v := nI (3 * t)) (dcq dc_X4_daysAt_0 5 rfl) (pk_mul _ _) ?_
  refine J_iadd F (v := nI (4 + 3 * t)) (dcq dc_X4_daysAt_0 6 rfl) (nI_add _ _) ?_
  refine J_iconst F (dcq dc_X4_daysAt_0 7 rfl) ic_2 ?_
  refine J_iadd F (v := nI (4 + 3 * t + 2)) (dcq dc_X4_daysAt_0 8 rfl) (nI_add _ _) ?_
  refine J_iald F 1 rfl (by omega) (Nat.le_of_ble_eq_true rfl) (dcq dc_X4_daysAt_0 9 rfl) ?_
  refine J_cast rfl (st2 := [.int (d t)]) (by rw [(hRM.2.2.2.2 t (by omega)).2.2]) rfl ?_
  exact J_iret F ⟨rfl, rfl⟩ (Nat.le_of_ble_eq_true rfl) (Nat.le_of_ble_eq_true rfl) (dcq dc_X4_daysAt_0 10 rfl)

abbrev po_X4_isEntry (G : Gt) (qm m0 m1 m2 m3 m4 m5 m6 m7 m8 m9 m10 m11 hc rf : Nat) (sp ha : Int64) (nw : Nat → Int32) (P M R n : Nat) (v g d : Nat → Int32) (x : Int32) : Option Value → va_W → Prop := fun (v9 : Option Value) (w9 : va_W) => (∃ (j : Nat), v9 = some (.int (nI 1)) ∧ w9 = [oB 4 qm [.ref m0, .ref m1, .int (nI hc), .int (nI rf), .ref m2, .ref m3, .ref m4, .ref m5, .ref m6, .ref m7, .ref m8, .long sp, .ref m9, .ref m10, .ref m11, .long ha], aI G m0 220 nw] ∧ (x = nI j) ∧ (j < n)) ∨ (v9 = some (.int (nI 0)) ∧ w9 = [oB 4 qm [.ref m0, .ref m1, .int (nI hc), .int (nI rf), .ref m2, .ref m3, .ref m4, .ref m5, .ref m6, .ref m7, .ref m8, .long sp, .ref m9, .ref m10, .ref m11, .long ha], aI G m0 220 nw] ∧ (∀ j, j < n → x ≠ nI j))
set_option maxHeartbeats 4000000 in
set_option maxRecDepth 100000 in
theorem c_X4_isEntry (l : Launch) (hl : l.stackTraces = false) (G : Gt) (qm m0 m1 m2 m3 m4 m5 m6 m7 m8 m9 m10 m11 hc rf : Nat) (sp ha : Int64) (nw : Nat → Int32) (P M R n : Nat) (v g d : Nat → Int32) (x : Int32) (hRM : RM nw P M R n v g d) (hn : n ≤ 72) : Con l G yX4_isEntry cX4_isEntry 2 (some .boolean) 1 25 0 0 [.ref qm, .int x] [oB 4 qm [.ref m0, .ref m1, .int (nI hc), .int (nI rf), .ref m2, .ref m3, .ref m4, .ref m5, .ref m6, .ref m7, .ref m8, .long sp, .ref m9, .ref m10, .ref m11, .long ha], aI G m0 220 nw] (po_X4_isEntry G qm m0 m1 m2 m3 m4 m5 m6 m7 m8 m9 m10 m11 hc rf sp ha nw P M R n v g d x) := by
  refine Con.of hl cd_X4_isEntry (Nat.le_of_ble_eq_true rfl) ?_
  intro p e s m args below meth c A F hin9
  change Fx p l s m args meth c G A "SeasonalAdjusterModel" cX4_isEntry 2 (some .boolean) at F
  change J p l e (cRm 1 25 0 0) s m args below meth c G A 2 (JQ below G A (po_X4_isEntry G qm m0 m1 m2 m3 m4 m5 m6 m7 m8 m9 m10 m11 hc rf sp ha nw P M R n v g d x) args s 0 0) 0 0 0 [(0, .ref qm), (1, .int x)] [] [oB 4 qm [.ref m0, .ref m1, .int (nI hc), .int (nI rf), .ref m2, .ref m3, .ref m4, .ref m5, .ref m6, .ref m7, .ref m8, .long sp, .ref m9, .ref m10, .ref m11, .long ha], aI G m0 220 nw]
  refine J_iload_n F 1 (dcq dc_X4_isEntry_0 0 rfl) rfl rfl ?_
  refine J_i2l F (v := x.toInt64) (dcq dc_X4_isEntry_0 1 rfl) rfl ?_
  refine J_lconst F (dcq dc_X4_isEntry_0 2 rfl) lc_0 ?_
  refine J_aload_n F 0 (dcq dc_X4_isEntry_0 3 rfl) rfl rfl ?_
  refine J_get F fcX4 0 0 rfl (Nat.le_of_ble_eq_true rfl) tw_3_223 rfl rfl (dcq dc_X4_isEntry_0 4 rfl) ?_
  refine J_iconst F (dcq dc_X4_isEntry_0 5 rfl) ic_3 ?_
  refine J_iald F 1 rfl (by omega) (Nat.le_of_ble_eq_true rfl) (dcq dc_X4_isEntry_0 6 rfl) ?_
  refine J_cast rfl (st2 := [.int (nI n), .long 0, .long x.toInt64]) (by rw [hRM.2.2.2.1]) rfl ?_
  refine J_iconst F (dcq dc_X4_isEntry_0 7 rfl) ic_1 ?_
  refine J_isub F (v := (nI n) - (nI 1)) (dcq dc_X4_isEntry_0 8 rfl) rfl ?_
  refine J_i2l F (v := ((nI n) - (nI 1)).toInt64) (dcq dc_X4_isEntry_0 9 rfl) rfl ?_
  refine J_callS F (wc := []) (wr := [oB 4 qm [.ref m0, .ref m1, .int (nI hc), .int (nI rf), .ref m2, .ref m3, .ref m4, .ref m5, .ref m6, .ref m7, .ref m8, .long sp, .ref m9, .ref m10, .ref m11, .long ha], aI G m0 220 nw]) (rest := []) (c_X4_within l hl G x.toInt64 0 (((nI n) - (nI 1)).toInt64)) cd_X4_within tw_4_51 tw_4_50 [] [0, 1] rfl rfl rfl rfl (by decide) rfl ⟨(Nat.le_of_ble_eq_true rfl), (Nat.le_of_ble_eq_true rfl), (Nat.le_of_ble_eq_true rfl), (Nat.le_of_ble_eq_true rfl)⟩ (Nat.le_of_ble_eq_true rfl) rfl (dcq dc_X4_isEntry_0 10 rfl) ?_
  rintro _ _ h9x
  rcases h9x with ⟨rfl, rfl, hw_12⟩ | ⟨rfl, rfl, hw_12⟩
  · skip
    have hw_12 : 0 ≤ x.toInt64 ∧ x.toInt64 ≤ (((nI n) - (nI 1)).toInt64) := hw_12
    change J p l e (cRm 1 25 0 0) s m args below meth c G A 2 (JQ below G A (po_X4_isEntry G qm m0 m1 m2 m3 m4 m5 m6 m7 m8 m9 m10 m11 hc rf sp ha nw P M R n v g d x) args s 0 0) 0 0 15 [(0, .ref qm), (1, .int x)] [.int (nI 1)] [oB 4 qm [.ref m0, .ref m1, .int (nI hc), .int (nI rf), .ref m2, .ref m3, .ref m4, .ref m5, .ref m6, .ref m7, .ref m8, .long sp, .ref m9, .ref m10, .ref m11, .long ha], aI G m0 220 nw]
    obtain ⟨j9, ha9, hb9⟩ := ent_of (by omega) hw_12
    exact J_zret F (by decide) (Or.inl ⟨j9, rfl, rfl, ha9, hb9⟩) (Nat.le_of_ble_eq_true rfl) (Nat.le_of_ble_eq_true rfl) (dcq dc_X4_isEntry_0 11 rfl)
  · skip
    have hw_12 : ¬ (0 ≤ x.toInt64 ∧ x.toInt64 ≤ (((nI n) - (nI 1)).toInt64)) := hw_12
    change J p l e (cRm 1 25 0 0) s m args below meth c G A 2 (JQ below G A (po_X4_isEntry G qm m0 m1 m2 m3 m4 m5 m6 m7 m8 m9 m10 m11 hc rf sp ha nw P M R n v g d x) args s 0 0) 0 0 15 [(0, .ref qm), (1, .int x)] [.int (nI 0)] [oB 4 qm [.ref m0, .ref m1, .int (nI hc), .int (nI rf), .ref m2, .ref m3, .ref m4, .ref m5, .ref m6, .ref m7, .ref m8, .long sp, .ref m9, .ref m10, .ref m11, .long ha], aI G m0 220 nw]
    exact J_zret F (by decide) (Or.inr (⟨rfl, rfl, ent_no (by omega) hw_12⟩)) (Nat.le_of_ble_eq_true rfl) (Nat.le_of_ble_eq_true rfl) (dcq dc_X4_isEntry_0 11 rfl)

abbrev po_X4_isValue (G : Gt) (qm m0 m1 m2 m3 m4 m5 m6 m7 m8 m9 m10 m11 hc rf : Nat) (sp ha : Int64) (nw : Nat → Int32) (P M R n : Nat) (v g d : Nat → Int32) (x : Int32) : Option Value → va_W → Prop := fun (v9 : Option Value) (w9 : va_W) => (v9 = some (.int (nI 1)) ∧ w9 = [oB 4 qm [.ref m0, .ref m1, .int (nI hc), .int (nI rf), .ref m2, .ref m3, .ref m4, .ref m5, .ref m6, .ref m7, .ref m8, .long sp, .ref m9, .ref m10, .ref m11, .long ha], aI G m0 220 nw] ∧ ((if M = 1 then nI 1 else -1000000) ≤ x ∧ x ≤ nI 1000000)) ∨ (v9 = some (.int (nI 0)) ∧ w9 = [oB 4 qm [.ref m0, .ref m1, .int (nI hc), .int (nI rf), .ref m2, .ref m3, .ref m4, .ref m5, .ref m6, .ref m7, .ref m8, .long sp, .ref m9, .ref m10, .ref m11, .long ha], aI G m0 220 nw] ∧ (¬ ((if M = 1 then nI 1 else -1000000) ≤ x ∧ x ≤ nI 1000000)))
set_option maxHeartbeats 4000000 in
set_option maxRecDepth 100000 in
theorem c_X4_isValue (l : Launch) (hl : l.stackTraces = false) (G : Gt) (qm m0 m1 m2 m3 m4 m5 m6 m7 m8 m9 m10 m11 hc rf : Nat) (sp ha : Int64) (nw : Nat → Int32) (P M R n : Nat) (v g d : Nat → Int32) (x : Int32) (hRM : RM nw P M R n v g d) (hM : M ≤ 1) : Con l G yX4_isValue cX4_isValue 2 (some .boolean) 1 25 0 0 [.ref qm, .int x] [oB 4 qm [.ref m0, .ref m1, .int (nI hc), .int (nI rf), .ref m2, .ref m3, .ref m4, .ref m5, .ref m6, .ref m7, .ref m8, .long sp, .ref m9, .ref m10, .ref m11, .long ha], aI G m0 220 nw] (po_X4_isValue G qm m0 m1 m2 m3 m4 m5 m6 m7 m8 m9 m10 m11 hc rf sp ha nw P M R n v g d x) := by
  refine Con.of hl cd_X4_isValue (Nat.le_of_ble_eq_true rfl) ?_
  intro p e s m args below meth c A F hin9
  change Fx p l s m args meth c G A "SeasonalAdjusterModel" cX4_isValue 2 (some .boolean) at F
  change J p l e (cRm 1 25 0 0) s m args below meth c G A 2 (JQ below G A (po_X4_isValue G qm m0 m1 m2 m3 m4 m5 m6 m7 m8 m9 m10 m11 hc rf sp ha nw P M R n v g d x) args s 0 0) 0 0 0 [(0, .ref qm), (1, .int x)] [] [oB 4 qm [.ref m0, .ref m1, .int (nI hc), .int (nI rf), .ref m2, .ref m3, .ref m4, .ref m5, .ref m6, .ref m7, .ref m8, .long sp, .ref m9, .ref m10, .ref m11, .long ha], aI G m0 220 nw]
  refine J_iload_n F 1 (dcq dc_X4_isValue_0 0 rfl) rfl rfl ?_
  refine J_i2l F (v := x.toInt64) (dcq dc_X4_isValue_0 1 rfl) rfl ?_
  refine J_aload_n F 0 (dcq dc_X4_isValue_0 2 rfl) rfl rfl ?_
  refine J_get F fcX4 0 0 rfl (Nat.le_of_ble_eq_true rfl) tw_3_223 rfl rfl (dcq dc_X4_isValue_0 3 rfl) ?_
  refine J_iconst F (dcq dc_X4_isValue_0 4 rfl) ic_1 ?_
  refine J_iald F 1 rfl (by omega) (Nat.le_of_ble_eq_true rfl) (dcq dc_X4_isValue_0 5 rfl) ?_
  refine J_cast rfl (st2 := [.int (nI M), .long x.toInt64]) (by rw [hRM.2.1]) rfl ?_
  refine J_iconst F (dcq dc_X4_isValue_0 6 rfl) ic_1 ?_
  refine J_ncmp_ne F 16 (by omega) (by omega) (dcq dc_X4_isValue_0 7 rfl) (by decide) (fun h_1 => ?_) (fun h_1 => ?_)
  · skip
    have hm1 := h_1
    refine J_ldc2 F (v2 := (-1000000)) tw_4_90 rfl (dcq dc_X4_isValue_0 10 rfl) ?_
    refine J_ldc2 F (v2 := (1000000)) tw_4_91 rfl (dcq dc_X4_isValue_0 11 rfl) ?_
    refine J_callS F (wc := []) (wr := [oB 4 qm [.ref m0, .ref m1, .int (nI hc), .int (nI rf), .ref m2, .ref m3, .ref m4, .ref m5, .ref m6, .ref m7, .ref m8, .long sp, .ref m9, .ref m10, .ref m11, .long ha], aI G m0 220 nw]) (rest := []) (c_X4_within l hl G x.toInt64 (-1000000) 1000000) cd_X4_within tw_4_51 tw_4_50 [] [0, 1] rfl rfl rfl rfl (by decide) rfl ⟨(Nat.le_of_ble_eq_true rfl), (Nat.le_of_ble_eq_true rfl), (Nat.le_of_ble_eq_true rfl), (Nat.le_of_ble_eq_true rfl)⟩ (Nat.le_of_ble_eq_true rfl) rfl (dcq dc_X4_isValue_0 12 rfl) ?_
    rintro _ _ h9x
    rcases h9x with ⟨rfl, rfl, hw_22⟩ | ⟨rfl, rfl, hw_22⟩
    · skip
      have hw_22 : (-1000000) ≤ x.toInt64 ∧ x.toInt64 ≤ 1000000 := hw_22
      change J p l e (cRm 1 25 0 0) s m args below meth c G A 2 (JQ below G A (po_X4_isValue G qm m0 m1 m2 m3 m4 m5 m6 m7 m8 m9 m10 m11 hc rf sp ha nw P M R n v g d x) args s 0 0) 0 0 25 [(0, .ref qm), (1, .int x)] [.int (nI 1)] [oB 4 qm [.ref m0, .ref m1, .int (nI hc), .int (nI rf), .ref m2, .ref m3, .ref m4, .ref m5, .ref m6, .ref m7, .ref m8, .long sp, .ref m9, .ref m10, .ref m11, .long ha], aI G m0 220 nw]
      exact J_zret F (by decide) (Or.inl ⟨rfl, rfl, by first | (rw [if_pos hm1]; exact (wi (by decide) (by decide)).mp hw_22) | (rw [if_neg hm1]; exact (wi (by decide) (by decide)).mp hw_22) | (rw [if_pos hm1]; exact fun z => hw_22 ((wi (by decide) (by decide)).mpr z)) | (rw [if_neg hm1]; exact fun z => hw_22 ((wi (by decide) (by decide)).mpr z))⟩) (Nat.le_of_ble_eq_true rfl) (Nat.le_of_ble_eq_true rfl) (dcq dc_X4_isValue_0 13 rfl)
    · skip
      have hw_22 : ¬ ((-1000000) ≤ x.toInt64 ∧ x.toInt64 ≤ 1000000) := hw_22
      change J p l e (cRm 1 25 0 0) s m args below meth c G A 2 (JQ below G A (po_X4_isValue G qm m0 m1 m2 m3 m4 m5 m6 m7 m8 m9 m10 m11 hc rf sp ha nw P M R n v g d x) args s 0 0) 0 0 25 [(0, .ref qm), (1, .int x)] [.int (nI 0)] [oB 4 qm [.ref m0, .ref m1, .int (nI hc), .int (nI rf), .ref m2, .ref m3, .ref m4, .ref m5, .ref m6, .ref m7, .ref m8, .long sp, .ref m9, .ref m10, .ref m11, .long ha], aI G m0 220 nw]
      exact J_zret F (by decide) (Or.inr (⟨rfl, rfl, by first | (rw [if_pos hm1]; exact (wi (by decide) (by decide)).mp hw_22) | (rw [if_neg hm1]; exact (wi (by decide) (by decide)).mp hw_22) | (rw [if_pos hm1]; exact fun z => hw_22 ((wi (by decide) (by decide)).mpr z)) | (rw [if_neg hm1]; exact fun z => hw_22 ((wi (by decide) (by decide)).mpr z))⟩)) (Nat.le_of_ble_eq_true rfl) (Nat.le_of_ble_eq_true rfl) (dcq dc_X4_isValue_0 13 rfl)
  · skip
    have hm1 := h_1
    refine J_lconst F (dcq dc_X4_isValue_0 8 rfl) lc_1 ?_
    refine J_goto F 19 (dcq dc_X4_isValue_0 9 rfl) (by decide) ?_
    refine J_ldc2 F (v2 := (1000000)) tw_4_91 rfl (dcq dc_X4_isValue_0 11 rfl) ?_
    refine J_callS F (wc := []) (wr := [oB 4 qm [.ref m0, .ref m1, .int (nI hc), .int (nI rf), .ref m2, .ref m3, .ref m4, .ref m5, .ref m6, .ref m7, .ref m8, .long sp, .ref m9, .ref m10, .ref m11, .long ha], aI G m0 220 nw]) (rest := []) (c_X4_within l hl G x.toInt64 1 1000000) cd_X4_within tw_4_51 tw_4_50 [] [0, 1] rfl rfl rfl rfl (by decide) rfl ⟨(Nat.le_of_ble_eq_true rfl), (Nat.le_of_ble_eq_true rfl), (Nat.le_of_ble_eq_true rfl), (Nat.le_of_ble_eq_true rfl)⟩ (Nat.le_of_ble_eq_true rfl) rfl (dcq dc_X4_isValue_0 12 rfl) ?_
    rintro _ _ h9x
    rcases h9x with ⟨rfl, rfl, hw_22⟩ | ⟨rfl, rfl, hw_22⟩
    · skip
      have hw_22 : 1 ≤ x.toInt64 ∧ x.toInt64 ≤ 1000000 := hw_22
      change J p l e (cRm 1 25 0 0) s m args below meth c G A 2 (JQ below G A (po_X4_isValue G qm m0 m1 m2 m3 m4 m5 m6 m7 m8 m9 m10 m11 hc rf sp ha nw P M R n v g d x) args s 0 0) 0 0 25 [(0, .ref qm), (1, .int x)] [.int (nI 1)] [oB 4 qm [.ref m0, .ref m1, .int (nI hc), .int (nI rf), .ref m2, .ref m3, .ref m4, .ref m5, .ref m6, .ref m7, .ref m8, .long sp, .ref m9, .ref m10, .ref m11, .long ha], aI G m0 220 nw]
      exact J_zret F (by decide) (Or.inl ⟨rfl, rfl, by first | (rw [if_pos hm1]; exact (wi (by decide) (by decide)).mp hw_22) | (rw [if_neg hm1]; exact (wi (by decide) (by decide)).mp hw_22) | (rw [if_pos hm1]; exact fun z => hw_22 ((wi (by decide) (by decide)).mpr z)) | (rw [if_neg hm1]; exact fun z => hw_22 ((wi (by decide) (by decide)).mpr z))⟩) (Nat.le_of_ble_eq_true rfl) (Nat.le_of_ble_eq_true rfl) (dcq dc_X4_isValue_0 13 rfl)
    · skip
      have hw_22 : ¬ (1 ≤ x.toInt64 ∧ x.toInt64 ≤ 1000000) := hw_22
      change J p l e (cRm 1 25 0 0) s m args below meth c G A 2 (JQ below G A (po_X4_isValue G qm m0 m1 m2 m3 m4 m5 m6 m7 m8 m9 m10 m11 hc rf sp ha nw P M R n v g d x) args s 0 0) 0 0 25 [(0, .ref qm), (1, .int x)] [.int (nI 0)] [oB 4 qm [.ref m0, .ref m1, .int (nI hc), .int (nI rf), .ref m2, .ref m3, .ref m4, .ref m5, .ref m6, .ref m7, .ref m8, .long sp, .ref m9, .ref m10, .ref m11, .long ha], aI G m0 220 nw]
      exact J_zret F (by decide) (Or.inr (⟨rfl, rfl, by first | (rw [if_pos hm1]; exact (wi (by decide) (by decide)).mp hw_22) | (rw [if_neg hm1]; exact (wi (by decide) (by decide)).mp hw_22) | (rw [if_pos hm1]; exact fun z => hw_22 ((wi (by decide) (by decide)).mpr z)) | (rw [if_neg hm1]; exact fun z => hw_22 ((wi (by decide) (by decide)).mpr z))⟩)) (Nat.le_of_ble_eq_true rfl) (Nat.le_of_ble_eq_true rfl) (dcq dc_X4_isValue_0 13 rfl)

abbrev po_X4_sets (G : Gt) (qm m0 m1 m2 m3 m4 m5 m6 m7 m8 m9 m10 m11 hc rf : Nat) (sp ha : Int64) (nw : Nat → Int32) (pp : Nat → Int32) (w : Nat) (x : Int32) : Option Value → va_W → Prop := fun (v9 : Option Value) (w9 : va_W) => ∃ (c2 : Nat), ∃ (pp2 : Nat → Int32), v9 = some (.int (nw w)) ∧ w9 = [oB 4 qm [.ref m0, .ref m1, .int (nI c2), .int (nI rf), .ref m2, .ref m3, .ref m4, .ref m5, .ref m6, .ref m7, .ref m8, .long sp, .ref m9, .ref m10, .ref m11, .long ha], aI G m0 220 (upd nw w x), aI G m1 880 pp2] ∧ (MSV hc pp nw c2 pp2)
set_option maxHeartbeats 4000000 in
set_option maxRecDepth 100000 in
theorem c_X4_sets (l : Launch) (hl : l.stackTraces = false) (G : Gt) (qm m0 m1 m2 m3 m4 m5 m6 m7 m8 m9 m10 m11 hc rf : Nat) (sp ha : Int64) (nw : Nat → Int32) (pp : Nat → Int32) (w : Nat) (x : Int32) (hhc : hc ≤ 4) (hw : w < 220) : Con l G yX4_sets cX4_sets 4 (some .int) 1 21 0 0 [.ref qm, .int (nI w), .int x] [oB 4 qm [.ref m0, .ref m1, .int (nI hc), .int (nI rf), .ref m2, .ref m3, .ref m4, .ref m5, .ref m6, .ref m7, .ref m8, .long sp, .ref m9, .ref m10, .ref m11, .long ha], aI G m0 220 nw, aI G m1 880 pp] (po_X4_sets G qm m0 m1 m2 m3 m4 m5 m6 m7 m8 m9 m10 m11 hc rf sp ha nw pp w x) := by
  refine Con.of hl cd_X4_sets (Nat.le_of_ble_eq_true rfl) ?_
  intro p e s m args below meth c A F hin9
  change Fx p l s m args meth c G A "SeasonalAdjusterModel" cX4_sets 4 (some .int) at F
  change J p l e (cRm 1 21 0 0) s m args below meth c G A 4 (JQ below G A (po_X4_sets G qm m0 m1 m2 m3 m4 m5 m6 m7 m8 m9 m10 m11 hc rf sp ha nw pp w x) args s 0 0) 0 0 0 [(0, .ref qm), (1, .int (nI w)), (2, .int x)] [] [oB 4 qm [.ref m0, .ref m1, .int (nI hc), .int (nI rf), .ref m2, .ref m3, .ref m4, .ref m5, .ref m6, .ref m7, .ref m8, .long sp, .ref m9, .ref m10, .ref m11, .long ha], aI G m0 220 nw, aI G m1 880 pp]
  refine J_aload_n F 0 (dcq dc_X4_sets_0 0 rfl) rfl rfl ?_
  refine J_callV F (wc := [oB 4 qm [.ref m0, .ref m1, .int (nI hc), .int (nI rf), .ref m2, .ref m3, .ref m4, .ref m5, .ref m6, .ref m7, .ref m8, .long sp, .ref m9, .ref m10, .ref m11, .long ha], aI G m0 220 nw, aI G m1 880 pp]) (wr := []) (rest := []) (qc := 0) (c_X4_saves l hl G qm m0 m1 m2 m3 m4 m5 m6 m7 m8 m9 m10 m11 hc rf sp ha nw pp (by first | assumption | omega)) cd_X4_saves cv_X4_saves rfl rfl rfl tw_4_57 [0, 1, 2] [] rfl rfl rfl rfl (by decide) rfl ⟨(Nat.le_of_ble_eq_true rfl), (Nat.le_of_ble_eq_true rfl), (Nat.le_of_ble_eq_true rfl), (Nat.le_of_ble_eq_true rfl)⟩ (Nat.le_of_ble_eq_true rfl) rfl (dcq dc_X4_sets_0 1 rfl) ?_
  rintro _ _ ⟨c2, pp2, rfl, rfl, hms⟩
  change J p l e (cRm 1 21 0 0) s m args below meth c G A 4 (JQ below G A (po_X4_sets G qm m0 m1 m2 m3 m4 m5 m6 m7 m8 m9 m10 m11 hc rf sp ha nw pp w x) args s 0 0) 0 0 4 [(0, .ref qm), (1, .int (nI w)), (2, .int x)] [] [oB 4 qm [.ref m0, .ref m1, .int (nI c2), .int (nI rf), .ref m2, .ref m3, .ref m4, .ref m5, .ref m6, .ref m7, .ref m8, .long sp, .ref m9, .ref m10, .ref m11, .long ha], aI G m0 220 nw, aI G m1 880 pp2]
  have hms : MSV hc pp nw c2 pp2 := hms
  refine J_aload_n F 0 (dcq dc_X4_sets_0 2 rfl) rfl rfl ?_
  refine J_get F fcX4 0 0 rfl (Nat.le_of_ble_eq_true rfl) tw_3_223 rfl rfl (dcq dc_X4_sets_0 3 rfl) ?_
  refine J_iload_n F 1 (dcq dc_X4_sets_0 4 rfl) rfl rfl ?_
  refine J_iald F 1 rfl (by omega) (Nat.le_of_ble_eq_true rfl) (dcq dc_X4_sets_0 5 rfl) ?_
  refine J_istore_n F (lv2 := [(3, .int (nw w)), (0, .ref qm), (1, .int (nI w)), (2, .int x)]) (dcq dc_X4_sets_0 6 rfl) rfl (Nat.le_of_ble_eq_true rfl) rfl ?_
  refine J_aload_n F 1 (dcq dc_X4_sets_0 7 rfl) rfl rfl ?_
  refine J_get F fcX4 0 0 rfl (Nat.le_of_ble_eq_true rfl) tw_3_223 rfl rfl (dcq dc_X4_sets_0 8 rfl) ?_
  refine J_iload_n F 2 (dcq dc_X4_sets_0 9 rfl) rfl rfl ?_
  refine J_iload_n F 3 (dcq dc_X4_sets_0 10 rfl) rfl rfl ?_
  refine J_iast F (ws2 := [oB 4 qm [.ref m0, .ref m1, .int (nI c2), .int (nI rf), .ref m2, .ref m3, .ref m4, .ref m5, .ref m6, .ref m7, .ref m8, .long sp, .ref m9, .ref m10, .ref m11, .long ha], aI G m0 220 (upd nw w x), aI G m1 880 pp2]) 1 rfl (by omega) (Nat.le_of_ble_eq_true rfl) rfl (dcq dc_X4_sets_0 11 rfl) ?_
  refine J_iload_n F 0 (dcq dc_X4_sets_0 12 rfl) rfl rfl ?_
  exact J_iret F ⟨c2, pp2, rfl, rfl, by omega⟩ (Nat.le_of_ble_eq_true rfl) (Nat.le_of_ble_eq_true rfl) (dcq dc_X4_sets_0 13 rfl)

abbrev po_X4_setPeriod (G : Gt) (qm m0 m1 m2 m3 m4 m5 m6 m7 m8 m9 m10 m11 hc rf : Nat) (sp ha : Int64) (nw : Nat → Int32) (P M R n : Nat) (v g d : Nat → Int32) (pp : Nat → Int32) (x : Int32) : Option Value → va_W → Prop := fun (v9 : Option Value) (w9 : va_W) => (∃ (c2 : Nat), ∃ (pp2 : Nat → Int32), v9 = some (.int (nI P)) ∧ w9 = [oB 4 qm [.ref m0, .ref m1, .int (nI c2), .int (nI 0), .ref m2, .ref m3, .ref m4, .ref m5, .ref m6, .ref m7, .ref m8, .long sp, .ref m9, .ref m10, .ref m11, .long ha], aI G m0 220 (upd nw 0 x), aI G m1 880 pp2] ∧ (MSV hc pp nw c2 pp2) ∧ (nI 2 ≤ x ∧ x ≤ nI 12)) ∨ (v9 = some (.int (nI 0)) ∧ w9 = [oB 4 qm [.ref m0, .ref m1, .int (nI hc), .int (nI 1), .ref m2, .ref m3, .ref m4, .ref m5, .ref m6, .ref m7, .ref m8, .long sp, .ref m9, .ref m10, .ref m11, .long ha], aI G m0 220 nw, aI G m1 880 pp] ∧ (¬ (nI 2 ≤ x ∧ x ≤ nI 12)))
set_option maxHeartbeats 4000000 in
set_option maxRecDepth 100000 in
theorem c_X4_setPeriod (l : Launch) (hl : l.stackTraces = false) (G : Gt) (qm m0 m1 m2 m3 m4 m5 m6 m7 m8 m9 m10 m11 hc rf : Nat) (sp ha : Int64) (nw : Nat → Int32) (P M R n : Nat) (v g d : Nat → Int32) (pp : Nat → Int32) (x : Int32) (hRM : RM nw P M R n v g d) (hhc : hc ≤ 4) : Con l G yX4_setPeriod cX4_setPeriod 2 (some .int) 2 44 0 0 [.ref qm, .int x] [oB 4 qm [.ref m0, .ref m1, .int (nI hc), .int (nI rf), .ref m2, .ref m3, .ref m4, .ref m5, .ref m6, .ref m7, .ref m8, .long sp, .ref m9, .ref m10, .ref m11, .long ha], aI G m0 220 nw, aI G m1 880 pp] (po_X4_setPeriod G qm m0 m1 m2 m3 m4 m5 m6 m7 m8 m9 m10 m11 hc rf sp ha nw P M R n v g d pp x) := by
  refine Con.of hl cd_X4_setPeriod (Nat.le_of_ble_eq_true rfl) ?_
  intro p e s m args below meth c A F hin9
  change Fx p l s m args meth c G A "SeasonalAdjusterModel" cX4_setPeriod 2 (some .int) at F
  change J p l e (cRm 2 44 0 0) s m args below meth c G A 2 (JQ below G A (po_X4_setPeriod G qm m0 m1 m2 m3 m4 m5 m6 m7 m8 m9 m10 m11 hc rf sp ha nw P M R n v g d pp x) args s 0 0) 0 0 0 [(0, .ref qm), (1, .int x)] [] [oB 4 qm [.ref m0, .ref m1, .int (nI hc), .int (nI rf), .ref m2, .ref m3, .ref m4, .ref m5, .ref m6, .ref m7, .ref m8, .long sp, .ref m9, .ref m10, .ref m11, .long ha], aI G m0 220 nw, aI G m1 880 pp]
  refine J_aload_n F 0 (dcq dc_X4_setPeriod_0 0 rfl) rfl rfl ?_
  refine J_iload_n F 1 (dcq dc_X4_setPeriod_0 1 rfl) rfl rfl ?_
  refine J_i2l F (v := x.toInt64) (dcq dc_X4_setPeriod_0 2 rfl) rfl ?_
  refine J_ldc2 F (v2 := (2)) tw_4_48 rfl (dcq dc_X4_setPeriod_0 3 rfl) ?_
  refine J_ldc2 F (v2 := (12)) tw_4_49 rfl (dcq dc_X4_setPeriod_0 4 rfl) ?_
  refine J_callS F (wc := []) (wr := [oB 4 qm [.ref m0, .ref m1, .int (nI hc), .int (nI rf), .ref m2, .ref m3, .ref m4, .ref m5, .ref m6, .ref m7, .ref m8, .long sp, .ref m9, .ref m10, .ref m11, .long ha], aI G m0 220 nw, aI G m1 880 pp]) (rest := [.ref qm]) (c_X4_within l hl G x.toInt64 2 12) cd_X4_within tw_4_51 tw_4_50 [] [0, 1, 2] rfl rfl rfl rfl (by decide) rfl ⟨(Nat.le_of_ble_eq_true rfl), (Nat.le_of_ble_eq_true rfl), (Nat.le_of_ble_eq_true rfl), (Nat.le_of_ble_eq_true rfl)⟩ (Nat.le_of_ble_eq_true rfl) rfl (dcq dc_X4_setPeriod_0 5 rfl) ?_
  rintro _ _ h9x
  rcases h9x with ⟨rfl, rfl, hw_9⟩ | ⟨rfl, rfl, hw_9⟩
  · skip
    have hw_9 : 2 ≤ x.toInt64 ∧ x.toInt64 ≤ 12 := hw_9
    change J p l e (cRm 2 44 0 0) s m args below meth c G A 2 (JQ below G A (po_X4_setPeriod G qm m0 m1 m2 m3 m4 m5 m6 m7 m8 m9 m10 m11 hc rf sp ha nw P M R n v g d pp x) args s 0 0) 0 0 12 [(0, .ref qm), (1, .int x)] [.int (nI 1), .ref qm] [oB 4 qm [.ref m0, .ref m1, .int (nI hc), .int (nI rf), .ref m2, .ref m3, .ref m4, .ref m5, .ref m6, .ref m7, .ref m8, .long sp, .ref m9, .ref m10, .ref m11, .long ha], aI G m0 220 nw, aI G m1 880 pp]
    refine J_if_eq F 19 (dcq dc_X4_setPeriod_0 6 rfl) (by decide) (fun h_1 => absurd h_1 (by decide)) (fun _ => ?_)
    refine J_iconst F (dcq dc_X4_setPeriod_0 7 rfl) ic_0 ?_
    refine J_goto F 20 (dcq dc_X4_setPeriod_0 8 rfl) (by decide) ?_
    refine J_callV F (wc := [oB 4 qm [.ref m0, .ref m1, .int (nI hc), .int (nI rf), .ref m2, .ref m3, .ref m4, .ref m5, .ref m6, .ref m7, .ref m8, .long sp, .ref m9, .ref m10, .ref m11, .long ha]]) (wr := [aI G m0 220 nw, aI G m1 880 pp]) (rest := []) (qc := 0) (c_X4_refused_0 l hl G qm m0 m1 m2 m3 m4 m5 m6 m7 m8 m9 m10 m11 hc rf sp ha) cd_X4_refused cv_X4_refused rfl rfl rfl tw_4_40 [0] [1, 2] rfl rfl rfl rfl (by decide) rfl ⟨(Nat.le_of_ble_eq_true rfl), (Nat.le_of_ble_eq_true rfl), (Nat.le_of_ble_eq_true rfl), (Nat.le_of_ble_eq_true rfl)⟩ (Nat.le_of_ble_eq_true rfl) rfl (dcq dc_X4_setPeriod_0 10 rfl) ?_
    rintro _ _ ⟨rfl, rfl⟩
    change J p l e (cRm 2 44 0 0) s m args below meth c G A 2 (JQ below G A (po_X4_setPeriod G qm m0 m1 m2 m3 m4 m5 m6 m7 m8 m9 m10 m11 hc rf sp ha nw P M R n v g d pp x) args s 0 0) 0 0 23 [(0, .ref qm), (1, .int x)] [.int (nI 0)] [aI G m0 220 nw, aI G m1 880 pp, oB 4 qm [.ref m0, .ref m1, .int (nI hc), .int (nI 0), .ref m2, .ref m3, .ref m4, .ref m5, .ref m6, .ref m7, .ref m8, .long sp, .ref m9, .ref m10, .ref m11, .long ha]]
    refine J_world (ws2 := [oB 4 qm [.ref m0, .ref m1, .int (nI hc), .int (nI 0), .ref m2, .ref m3, .ref m4, .ref m5, .ref m6, .ref m7, .ref m8, .long sp, .ref m9, .ref m10, .ref m11, .long ha], aI G m0 220 nw, aI G m1 880 pp]) [2, 0, 1] rfl rfl ?_
    refine J_if_eq F 30 (dcq dc_X4_setPeriod_0 11 rfl) (by decide) (fun _ => ?_) (fun h_2 => absurd h_2 (by decide))
    refine J_aload_n F 0 (dcq dc_X4_setPeriod_0 14 rfl) rfl rfl ?_
    refine J_iconst F (dcq dc_X4_setPeriod_0 15 rfl) ic_0 ?_
    refine J_iload_n F 1 (dcq dc_X4_setPeriod_0 16 rfl) rfl rfl ?_
    refine J_callV F (wc := [oB 4 qm [.ref m0, .ref m1, .int (nI hc), .int (nI 0), .ref m2, .ref m3, .ref m4, .ref m5, .ref m6, .ref m7, .ref m8, .long sp, .ref m9, .ref m10, .ref m11, .long ha], aI G m0 220 nw, aI G m1 880 pp]) (wr := []) (rest := []) (qc := 0) (c_X4_sets l hl G qm m0 m1 m2 m3 m4 m5 m6 m7 m8 m9 m10 m11 hc 0 sp ha nw pp 0 x (by first | assumption | omega) (by first | assumption | omega)) cd_X4_sets cv_X4_sets rfl rfl rfl tw_4_53 [0, 1, 2] [] rfl rfl rfl rfl (by decide) rfl ⟨(Nat.le_of_ble_eq_true rfl), (Nat.le_of_ble_eq_true rfl), (Nat.le_of_ble_eq_true rfl), (Nat.le_of_ble_eq_true rfl)⟩ (Nat.le_of_ble_eq_true rfl) rfl (dcq dc_X4_setPeriod_0 17 rfl) ?_
    rintro _ _ ⟨c2, pp2, rfl, rfl, hms⟩
    change J p l e (cRm 2 44 0 0) s m args below meth c G A 2 (JQ below G A (po_X4_setPeriod G qm m0 m1 m2 m3 m4 m5 m6 m7 m8 m9 m10 m11 hc rf sp ha nw P M R n v g d pp x) args s 0 0) 0 0 36 [(0, .ref qm), (1, .int x)] [.int (nw 0)] [oB 4 qm [.ref m0, .ref m1, .int (nI c2), .int (nI 0), .ref m2, .ref m3, .ref m4, .ref m5, .ref m6, .ref m7, .ref m8, .long sp, .ref m9, .ref m10, .ref m11, .long ha], aI G m0 220 (upd nw 0 x), aI G m1 880 pp2]
    have hms : MSV hc pp nw c2 pp2 := hms
    refine J_cast (lv2 := [(0, .ref qm), (1, .int x)]) (st2 := [.int (nI P)]) (ws2 := [oB 4 qm [.ref m0, .ref m1, .int (nI c2), .int (nI 0), .ref m2, .ref m3, .ref m4, .ref m5, .ref m6, .ref m7, .ref m8, .long sp, .ref m9, .ref m10, .ref m11, .long ha], aI G m0 220 (upd nw 0 x), aI G m1 880 pp2]) (rfl) (by rw [hRM.1]) (rfl) ?_
    exact J_iret F (Or.inl ⟨c2, pp2, rfl, rfl, by first | assumption | omega, (wi (by decide) (by decide)).mp hw_9⟩) (Nat.le_of_ble_eq_true rfl) (Nat.le_of_ble_eq_true rfl) (dcq dc_X4_setPeriod_0 18 rfl)
  · skip
    have hw_9 : ¬ (2 ≤ x.toInt64 ∧ x.toInt64 ≤ 12) := hw_9
    change J p l e (cRm 2 44 0 0) s m args below meth c G A 2 (JQ below G A (po_X4_setPeriod G qm m0 m1 m2 m3 m4 m5 m6 m7 m8 m9 m10 m11 hc rf sp ha nw P M R n v g d pp x) args s 0 0) 0 0 12 [(0, .ref qm), (1, .int x)] [.int (nI 0), .ref qm] [oB 4 qm [.ref m0, .ref m1, .int (nI hc), .int (nI rf), .ref m2, .ref m3, .ref m4, .ref m5, .ref m6, .ref m7, .ref m8, .long sp, .ref m9, .ref m10, .ref m11, .long ha], aI G m0 220 nw, aI G m1 880 pp]
    refine J_if_eq F 19 (dcq dc_X4_setPeriod_0 6 rfl) (by decide) (fun _ => ?_) (fun h_3 => absurd h_3 (by decide))
    refine J_iconst F (dcq dc_X4_setPeriod_0 9 rfl) ic_1 ?_
    refine J_callV F (wc := [oB 4 qm [.ref m0, .ref m1, .int (nI hc), .int (nI rf), .ref m2, .ref m3, .ref m4, .ref m5, .ref m6, .ref m7, .ref m8, .long sp, .ref m9, .ref m10, .ref m11, .long ha]]) (wr := [aI G m0 220 nw, aI G m1 880 pp]) (rest := []) (qc := 0) (c_X4_refused_1 l hl G qm m0 m1 m2 m3 m4 m5 m6 m7 m8 m9 m10 m11 hc rf sp ha) cd_X4_refused cv_X4_refused rfl rfl rfl tw_4_40 [0] [1, 2] rfl rfl rfl rfl (by decide) rfl ⟨(Nat.le_of_ble_eq_true rfl), (Nat.le_of_ble_eq_true rfl), (Nat.le_of_ble_eq_true rfl), (Nat.le_of_ble_eq_true rfl)⟩ (Nat.le_of_ble_eq_true rfl) rfl (dcq dc_X4_setPeriod_0 10 rfl) ?_
    rintro _ _ ⟨rfl, rfl⟩
    change J p l e (cRm 2 44 0 0) s m args below meth c G A 2 (JQ below G A (po_X4_setPeriod G qm m0 m1 m2 m3 m4 m5 m6 m7 m8 m9 m10 m11 hc rf sp ha nw P M R n v g d pp x) args s 0 0) 0 0 23 [(0, .ref qm), (1, .int x)] [.int (nI 1)] [aI G m0 220 nw, aI G m1 880 pp, oB 4 qm [.ref m0, .ref m1, .int (nI hc), .int (nI 1), .ref m2, .ref m3, .ref m4, .ref m5, .ref m6, .ref m7, .ref m8, .long sp, .ref m9, .ref m10, .ref m11, .long ha]]
    refine J_world (ws2 := [oB 4 qm [.ref m0, .ref m1, .int (nI hc), .int (nI 1), .ref m2, .ref m3, .ref m4, .ref m5, .ref m6, .ref m7, .ref m8, .long sp, .ref m9, .ref m10, .ref m11, .long ha], aI G m0 220 nw, aI G m1 880 pp]) [2, 0, 1] rfl rfl ?_
    refine J_if_eq F 30 (dcq dc_X4_setPeriod_0 11 rfl) (by decide) (fun h_4 => absurd h_4 (by decide)) (fun _ => ?_)
    refine J_iconst F (dcq dc_X4_setPeriod_0 12 rfl) ic_0 ?_
    refine J_goto F 36 (dcq dc_X4_setPeriod_0 13 rfl) (by decide) ?_
    exact J_iret F (Or.inr (⟨rfl, rfl, fun z => hw_9 ((wi (by decide) (by decide)).mpr z)⟩)) (Nat.le_of_ble_eq_true rfl) (Nat.le_of_ble_eq_true rfl) (dcq dc_X4_setPeriod_0 18 rfl)

abbrev po_X4_isAnyLow (G : Gt) (qm m0 m1 m2 m3 m4 m5 m6 m7 m8 m9 m10 m11 hc rf : Nat) (sp ha : Int64) (nw : Nat → Int32) (P M R n : Nat) (v g d : Nat → Int32) : Option Value → va_W → Prop := fun (v9 : Option Value) (w9 : va_W) => ∃ (r : Nat), v9 = some (.int (nI r)) ∧ w9 = [oB 4 qm [.ref m0, .ref m1, .int (nI hc), .int (nI rf), .ref m2, .ref m3, .ref m4, .ref m5, .ref m6, .ref m7, .ref m8, .long sp, .ref m9, .ref m10, .ref m11, .long ha], aI G m0 220 nw] ∧ (r ≤ 1) ∧ (r = 1 ↔ low n v g)
set_option maxHeartbeats 4000000 in
set_option maxRecDepth 100000 in
theorem c_X4_isAnyLow (l : Launch) (hl : l.stackTraces = false) (G : Gt) (qm m0 m1 m2 m3 m4 m5 m6 m7 m8 m9 m10 m11 hc rf : Nat) (sp ha : Int64) (nw : Nat → Int32) (P M R n : Nat) (v g d : Nat → Int32) (hRM : RM nw P M R n v g d) (hn : n ≤ 72) (h01 : G01 n g) : Con l G yX4_isAnyLow cX4_isAnyLow 3 (some .boolean) 1 21 0 0 [.ref qm] [oB 4 qm [.ref m0, .ref m1, .int (nI hc), .int (nI rf), .ref m2, .ref m3, .ref m4, .ref m5, .ref m6, .ref m7, .ref m8, .long sp, .ref m9, .ref m10, .ref m11, .long ha], aI G m0 220 nw] (po_X4_isAnyLow G qm m0 m1 m2 m3 m4 m5 m6 m7 m8 m9 m10 m11 hc rf sp ha nw P M R n v g d) := by
  refine Con.of hl cd_X4_isAnyLow (Nat.le_of_ble_eq_true rfl) ?_
  intro p e s m args below meth c A F hin9
  change Fx p l s m args meth c G A "SeasonalAdjusterModel" cX4_isAnyLow 3 (some .boolean) at F
  change J p l e (cRm 1 21 0 0) s m args below meth c G A 3 (JQ below G A (po_X4_isAnyLow G qm m0 m1 m2 m3 m4 m5 m6 m7 m8 m9 m10 m11 hc rf sp ha nw P M R n v g d) args s 0 0) 0 0 0 [(0, .ref qm)] [] [oB 4 qm [.ref m0, .ref m1, .int (nI hc), .int (nI rf), .ref m2, .ref m3, .ref m4, .ref m5, .ref m6, .ref m7, .ref m8, .long sp, .ref m9, .ref m10, .ref m11, .long ha], aI G m0 220 nw]
  refine J_iconst F (dcq dc_X4_isAnyLow_0 0 rfl) ic_0 ?_
  refine J_istore_n F (lv2 := [(1, .int (nI 0)), (0, .ref qm)]) (dcq dc_X4_isAnyLow_0 1 rfl) rfl (Nat.le_of_ble_eq_true rfl) rfl ?_
  refine J_iconst F (dcq dc_X4_isAnyLow_0 2 rfl) ic_0 ?_
  refine J_istore_n F (lv2 := [(2, .int (nI 0)), (1, .int (nI 0)), (0, .ref qm)]) (dcq dc_X4_isAnyLow_0 3 rfl) rfl (Nat.le_of_ble_eq_true rfl) rfl ?_
  have L4 : ∀ (fu4 : Nat), ∀ (t b : Nat), (t ≤ n) → (b ≤ 1) → (b = 1 ↔ low t v g) → n - t < fu4 → J p l e (cRm 1 21 0 0) s m args below meth c G A 3 (JQ below G A (po_X4_isAnyLow G qm m0 m1 m2 m3 m4 m5 m6 m7 m8 m9 m10 m11 hc rf sp ha nw P M R n v g d) args s 0 0) 0 0 4 [(0, .ref qm), (1, .int (nI b)), (2, .int (nI t))] [] [oB 4 qm [.ref m0, .ref m1, .int (nI hc), .int (nI rf), .ref m2, .ref m3, .ref m4, .ref m5, .ref m6, .ref m7, .ref m8, .long sp, .ref m9, .ref m10, .ref m11, .long ha], aI G m0 220 nw] := by
    intro fu4
    induction fu4 with
    | zero => intro t b ht hb iv hm4; exact absurd hm4 (Nat.not_lt_zero _)
    | succ fu4 ih4 =>
      intro t b ht hb iv hm4
      refine J_iload_n F 2 (dcq dc_X4_isAnyLow_0 4 rfl) rfl rfl ?_
      refine J_aload_n F 0 (dcq dc_X4_isAnyLow_0 5 rfl) rfl rfl ?_
      refine J_get F fcX4 0 0 rfl (Nat.le_of_ble_eq_true rfl) tw_3_223 rfl rfl (dcq dc_X4_isAnyLow_0 6 rfl) ?_
      refine J_iconst F (dcq dc_X4_isAnyLow_0 7 rfl) ic_3 ?_
      refine J_iald F 1 rfl (by omega) (Nat.le_of_ble_eq_true rfl) (dcq dc_X4_isAnyLow_0 8 rfl) ?_
      refine J_cast rfl (st2 := [.int (nI n), .int (nI t)]) (by rw [hRM.2.2.2.1]) rfl ?_
      refine J_ncmp_ge F 47 (by omega) (by omega) (dcq dc_X4_isAnyLow_0 9 rfl) (by decide) (fun h_1 => ?_) (fun h_1 => ?_)
      · skip
        refine J_iload_n F 1 (dcq dc_X4_isAnyLow_0 27 rfl) rfl rfl ?_
        exact J_zret F (by rcases (show b = 0 ∨ b = 1 by omega) with rfl | rfl <;> decide) ⟨b, rfl, rfl, hb, by rw [iv, show t = n by omega]⟩ (Nat.le_of_ble_eq_true rfl) (Nat.le_of_ble_eq_true rfl) (dcq dc_X4_isAnyLow_0 28 rfl)
      · skip
        refine J_iload_n F 1 (dcq dc_X4_isAnyLow_0 10 rfl) rfl rfl ?_
        refine J_nif_ne F 35 (by omega) (dcq dc_X4_isAnyLow_0 11 rfl) (by decide) (fun h_2 => ?_) (fun h_2 => ?_)
        · skip
          have hb1 := h_2
          refine J_iconst F (dcq dc_X4_isAnyLow_0 21 rfl) ic_1 ?_
          refine J_goto F 40 (dcq dc_X4_isAnyLow_0 22 rfl) (by decide) ?_
          refine J_istore_n F (lv2 := [(1, .int (nI 1)), (0, .ref qm), (2, .int (nI t))]) (dcq dc_X4_isAnyLow_0 24 rfl) rfl (Nat.le_of_ble_eq_true rfl) rfl ?_
          refine J_iinc F (lv2 := [(2, .int (nI (t + 1))), (1, .int (nI 1)), (0, .ref qm)]) (v := nI (t + 1)) 2 (dcq dc_X4_isAnyLow_0 25 rfl) rfl (nI_inc _) (Nat.le_of_ble_eq_true rfl) rfl ?_
          refine J_goto F 4 (dcq dc_X4_isAnyLow_0 26 rfl) (by decide) ?_
          refine J_locs [2, 1, 0] rfl ?_
          exact ih4 (t + 1) 1 (by omega) (by omega) (⟨fun _ => low_mono (iv.mp (by omega)), fun _ => rfl⟩) (by omega)
        · skip
          have hb1 := h_2
          refine J_aload_n F 0 (dcq dc_X4_isAnyLow_0 12 rfl) rfl rfl ?_
          refine J_iload_n F 2 (dcq dc_X4_isAnyLow_0 13 rfl) rfl rfl ?_
          refine J_callV F (wc := [oB 4 qm [.ref m0, .ref m1, .int (nI hc), .int (nI rf), .ref m2, .ref m3, .ref m4, .ref m5, .ref m6, .ref m7, .ref m8, .long sp, .ref m9, .ref m10, .ref m11, .long ha], aI G m0 220 nw]) (wr := []) (rest := []) (qc := 0) (c_X4_isMissing l hl G qm m0 m1 m2 m3 m4 m5 m6 m7 m8 m9 m10 m11 hc rf sp ha nw P M R n v g d t (by first | assumption | omega) (by first | assumption | omega) (by first | assumption | omega) (by first | assumption | omega)) cd_X4_isMissing cv_X4_isMissing rfl rfl rfl tw_4_69 [0, 1] [] rfl rfl rfl rfl (by decide) rfl ⟨(Nat.le_of_ble_eq_true rfl), (Nat.le_of_ble_eq_true rfl), (Nat.le_of_ble_eq_true rfl), (Nat.le_of_ble_eq_true rfl)⟩ (Nat.le_of_ble_eq_true rfl) rfl (dcq dc_X4_isAnyLow_0 14 rfl) ?_
          rintro _ _ h9x
          rcases h9x with ⟨rfl, rfl, hg_20⟩ | ⟨rfl, rfl, hg_20⟩
          · skip
            have hg_20 : ¬ g t = 0 := hg_20
            change J p l e (cRm 1 21 0 0) s m args below meth c G A 3 (JQ below G A (po_X4_isAnyLow G qm m0 m1 m2 m3 m4 m5 m6 m7 m8 m9 m10 m11 hc rf sp ha nw P M R n v g d) args s 0 0) 0 0 23 [(0, .ref qm), (1, .int (nI b)), (2, .int (nI t))] [.int (nI 1)] [oB 4 qm [.ref m0, .ref m1, .int (nI hc), .int (nI rf), .ref m2, .ref m3, .ref m4, .ref m5, .ref m6, .ref m7, .ref m8, .long sp, .ref m9, .ref m10, .ref m11, .long ha], aI G m0 220 nw]
            refine J_if_ne F 39 (dcq dc_X4_isAnyLow_0 15 rfl) (by decide) (fun _ => ?_) (fun h_3 => absurd h_3 (by decide))
            refine J_iconst F (dcq dc_X4_isAnyLow_0 23 rfl) ic_0 ?_
            refine J_istore_n F (lv2 := [(1, .int (nI 0)), (0, .ref qm), (2, .int (nI t))]) (dcq dc_X4_isAnyLow_0 24 rfl) rfl (Nat.le_of_ble_eq_true rfl) rfl ?_
            refine J_iinc F (lv2 := [(2, .int (nI (t + 1))), (1, .int (nI 0)), (0, .ref qm)]) (v := nI (t + 1)) 2 (dcq dc_X4_isAnyLow_0 25 rfl) rfl (nI_inc _) (Nat.le_of_ble_eq_true rfl) rfl ?_
            refine J_goto F 4 (dcq dc_X4_isAnyLow_0 26 rfl) (by decide) ?_
            refine J_locs [2, 1, 0] rfl ?_
            exact ih4 (t + 1) 0 (by omega) (by omega) (⟨fun h => absurd h (by decide), fun z => absurd (low_pred z (by first | exact fun q => hg_20 q.1 | exact fun q => q.2 hv)) (fun q => by have := iv.mpr q; omega)⟩) (by omega)
          · skip
            have hg_20 : g t = 0 := hg_20
            change J p l e (cRm 1 21 0 0) s m args below meth c G A 3 (JQ below G A (po_X4_isAnyLow G qm m0 m1 m2 m3 m4 m5 m6 m7 m8 m9 m10 m11 hc rf sp ha nw P M R n v g d) args s 0 0) 0 0 23 [(0, .ref qm), (1, .int (nI b)), (2, .int (nI t))] [.int (nI 0)] [oB 4 qm [.ref m0, .ref m1, .int (nI hc), .int (nI rf), .ref m2, .ref m3, .ref m4, .ref m5, .ref m6, .ref m7, .ref m8, .long sp, .ref m9, .ref m10, .ref m11, .long ha], aI G m0 220 nw]
            refine J_if_ne F 39 (dcq dc_X4_isAnyLow_0 15 rfl) (by decide) (fun h_4 => absurd h_4 (by decide)) (fun _ => ?_)
            refine J_aload_n F 0 (dcq dc_X4_isAnyLow_0 16 rfl) rfl rfl ?_
            refine J_iload_n F 2 (dcq dc_X4_isAnyLow_0 17 rfl) rfl rfl ?_
            refine J_callV F (wc := [oB 4 qm [.ref m0, .ref m1, .int (nI hc), .int (nI rf), .ref m2, .ref m3, .ref m4, .ref m5, .ref m6, .ref m7, .ref m8, .long sp, .ref m9, .ref m10, .ref m11, .long ha], aI G m0 220 nw]) (wr := []) (rest := []) (qc := 0) (c_X4_valueAt l hl G qm m0 m1 m2 m3 m4 m5 m6 m7 m8 m9 m10 m11 hc rf sp ha nw P M R n v g d t (by first | assumption | omega) (by first | assumption | omega) (by first | assumption | omega)) cd_X4_valueAt cv_X4_valueAt rfl rfl rfl tw_4_73 [0, 1] [] rfl rfl rfl rfl (by decide) rfl ⟨(Nat.le_of_ble_eq_true rfl), (Nat.le_of_ble_eq_true rfl), (Nat.le_of_ble_eq_true rfl), (Nat.le_of_ble_eq_true rfl)⟩ (Nat.le_of_ble_eq_true rfl) rfl (dcq dc_X4_isAnyLow_0 18 rfl) ?_
            rintro _ _ ⟨rfl, rfl⟩
            change J p l e (cRm 1 21 0 0) s m args below meth c G A 3 (JQ below G A (po_X4_isAnyLow G qm m0 m1 m2 m3 m4 m5 m6 m7 m8 m9 m10 m11 hc rf sp ha nw P M R n v g d) args s 0 0) 0 0 31 [(0, .ref qm), (1, .int (nI b)), (2, .int (nI t))] [.int (v t)] [oB 4 qm [.ref m0, .ref m1, .int (nI hc), .int (nI rf), .ref m2, .ref m3, .ref m4, .ref m5, .ref m6, .ref m7, .ref m8, .long sp, .ref m9, .ref m10, .ref m11, .long ha], aI G m0 220 nw]
            refine J_iconst F (dcq dc_X4_isAnyLow_0 19 rfl) ic_1 ?_
            refine J_icmp_ge F 39 (dcq dc_X4_isAnyLow_0 20 rfl) (by decide) (fun h_5 => ?_) (fun h_5 => ?_)
            · skip
              have hv := h_5
              refine J_iconst F (dcq dc_X4_isAnyLow_0 23 rfl) ic_0 ?_
              refine J_istore_n F (lv2 := [(1, .int (nI 0)), (0, .ref qm), (2, .int (nI t))]) (dcq dc_X4_isAnyLow_0 24 rfl) rfl (Nat.le_of_ble_eq_true rfl) rfl ?_
              refine J_iinc F (lv2 := [(2, .int (nI (t + 1))), (1, .int (nI 0)), (0, .ref qm)]) (v := nI (t + 1)) 2 (dcq dc_X4_isAnyLow_0 25 rfl) rfl (nI_inc _) (Nat.le_of_ble_eq_true rfl) rfl ?_
              refine J_goto F 4 (dcq dc_X4_isAnyLow_0 26 rfl) (by decide) ?_
              refine J_locs [2, 1, 0] rfl ?_
              exact ih4 (t + 1) 0 (by omega) (by omega) (⟨fun h => absurd h (by decide), fun z => absurd (low_pred z (by first | exact fun q => hg_20 q.1 | exact fun q => q.2 hv)) (fun q => by have := iv.mpr q; omega)⟩) (by omega)
            · skip
              have hv := h_5
              refine J_iconst F (dcq dc_X4_isAnyLow_0 21 rfl) ic_1 ?_
              refine J_goto F 40 (dcq dc_X4_isAnyLow_0 22 rfl) (by decide) ?_
              refine J_istore_n F (lv2 := [(1, .int (nI 1)), (0, .ref qm), (2, .int (nI t))]) (dcq dc_X4_isAnyLow_0 24 rfl) rfl (Nat.le_of_ble_eq_true rfl) rfl ?_
              refine J_iinc F (lv2 := [(2, .int (nI (t + 1))), (1, .int (nI 1)), (0, .ref qm)]) (v := nI (t + 1)) 2 (dcq dc_X4_isAnyLow_0 25 rfl) rfl (nI_inc _) (Nat.le_of_ble_eq_true rfl) rfl ?_
              refine J_goto F 4 (dcq dc_X4_isAnyLow_0 26 rfl) (by decide) ?_
              refine J_locs [2, 1, 0] rfl ?_
              exact ih4 (t + 1) 1 (by omega) (by omega) (⟨fun _ => ⟨t, by omega, hg_20, hv⟩, fun _ => rfl⟩) (by omega)
  refine J_locs [2, 1, 0] rfl ?_
  exact L4 (n - 0 + 1) 0 0 (by omega) (by omega) (⟨fun h => absurd h (by decide), fun ⟨j, h, _⟩ => absurd h (Nat.not_lt_zero _)⟩) (Nat.lt_succ_self _)

abbrev po_X4_setMode (G : Gt) (qm m0 m1 m2 m3 m4 m5 m6 m7 m8 m9 m10 m11 hc rf : Nat) (sp ha : Int64) (nw : Nat → Int32) (P M R n : Nat) (v g d : Nat → Int32) (pp : Nat → Int32) (x : Int32) : Option Value → va_W → Prop := fun (v9 : Option Value) (w9 : va_W) => (∃ (c2 : Nat), ∃ (pp2 : Nat → Int32), v9 = some (.int (nI M)) ∧ w9 = [oB 4 qm [.ref m0, .ref m1, .int (nI c2), .int (nI 0), .ref m2, .ref m3, .ref m4, .ref m5, .ref m6, .ref m7, .ref m8, .long sp, .ref m9, .ref m10, .ref m11, .long ha], aI G m0 220 (upd nw 1 x), aI G m1 880 pp2] ∧ (MSV hc pp nw c2 pp2) ∧ (nI 0 ≤ x ∧ x ≤ nI 1) ∧ (x = nI 1 → ¬ low n v g)) ∨ (v9 = some (.int (nI 0)) ∧ w9 = [oB 4 qm [.ref m0, .ref m1, .int (nI hc), .int (nI 1), .ref m2, .ref m3, .ref m4, .ref m5, .ref m6, .ref m7, .ref m8, .long sp, .ref m9, .ref m10, .ref m11, .long ha], aI G m0 220 nw, aI G m1 880 pp] ∧ (¬ (nI 0 ≤ x ∧ x ≤ nI 1))) ∨ (v9 = some (.int (nI 0)) ∧ w9 = [oB 4 qm [.ref m0, .ref m1, .int (nI hc), .int (nI 2), .ref m2, .ref m3, .ref m4, .ref m5, .ref m6, .ref m7, .ref m8, .long sp, .ref m9, .ref m10, .ref m11, .long ha], aI G m0 220 nw, aI G m1 880 pp] ∧ (x = nI 1) ∧ (low n v g))
set_option maxHeartbeats 4000000 in
set_option maxRecDepth 100000 in
theorem c_X4_setMode (l : Launch) (hl : l.stackTraces = false) (G : Gt) (qm m0 m1 m2 m3 m4 m5 m6 m7 m8 m9 m10 m11 hc rf : Nat) (sp ha : Int64) (nw : Nat → Int32) (P M R n : Nat) (v g d : Nat → Int32) (pp : Nat → Int32) (x : Int32) (hRM : RM nw P M R n v g d) (hhc : hc ≤ 4) (hn : n ≤ 72) (h01 : G01 n g) : Con l G yX4_setMode cX4_setMode 2 (some .int) 2 44 0 0 [.ref qm, .int x] [oB 4 qm [.ref m0, .ref m1, .int (nI hc), .int (nI rf), .ref m2, .ref m3, .ref m4, .ref m5, .ref m6, .ref m7, .ref m8, .long sp, .ref m9, .ref m10, .ref m11, .long ha], aI G m0 220 nw, aI G m1 880 pp] (po_X4_setMode G qm m0 m1 m2 m3 m4 m5 m6 m7 m8 m9 m10 m11 hc rf sp ha nw P M R n v g d pp x) := by
  refine Con.of hl cd_X4_setMode (Nat.le_of_ble_eq_true rfl) ?_
  intro p e s m args below meth c A F hin9
  change Fx p l s m args meth c G A "SeasonalAdjusterModel" cX4_setMode 2 (some .int) at F
  change J p l e (cRm 2 44 0 0) s m args below meth c G A 2 (JQ below G A (po_X4_setMode G qm m0 m1 m2 m3 m4 m5 m6 m7 m8 m9 m10 m11 hc rf sp ha nw P M R n v g d pp x) args s 0 0) 0 0 0 [(0, .ref qm), (1, .int x)] [] [oB 4 qm [.ref m0, .ref m1, .int (nI hc), .int (nI rf), .ref m2, .ref m3, .ref m4, .ref m5, .ref m6, .ref m7, .ref m8, .long sp, .ref m9, .ref m10, .ref m11, .long ha], aI G m0 220 nw, aI G m1 880 pp]
  refine J_aload_n F 0 (dcq dc_X4_setMode_0 0 rfl) rfl rfl ?_
  refine J_iload_n F 1 (dcq dc_X4_setMode_0 1 rfl) rfl rfl ?_
  refine J_i2l F (v := x.toInt64) (dcq dc_X4_setMode_0 2 rfl) rfl ?_
  refine J_lconst F (dcq dc_X4_setMode_0 3 rfl) lc_0 ?_
  refine J_lconst F (dcq dc_X4_setMode_0 4 rfl) lc_1 ?_
  refine J_callS F (wc := []) (wr := [oB 4 qm [.ref m0, .ref m1, .int (nI hc), .int (nI rf), .ref m2, .ref m3, .ref m4, .ref m5, .ref m6, .ref m7, .ref m8, .long sp, .ref m9, .ref m10, .ref m11, .long ha], aI G m0 220 nw, aI G m1 880 pp]) (rest := [.ref qm]) (c_X4_within l hl G x.toInt64 0 1) cd_X4_within tw_4_51 tw_4_50 [] [0, 1, 2] rfl rfl rfl rfl (by decide) rfl ⟨(Nat.le_of_ble_eq_true rfl), (Nat.le_of_ble_eq_true rfl), (Nat.le_of_ble_eq_true rfl), (Nat.le_of_ble_eq_true rfl)⟩ (Nat.le_of_ble_eq_true rfl) rfl (dcq dc_X4_setMode_0 5 rfl) ?_
  rintro _ _ h9x
  rcases h9x with ⟨rfl, rfl, hw_5⟩ | ⟨rfl, rfl, hw_5⟩
  · skip
    have hw_5 : 0 ≤ x.toInt64 ∧ x.toInt64 ≤ 1 := hw_5
    change J p l e (cRm 2 44 0 0) s m args below meth c G A 2 (JQ below G A (po_X4_setMode G qm m0 m1 m2 m3 m4 m5 m6 m7 m8 m9 m10 m11 hc rf sp ha nw P M R n v g d pp x) args s 0 0) 0 0 8 [(0, .ref qm), (1, .int x)] [.int (nI 1), .ref qm] [oB 4 qm [.ref m0, .ref m1, .int (nI hc), .int (nI rf), .ref m2, .ref m3, .ref m4, .ref m5, .ref m6, .ref m7, .ref m8, .long sp, .ref m9, .ref m10, .ref m11, .long ha], aI G m0 220 nw, aI G m1 880 pp]
    refine J_if_ne F 15 (dcq dc_X4_setMode_0 6 rfl) (by decide) (fun _ => ?_) (fun h_1 => absurd h_1 (by decide))
    refine J_iload_n F 1 (dcq dc_X4_setMode_0 9 rfl) rfl rfl ?_
    refine J_iconst F (dcq dc_X4_setMode_0 10 rfl) ic_1 ?_
    refine J_icmp_ne F 31 (dcq dc_X4_setMode_0 11 rfl) (by decide) (fun h_2 => ?_) (fun h_2 => ?_)
    · skip
      have hm1 := h_2
      refine J_iconst F (dcq dc_X4_setMode_0 17 rfl) ic_0 ?_
      refine J_callV F (wc := [oB 4 qm [.ref m0, .ref m1, .int (nI hc), .int (nI rf), .ref m2, .ref m3, .ref m4, .ref m5, .ref m6, .ref m7, .ref m8, .long sp, .ref m9, .ref m10, .ref m11, .long ha]]) (wr := [aI G m0 220 nw, aI G m1 880 pp]) (rest := []) (qc := 0) (c_X4_refused_0 l hl G qm m0 m1 m2 m3 m4 m5 m6 m7 m8 m9 m10 m11 hc rf sp ha) cd_X4_refused cv_X4_refused rfl rfl rfl tw_4_40 [0] [1, 2] rfl rfl rfl rfl (by decide) rfl ⟨(Nat.le_of_ble_eq_true rfl), (Nat.le_of_ble_eq_true rfl), (Nat.le_of_ble_eq_true rfl), (Nat.le_of_ble_eq_true rfl)⟩ (Nat.le_of_ble_eq_true rfl) rfl (dcq dc_X4_setMode_0 18 rfl) ?_
      rintro _ _ ⟨rfl, rfl⟩
      change J p l e (cRm 2 44 0 0) s m args below meth c G A 2 (JQ below G A (po_X4_setMode G qm m0 m1 m2 m3 m4 m5 m6 m7 m8 m9 m10 m11 hc rf sp ha nw P M R n v g d pp x) args s 0 0) 0 0 35 [(0, .ref qm), (1, .int x)] [.int (nI 0)] [aI G m0 220 nw, aI G m1 880 pp, oB 4 qm [.ref m0, .ref m1, .int (nI hc), .int (nI 0), .ref m2, .ref m3, .ref m4, .ref m5, .ref m6, .ref m7, .ref m8, .long sp, .ref m9, .ref m10, .ref m11, .long ha]]
      refine J_world (ws2 := [oB 4 qm [.ref m0, .ref m1, .int (nI hc), .int (nI 0), .ref m2, .ref m3, .ref m4, .ref m5, .ref m6, .ref m7, .ref m8, .long sp, .ref m9, .ref m10, .ref m11, .long ha], aI G m0 220 nw, aI G m1 880 pp]) [2, 0, 1] rfl rfl ?_
      refine J_if_eq F 42 (dcq dc_X4_setMode_0 19 rfl) (by decide) (fun _ => ?_) (fun h_3 => absurd h_3 (by decide))
      refine J_aload_n F 0 (dcq dc_X4_setMode_0 22 rfl) rfl rfl ?_
      refine J_iconst F (dcq dc_X4_setMode_0 23 rfl) ic_1 ?_
      refine J_iload_n F 1 (dcq dc_X4_setMode_0 24 rfl) rfl rfl ?_
      refine J_callV F (wc := [oB 4 qm [.ref m0, .ref m1, .int (nI hc), .int (nI 0), .ref m2, .ref m3, .ref m4, .ref m5, .ref m6, .ref m7, .ref m8, .long sp, .ref m9, .ref m10, .ref m11, .long ha], aI G m0 220 nw, aI G m1 880 pp]) (wr := []) (rest := []) (qc := 0) (c_X4_sets l hl G qm m0 m1 m2 m3 m4 m5 m6 m7 m8 m9 m10 m11 hc 0 sp ha nw pp 1 x (by first | assumption | omega) (by first | assumption | omega)) cd_X4_sets cv_X4_sets rfl rfl rfl tw_4_53 [0, 1, 2] [] rfl rfl rfl rfl (by decide) rfl ⟨(Nat.le_of_ble_eq_true rfl), (Nat.le_of_ble_eq_true rfl), (Nat.le_of_ble_eq_true rfl), (Nat.le_of_ble_eq_true rfl)⟩ (Nat.le_of_ble_eq_true rfl) rfl (dcq dc_X4_setMode_0 25 rfl) ?_
      rintro _ _ ⟨c2, pp2, rfl, rfl, hms⟩
      change J p l e (cRm 2 44 0 0) s m args below meth c G A 2 (JQ below G A (po_X4_setMode G qm m0 m1 m2 m3 m4 m5 m6 m7 m8 m9 m10 m11 hc rf sp ha nw P M R n v g d pp x) args s 0 0) 0 0 48 [(0, .ref qm), (1, .int x)] [.int (nw 1)] [oB 4 qm [.ref m0, .ref m1, .int (nI c2), .int (nI 0), .ref m2, .ref m3, .ref m4, .ref m5, .ref m6, .ref m7, .ref m8, .long sp, .ref m9, .ref m10, .ref m11, .long ha], aI G m0 220 (upd nw 1 x), aI G m1 880 pp2]
      have hms : MSV hc pp nw c2 pp2 := hms
      refine J_cast (lv2 := [(0, .ref qm), (1, .int x)]) (st2 := [.int (nI M)]) (ws2 := [oB 4 qm [.ref m0, .ref m1, .int (nI c2), .int (nI 0), .ref m2, .ref m3, .ref m4, .ref m5, .ref m6, .ref m7, .ref m8, .long sp, .ref m9, .ref m10, .ref m11, .long ha], aI G m0 220 (upd nw 1 x), aI G m1 880 pp2]) (rfl) (by rw [hRM.2.1]) (rfl) ?_
      exact J_iret F (Or.inl ⟨c2, pp2, rfl, rfl, by first | assumption | omega, (wi (by decide) (by decide)).mp hw_5, fun e9 => by first | exact absurd e9 hm1 | exact fun z => by have := hrl.mpr z; omega⟩) (Nat.le_of_ble_eq_true rfl) (Nat.le_of_ble_eq_true rfl) (dcq dc_X4_setMode_0 26 rfl)
    · skip
      have hm1 := h_2
      refine J_aload_n F 0 (dcq dc_X4_setMode_0 12 rfl) rfl rfl ?_
      refine J_callV F (wc := [oB 4 qm [.ref m0, .ref m1, .int (nI hc), .int (nI rf), .ref m2, .ref m3, .ref m4, .ref m5, .ref m6, .ref m7, .ref m8, .long sp, .ref m9, .ref m10, .ref m11, .long ha], aI G m0 220 nw]) (wr := [aI G m1 880 pp]) (rest := [.ref qm]) (qc := 0) (c_X4_isAnyLow l hl G qm m0 m1 m2 m3 m4 m5 m6 m7 m8 m9 m10 m11 hc rf sp ha nw P M R n v g d (by first | assumption | omega) (by first | assumption | omega) (by first | assumption | omega)) cd_X4_isAnyLow cv_X4_isAnyLow rfl rfl rfl tw_4_65 [0, 1] [2] rfl rfl rfl rfl (by decide) rfl ⟨(Nat.le_of_ble_eq_true rfl), (Nat.le_of_ble_eq_true rfl), (Nat.le_of_ble_eq_true rfl), (Nat.le_of_ble_eq_true rfl)⟩ (Nat.le_of_ble_eq_true rfl) rfl (dcq dc_X4_setMode_0 13 rfl) ?_
      rintro _ _ ⟨rl, rfl, rfl, hrl1, hrl⟩
      change J p l e (cRm 2 44 0 0) s m args below meth c G A 2 (JQ below G A (po_X4_setMode G qm m0 m1 m2 m3 m4 m5 m6 m7 m8 m9 m10 m11 hc rf sp ha nw P M R n v g d pp x) args s 0 0) 0 0 24 [(0, .ref qm), (1, .int x)] [.int (nI rl), .ref qm] [aI G m1 880 pp, oB 4 qm [.ref m0, .ref m1, .int (nI hc), .int (nI rf), .ref m2, .ref m3, .ref m4, .ref m5, .ref m6, .ref m7, .ref m8, .long sp, .ref m9, .ref m10, .ref m11, .long ha], aI G m0 220 nw]
      have hrl1 : rl ≤ 1 := hrl1
      have hrl : rl = 1 ↔ low n v g := hrl
      refine J_world (ws2 := [oB 4 qm [.ref m0, .ref m1, .int (nI hc), .int (nI rf), .ref m2, .ref m3, .ref m4, .ref m5, .ref m6, .ref m7, .ref m8, .long sp, .ref m9, .ref m10, .ref m11, .long ha], aI G m0 220 nw, aI G m1 880 pp]) [1, 2, 0] rfl rfl ?_
      refine J_nif_eq F 31 (by omega) (dcq dc_X4_setMode_0 14 rfl) (by decide) (fun h_4 => ?_) (fun h_4 => ?_)
      · skip
        have hrz := h_4
        refine J_iconst F (dcq dc_X4_setMode_0 17 rfl) ic_0 ?_
        refine J_callV F (wc := [oB 4 qm [.ref m0, .ref m1, .int (nI hc), .int (nI rf), .ref m2, .ref m3, .ref m4, .ref m5, .ref m6, .ref m7, .ref m8, .long sp, .ref m9, .ref m10, .ref m11, .long ha]]) (wr := [aI G m0 220 nw, aI G m1 880 pp]) (rest := []) (qc := 0) (c_X4_refused_0 l hl G qm m0 m1 m2 m3 m4 m5 m6 m7 m8 m9 m10 m11 hc rf sp ha) cd_X4_refused cv_X4_refused rfl rfl rfl tw_4_40 [0] [1, 2] rfl rfl rfl rfl (by decide) rfl ⟨(Nat.le_of_ble_eq_true rfl), (Nat.le_of_ble_eq_true rfl), (Nat.le_of_ble_eq_true rfl), (Nat.le_of_ble_eq_true rfl)⟩ (Nat.le_of_ble_eq_true rfl) rfl (dcq dc_X4_setMode_0 18 rfl) ?_
        rintro _ _ ⟨rfl, rfl⟩
        change J p l e (cRm 2 44 0 0) s m args below meth c G A 2 (JQ below G A (po_X4_setMode G qm m0 m1 m2 m3 m4 m5 m6 m7 m8 m9 m10 m11 hc rf sp ha nw P M R n v g d pp x) args s 0 0) 0 0 35 [(0, .ref qm), (1, .int x)] [.int (nI 0)] [aI G m0 220 nw, aI G m1 880 pp, oB 4 qm [.ref m0, .ref m1, .int (nI hc), .int (nI 0), .ref m2, .ref m3, .ref m4, .ref m5, .ref m6, .ref m7, .ref m8, .long sp, .ref m9, .ref m10, .ref m11, .long ha]]
        refine J_world (ws2 := [oB 4 qm [.ref m0, .ref m1, .int (nI hc), .int (nI 0), .ref m2, .ref m3, .ref m4, .ref m5, .ref m6, .ref m7, .ref m8, .long sp, .ref m9, .ref m10, .ref m11, .long ha], aI G m0 220 nw, aI G m1 880 pp]) [2, 0, 1] rfl rfl ?_
        refine J_if_eq F 42 (dcq dc_X4_setMode_0 19 rfl) (by decide) (fun _ => ?_) (fun h_5 => absurd h_5 (by decide))
        refine J_aload_n F 0 (dcq dc_X4_setMode_0 22 rfl) rfl rfl ?_
        refine J_iconst F (dcq dc_X4_setMode_0 23 rfl) ic_1 ?_
        refine J_iload_n F 1 (dcq dc_X4_setMode_0 24 rfl) rfl rfl ?_
        refine J_callV F (wc := [oB 4 qm [.ref m0, .ref m1, .int (nI hc), .int (nI 0), .ref m2, .ref m3, .ref m4, .ref m5, .ref m6, .ref m7, .ref m8, .long sp, .ref m9, .ref m10, .ref m11, .long ha], aI G m0 220 nw, aI G m1 880 pp]) (wr := []) (rest := []) (qc := 0) (c_X4_sets l hl G qm m0 m1 m2 m3 m4 m5 m6 m7 m8 m9 m10 m11 hc 0 sp ha nw pp 1 x (by first | assumption | omega) (by first | assumption | omega)) cd_X4_sets cv_X4_sets rfl rfl rfl tw_4_53 [0, 1, 2] [] rfl rfl rfl rfl (by decide) rfl ⟨(Nat.le_of_ble_eq_true rfl), (Nat.le_of_ble_eq_true rfl), (Nat.le_of_ble_eq_true rfl), (Nat.le_of_ble_eq_true rfl)⟩ (Nat.le_of_ble_eq_true rfl) rfl (dcq dc_X4_setMode_0 25 rfl) ?_
        rintro _ _ ⟨c2, pp2, rfl, rfl, hms⟩
        change J p l e (cRm 2 44 0 0) s m args below meth c G A 2 (JQ below G A (po_X4_setMode G qm m0 m1 m2 m3 m4 m5 m6 m7 m8 m9 m10 m11 hc rf sp ha nw P M R n v g d pp x) args s 0 0) 0 0 48 [(0, .ref qm), (1, .int x)] [.int (nw 1)] [oB 4 qm [.ref m0, .ref m1, .int (nI c2), .int (nI 0), .ref m2, .ref m3, .ref m4, .ref m5, .ref m6, .ref m7, .ref m8, .long sp, .ref m9, .ref m10, .ref m11, .long ha], aI G m0 220 (upd nw 1 x), aI G m1 880 pp2]
        have hms : MSV hc pp nw c2 pp2 := hms
        refine J_cast (lv2 := [(0, .ref qm), (1, .int x)]) (st2 := [.int (nI M)]) (ws2 := [oB 4 qm [.ref m0, .ref m1, .int (nI c2), .int (nI 0), .ref m2, .ref m3, .ref m4, .ref m5, .ref m6, .ref m7, .ref m8, .long sp, .ref m9, .ref m10, .ref m11, .long ha], aI G m0 220 (upd nw 1 x), aI G m1 880 pp2]) (rfl) (by rw [hRM.2.1]) (rfl) ?_
        exact J_iret F (Or.inl ⟨c2, pp2, rfl, rfl, by first | assumption | omega, (wi (by decide) (by decide)).mp hw_5, fun e9 => by first | exact absurd e9 hm1 | exact fun z => by have := hrl.mpr z; omega⟩) (Nat.le_of_ble_eq_true rfl) (Nat.le_of_ble_eq_true rfl) (dcq dc_X4_setMode_0 26 rfl)
      · skip
        have hrz := h_4
        refine J_iconst F (dcq dc_X4_setMode_0 15 rfl) ic_2 ?_
        refine J_goto F 32 (dcq dc_X4_setMode_0 16 rfl) (by decide) ?_
        refine J_callV F (wc := [oB 4 qm [.ref m0, .ref m1, .int (nI hc), .int (nI rf), .ref m2, .ref m3, .ref m4, .ref m5, .ref m6, .ref m7, .ref m8, .long sp, .ref m9, .ref m10, .ref m11, .long ha]]) (wr := [aI G m0 220 nw, aI G m1 880 pp]) (rest := []) (qc := 0) (c_X4_refused_2 l hl G qm m0 m1 m2 m3 m4 m5 m6 m7 m8 m9 m10 m11 hc rf sp ha) cd_X4_refused cv_X4_refused rfl rfl rfl tw_4_40 [0] [1, 2] rfl rfl rfl rfl (by decide) rfl ⟨(Nat.le_of_ble_eq_true rfl), (Nat.le_of_ble_eq_true rfl), (Nat.le_of_ble_eq_true rfl), (Nat.le_of_ble_eq_true rfl)⟩ (Nat.le_of_ble_eq_true rfl) rfl (dcq dc_X4_setMode_0 18 rfl) ?_
        rintro _ _ ⟨rfl, rfl⟩
        change J p l e (cRm 2 44 0 0) s m args below meth c G A 2 (JQ below G A (po_X4_setMode G qm m0 m1 m2 m3 m4 m5 m6 m7 m8 m9 m10 m11 hc rf sp ha nw P M R n v g d pp x) args s 0 0) 0 0 35 [(0, .ref qm), (1, .int x)] [.int (nI 1)] [aI G m0 220 nw, aI G m1 880 pp, oB 4 qm [.ref m0, .ref m1, .int (nI hc), .int (nI 2), .ref m2, .ref m3, .ref m4, .ref m5, .ref m6, .ref m7, .ref m8, .long sp, .ref m9, .ref m10, .ref m11, .long ha]]
        refine J_world (ws2 := [oB 4 qm [.ref m0, .ref m1, .int (nI hc), .int (nI 2), .ref m2, .ref m3, .ref m4, .ref m5, .ref m6, .ref m7, .ref m8, .long sp, .ref m9, .ref m10, .ref m11, .long ha], aI G m0 220 nw, aI G m1 880 pp]) [2, 0, 1] rfl rfl ?_
        refine J_if_eq F 42 (dcq dc_X4_setMode_0 19 rfl) (by decide) (fun h_6 => absurd h_6 (by decide)) (fun _ => ?_)
        refine J_iconst F (dcq dc_X4_setMode_0 20 rfl) ic_0 ?_
        refine J_goto F 48 (dcq dc_X4_setMode_0 21 rfl) (by decide) ?_
        exact J_iret F (Or.inr (Or.inr (⟨rfl, rfl, by first | assumption | omega, hrl.mp (by omega)⟩))) (Nat.le_of_ble_eq_true rfl) (Nat.le_of_ble_eq_true rfl) (dcq dc_X4_setMode_0 26 rfl)
  · skip
    have hw_5 : ¬ (0 ≤ x.toInt64 ∧ x.toInt64 ≤ 1) := hw_5
    change J p l e (cRm 2 44 0 0) s m args below meth c G A 2 (JQ below G A (po_X4_setMode G qm m0 m1 m2 m3 m4 m5 m6 m7 m8 m9 m10 m11 hc rf sp ha nw P M R n v g d pp x) args s 0 0) 0 0 8 [(0, .ref qm), (1, .int x)] [.int (nI 0), .ref qm] [oB 4 qm [.ref m0, .ref m1, .int (nI hc), .int (nI rf), .ref m2, .ref m3, .ref m4, .ref m5, .ref m6, .ref m7, .ref m8, .long sp, .ref m9, .ref m10, .ref m11, .long ha], aI G m0 220 nw, aI G m1 880 pp]
    refine J_if_ne F 15 (dcq dc_X4_setMode_0 6 rfl) (by decide) (fun h_7 => absurd h_7 (by decide)) (fun _ => ?_)
    refine J_iconst F (dcq dc_X4_setMode_0 7 rfl) ic_1 ?_
    refine J_goto F 32 (dcq dc_X4_setMode_0 8 rfl) (by decide) ?_
    refine J_callV F (wc := [oB 4 qm [.ref m0, .ref m1, .int (nI hc), .int (nI rf), .ref m2, .ref m3, .ref m4, .ref m5, .ref m6, .ref m7, .ref m8, .long sp, .ref m9, .ref m10, .ref m11, .long ha]]) (wr := [aI G m0 220 nw, aI G m1 880 pp]) (rest := []) (qc := 0) (c_X4_refused_1 l hl G qm m0 m1 m2 m3 m4 m5 m6 m7 m8 m9 m10 m11 hc rf sp ha) cd_X4_refused cv_X4_refused rfl rfl rfl tw_4_40 [0] [1, 2] rfl rfl rfl rfl (by decide) rfl ⟨(Nat.le_of_ble_eq_true rfl), (Nat.le_of_ble_eq_true rfl), (Nat.le_of_ble_eq_true rfl), (Nat.le_of_ble_eq_true rfl)⟩ (Nat.le_of_ble_eq_true rfl) rfl (dcq dc_X4_setMode_0 18 rfl) ?_
    rintro _ _ ⟨rfl, rfl⟩
    change J p l e (cRm 2 44 0 0) s m args below meth c G A 2 (JQ below G A (po_X4_setMode G qm m0 m1 m2 m3 m4 m5 m6 m7 m8 m9 m10 m11 hc rf sp ha nw P M R n v g d pp x) args s 0 0) 0 0 35 [(0, .ref qm), (1, .int x)] [.int (nI 1)] [aI G m0 220 nw, aI G m1 880 pp, oB 4 qm [.ref m0, .ref m1, .int (nI hc), .int (nI 1), .ref m2, .ref m3, .ref m4, .ref m5, .ref m6, .ref m7, .ref m8, .long sp, .ref m9, .ref m10, .ref m11, .long ha]]
    refine J_world (ws2 := [oB 4 qm [.ref m0, .ref m1, .int (nI hc), .int (nI 1), .ref m2, .ref m3, .ref m4, .ref m5, .ref m6, .ref m7, .ref m8, .long sp, .ref m9, .ref m10, .ref m11, .long ha], aI G m0 220 nw, aI G m1 880 pp]) [2, 0, 1] rfl rfl ?_
    refine J_if_eq F 42 (dcq dc_X4_setMode_0 19 rfl) (by decide) (fun h_8 => absurd h_8 (by decide)) (fun _ => ?_)
    refine J_iconst F (dcq dc_X4_setMode_0 20 rfl) ic_0 ?_
    refine J_goto F 48 (dcq dc_X4_setMode_0 21 rfl) (by decide) ?_
    exact J_iret F (Or.inr (Or.inl ⟨rfl, rfl, fun z => hw_5 ((wi (by decide) (by decide)).mpr z)⟩)) (Nat.le_of_ble_eq_true rfl) (Nat.le_of_ble_eq_true rfl) (dcq dc_X4_setMode_0 26 rfl)

abbrev po_X4_setRounds (G : Gt) (qm m0 m1 m2 m3 m4 m5 m6 m7 m8 m9 m10 m11 hc rf : Nat) (sp ha : Int64) (nw : Nat → Int32) (P M R n : Nat) (v g d : Nat → Int32) (pp : Nat → Int32) (x : Int32) : Option Value → va_W → Prop := fun (v9 : Option Value) (w9 : va_W) => (∃ (c2 : Nat), ∃ (pp2 : Nat → Int32), v9 = some (.int (nI R)) ∧ w9 = [oB 4 qm [.ref m0, .ref m1, .int (nI c2), .int (nI 0), .ref m2, .ref m3, .ref m4, .ref m5, .ref m6, .ref m7, .ref m8, .long sp, .ref m9, .ref m10, .ref m11, .long ha], aI G m0 220 (upd nw 2 x), aI G m1 880 pp2] ∧ (MSV hc pp nw c2 pp2) ∧ (nI 0 ≤ x ∧ x ≤ nI 5)) ∨ (v9 = some (.int (nI 0)) ∧ w9 = [oB 4 qm [.ref m0, .ref m1, .int (nI hc), .int (nI 1), .ref m2, .ref m3, .ref m4, .ref m5, .ref m6, .ref m7, .ref m8, .long sp, .ref m9, .ref m10, .ref m11, .long ha], aI G m0 220 nw, aI G m1 880 pp] ∧ (¬ (nI 0 ≤ x ∧ x ≤ nI 5)))
set_option maxHeartbeats 4000000 in
set_option maxRecDepth 100000 in
theorem c_X4_setRounds (l : Launch) (hl : l.stackTraces = false) (G : Gt) (qm m0 m1 m2 m3 m4 m5 m6 m7 m8 m9 m10 m11 hc rf : Nat) (sp ha : Int64) (nw : Nat → Int32) (P M R n : Nat) (v g d : Nat → Int32) (pp : Nat → Int32) (x : Int32) (hRM : RM nw P M R n v g d) (hhc : hc ≤ 4) : Con l G yX4_setRounds cX4_setRounds 2 (some .int) 2 44 0 0 [.ref qm, .int x] [oB 4 qm [.ref m0, .ref m1, .int (nI hc), .int (nI rf), .ref m2, .ref m3, .ref m4, .ref m5, .ref m6, .ref m7, .ref m8, .long sp, .ref m9, .ref m10, .ref m11, .long ha], aI G m0 220 nw, aI G m1 880 pp] (po_X4_setRounds G qm m0 m1 m2 m3 m4 m5 m6 m7 m8 m9 m10 m11 hc rf sp ha nw P M R n v g d pp x) := by
  refine Con.of hl cd_X4_setRounds (Nat.le_of_ble_eq_true rfl) ?_
  intro p e s m args below meth c A F hin9
  change Fx p l s m args meth c G A "SeasonalAdjusterModel" cX4_setRounds 2 (some .int) at F
  change J p l e (cRm 2 44 0 0) s m args below meth c G A 2 (JQ below G A (po_X4_setRounds G qm m0 m1 m2 m3 m4 m5 m6 m7 m8 m9 m10 m11 hc rf sp ha nw P M R n v g d pp x) args s 0 0) 0 0 0 [(0, .ref qm), (1, .int x)] [] [oB 4 qm [.ref m0, .ref m1, .int (nI hc), .int (nI rf), .ref m2, .ref m3, .ref m4, .ref m5, .ref m6, .ref m7, .ref m8, .long sp, .ref m9, .ref m10, .ref m11, .long ha], aI G m0 220 nw, aI G m1 880 pp]
  refine J_aload_n F 0 (dcq dc_X4_setRounds_0 0 rfl) rfl rfl ?_
  refine J_iload_n F 1 (dcq dc_X4_setRounds_0 1 rfl) rfl rfl ?_
  refine J_i2l F (v := x.toInt64) (dcq dc_X4_setRounds_0 2 rfl) rfl ?_
  refine J_lconst F (dcq dc_X4_setRounds_0 3 rfl) lc_0 ?_
  refine J_ldc2 F (v2 := (5)) tw_4_81 rfl (dcq dc_X4_setRounds_0 4 rfl) ?_
  refine J_callS F (wc := []) (wr := [oB 4 qm [.ref m0, .ref m1, .int (nI hc), .int (nI rf), .ref m2, .ref m3, .ref m4, .ref m5, .ref m6, .ref m7, .ref m8, .long sp, .ref m9, .ref m10, .ref m11, .long ha], aI G m0 220 nw, aI G m1 880 pp]) (rest := [.ref qm]) (c_X4_within l hl G x.toInt64 0 5) cd_X4_within tw_4_51 tw_4_50 [] [0, 1, 2] rfl rfl rfl rfl (by decide) rfl ⟨(Nat.le_of_ble_eq_true rfl), (Nat.le_of_ble_eq_true rfl), (Nat.le_of_ble_eq_true rfl), (Nat.le_of_ble_eq_true rfl)⟩ (Nat.le_of_ble_eq_true rfl) rfl (dcq dc_X4_setRounds_0 5 rfl) ?_
  rintro _ _ h9x
  rcases h9x with ⟨rfl, rfl, hw_7⟩ | ⟨rfl, rfl, hw_7⟩
  · skip
    have hw_7 : 0 ≤ x.toInt64 ∧ x.toInt64 ≤ 5 := hw_7
    change J p l e (cRm 2 44 0 0) s m args below meth c G A 2 (JQ below G A (po_X4_setRounds G qm m0 m1 m2 m3 m4 m5 m6 m7 m8 m9 m10 m11 hc rf sp ha nw P M R n v g d pp x) args s 0 0) 0 0 10 [(0, .ref qm), (1, .int x)] [.int (nI 1), .ref qm] [oB 4 qm [.ref m0, .ref m1, .int (nI hc), .int (nI rf), .ref m2, .ref m3, .ref m4, .ref m5, .ref m6, .ref m7, .ref m8, .long sp, .ref m9, .ref m10, .ref m11, .long ha], aI G m0 220 nw, aI G m1 880 pp]
    refine J_if_eq F 17 (dcq dc_X4_setRounds_0 6 rfl) (by decide) (fun h_1 => absurd h_1 (by decide)) (fun _ => ?_)
    refine J_iconst F (dcq dc_X4_setRounds_0 7 rfl) ic_0 ?_
    refine J_goto F 18 (dcq dc_X4_setRounds_0 8 rfl) (by decide) ?_
    refine J_callV F (wc := [oB 4 qm [.ref m0, .ref m1, .int (nI hc), .int (nI rf), .ref m2, .ref m3, .ref m4, .ref m5, .ref m6, .ref m7, .ref m8, .long sp, .ref m9, .ref m10, .ref m11, .long ha]]) (wr := [aI G m0 220 nw, aI G m1 880 pp]) (rest := []) (qc := 0) (c_X4_refused_0 l hl G qm m0 m1 m2 m3 m4 m5 m6 m7 m8 m9 m10 m11 hc rf sp ha) cd_X4_refused cv_X4_refused rfl rfl rfl tw_4_40 [0] [1, 2] rfl rfl rfl rfl (by decide) rfl ⟨(Nat.le_of_ble_eq_true rfl), (Nat.le_of_ble_eq_true rfl), (Nat.le_of_ble_eq_true rfl), (Nat.le_of_ble_eq_true rfl)⟩ (Nat.le_of_ble_eq_true rfl) rfl (dcq dc_X4_setRounds_0 10 rfl) ?_
    rintro _ _ ⟨rfl, rfl⟩
    change J p l e (cRm 2 44 0 0) s m args below meth c G A 2 (JQ below G A (po_X4_setRounds G qm m0 m1 m2 m3 m4 m5 m6 m7 m8 m9 m10 m11 hc rf sp ha nw P M R n v g d pp x) args s 0 0) 0 0 21 [(0, .ref qm), (1, .int x)] [.int (nI 0)] [aI G m0 220 nw, aI G m1 880 pp, oB 4 qm [.ref m0, .ref m1, .int (nI hc), .int (nI 0), .ref m2, .ref m3, .ref m4, .ref m5, .ref m6, .ref m7, .ref m8, .long sp, .ref m9, .ref m10, .ref m11, .long ha]]
    refine J_world (ws2 := [oB 4 qm [.ref m0, .ref m1, .int (nI hc), .int (nI 0), .ref m2, .ref m3, .ref m4, .ref m5, .ref m6, .ref m7, .ref m8, .long sp, .ref m9, .ref m10, .ref m11, .long ha], aI G m0 220 nw, aI G m1 880 pp]) [2, 0, 1] rfl rfl ?_
    refine J_if_eq F 28 (dcq dc_X4_setRounds_0 11 rfl) (by decide) (fun _ => ?_) (fun h_2 => absurd h_2 (by decide))
    refine J_aload_n F 0 (dcq dc_X4_setRounds_0 14 rfl) rfl rfl ?_
    refine J_iconst F (dcq dc_X4_setRounds_0 15 rfl) ic_2 ?_
    refine J_iload_n F 1 (dcq dc_X4_setRounds_0 16 rfl) rfl rfl ?_
    refine J_callV F (wc := [oB 4 qm [.ref m0, .ref m1, .int (nI hc), .int (nI 0), .ref m2, .ref m3, .ref m4, .ref m5, .ref m6, .ref m7, .ref m8, .long sp, .ref m9, .ref m10, .ref m11, .long ha], aI G m0 220 nw, aI G m1 880 pp]) (wr := []) (rest := []) (qc := 0) (c_X4_sets l hl G qm m0 m1 m2 m3 m4 m5 m6 m7 m8 m9 m10 m11 hc 0 sp ha nw pp 2 x (by first | assumption | omega) (by first | assumption | omega)) cd_X4_sets cv_X4_sets rfl rfl rfl tw_4_53 [0, 1, 2] [] rfl rfl rfl rfl (by decide) rfl ⟨(Nat.le_of_ble_eq_true rfl), (Nat.le_of_ble_eq_true rfl), (Nat.le_of_ble_eq_true rfl), (Nat.le_of_ble_eq_true rfl)⟩ (Nat.le_of_ble_eq_true rfl) rfl (dcq dc_X4_setRounds_0 17 rfl) ?_
    rintro _ _ ⟨c2, pp2, rfl, rfl, hms⟩
    change J p l e (cRm 2 44 0 0) s m args below meth c G A 2 (JQ below G A (po_X4_setRounds G qm m0 m1 m2 m3 m4 m5 m6 m7 m8 m9 m10 m11 hc rf sp ha nw P M R n v g d pp x) args s 0 0) 0 0 34 [(0, .ref qm), (1, .int x)] [.int (nw 2)] [oB 4 qm [.ref m0, .ref m1, .int (nI c2), .int (nI 0), .ref m2, .ref m3, .ref m4, .ref m5, .ref m6, .ref m7, .ref m8, .long sp, .ref m9, .ref m10, .ref m11, .long ha], aI G m0 220 (upd nw 2 x), aI G m1 880 pp2]
    have hms : MSV hc pp nw c2 pp2 := hms
    refine J_cast (lv2 := [(0, .ref qm), (1, .int x)]) (st2 := [.int (nI R)]) (ws2 := [oB 4 qm [.ref m0, .ref m1, .int (nI c2), .int (nI 0), .ref m2, .ref m3, .ref m4, .ref m5, .ref m6, .ref m7, .ref m8, .long sp, .ref m9, .ref m10, .ref m11, .long ha], aI G m0 220 (upd nw 2 x), aI G m1 880 pp2]) (rfl) (by rw [hRM.2.2.1]) (rfl) ?_
    exact J_iret F (Or.inl ⟨c2, pp2, rfl, rfl, by first | assumption | omega, (wi (by decide) (by decide)).mp hw_7⟩) (Nat.le_of_ble_eq_true rfl) (Nat.le_of_ble_eq_true rfl) (dcq dc_X4_setRounds_0 18 rfl)
  · skip
    have hw_7 : ¬ (0 ≤ x.toInt64 ∧ x.toInt64 ≤ 5) := hw_7
    change J p l e (cRm 2 44 0 0) s m args below meth c G A 2 (JQ below G A (po_X4_setRounds G qm m0 m1 m2 m3 m4 m5 m6 m7 m8 m9 m10 m11 hc rf sp ha nw P M R n v g d pp x) args s 0 0) 0 0 10 [(0, .ref qm), (1, .int x)] [.int (nI 0), .ref qm] [oB 4 qm [.ref m0, .ref m1, .int (nI hc), .int (nI rf), .ref m2, .ref m3, .ref m4, .ref m5, .ref m6, .ref m7, .ref m8, .long sp, .ref m9, .ref m10, .ref m11, .long ha], aI G m0 220 nw, aI G m1 880 pp]
    refine J_if_eq F 17 (dcq dc_X4_setRounds_0 6 rfl) (by decide) (fun _ => ?_) (fun h_3 => absurd h_3 (by decide))
    refine J_iconst F (dcq dc_X4_setRounds_0 9 rfl) ic_1 ?_
    refine J_callV F (wc := [oB 4 qm [.ref m0, .ref m1, .int (nI hc), .int (nI rf), .ref m2, .ref m3, .ref m4, .ref m5, .ref m6, .ref m7, .ref m8, .long sp, .ref m9, .ref m10, .ref m11, .long ha]]) (wr := [aI G m0 220 nw, aI G m1 880 pp]) (rest := []) (qc := 0) (c_X4_refused_1 l hl G qm m0 m1 m2 m3 m4 m5 m6 m7 m8 m9 m10 m11 hc rf sp ha) cd_X4_refused cv_X4_refused rfl rfl rfl tw_4_40 [0] [1, 2] rfl rfl rfl rfl (by decide) rfl ⟨(Nat.le_of_ble_eq_true rfl), (Nat.le_of_ble_eq_true rfl), (Nat.le_of_ble_eq_true rfl), (Nat.le_of_ble_eq_true rfl)⟩ (Nat.le_of_ble_eq_true rfl) rfl (dcq dc_X4_setRounds_0 10 rfl) ?_
    rintro _ _ ⟨rfl, rfl⟩
    change J p l e (cRm 2 44 0 0) s m args below meth c G A 2 (JQ below G A (po_X4_setRounds G qm m0 m1 m2 m3 m4 m5 m6 m7 m8 m9 m10 m11 hc rf sp ha nw P M R n v g d pp x) args s 0 0) 0 0 21 [(0, .ref qm), (1, .int x)] [.int (nI 1)] [aI G m0 220 nw, aI G m1 880 pp, oB 4 qm [.ref m0, .ref m1, .int (nI hc), .int (nI 1), .ref m2, .ref m3, .ref m4, .ref m5, .ref m6, .ref m7, .ref m8, .long sp, .ref m9, .ref m10, .ref m11, .long ha]]
    refine J_world (ws2 := [oB 4 qm [.ref m0, .ref m1, .int (nI hc), .int (nI 1), .ref m2, .ref m3, .ref m4, .ref m5, .ref m6, .ref m7, .ref m8, .long sp, .ref m9, .ref m10, .ref m11, .long ha], aI G m0 220 nw, aI G m1 880 pp]) [2, 0, 1] rfl rfl ?_
    refine J_if_eq F 28 (dcq dc_X4_setRounds_0 11 rfl) (by decide) (fun h_4 => absurd h_4 (by decide)) (fun _ => ?_)
    refine J_iconst F (dcq dc_X4_setRounds_0 12 rfl) ic_0 ?_
    refine J_goto F 34 (dcq dc_X4_setRounds_0 13 rfl) (by decide) ?_
    exact J_iret F (Or.inr (⟨rfl, rfl, fun z => hw_7 ((wi (by decide) (by decide)).mpr z)⟩)) (Nat.le_of_ble_eq_true rfl) (Nat.le_of_ble_eq_true rfl) (dcq dc_X4_setRounds_0 18 rfl)

abbrev po_X4_adds (G : Gt) (qm m0 m1 m2 m3 m4 m5 m6 m7 m8 m9 m10 m11 hc rf : Nat) (sp ha : Int64) (nw : Nat → Int32) (P M R n : Nat) (v g d : Nat → Int32) (pp : Nat → Int32) (x y : Int32) : Option Value → va_W → Prop := fun (v9 : Option Value) (w9 : va_W) => ∃ (c2 : Nat), ∃ (pp2 : Nat → Int32), v9 = some (.int (nI n)) ∧ w9 = [oB 4 qm [.ref m0, .ref m1, .int (nI c2), .int (nI rf), .ref m2, .ref m3, .ref m4, .ref m5, .ref m6, .ref m7, .ref m8, .long sp, .ref m9, .ref m10, .ref m11, .long ha], aI G m0 220 (upd (upd (upd (upd nw (4 + 3 * n) x) (4 + 3 * n + 1) y) (4 + 3 * n + 2) (nI 20)) 3 (nI (n + 1))), aI G m1 880 pp2] ∧ (MSV hc pp nw c2 pp2)
set_option maxHeartbeats 4000000 in
set_option maxRecDepth 100000 in
theorem c_X4_adds (l : Launch) (hl : l.stackTraces = false) (G : Gt) (qm m0 m1 m2 m3 m4 m5 m6 m7 m8 m9 m10 m11 hc rf : Nat) (sp ha : Int64) (nw : Nat → Int32) (P M R n : Nat) (v g d : Nat → Int32) (pp : Nat → Int32) (x y : Int32) (hRM : RM nw P M R n v g d) (hhc : hc ≤ 4) (hn2 : n < 72) : Con l G yX4_adds cX4_adds 4 (some .int) 1 21 0 0 [.ref qm, .int x, .int y] [oB 4 qm [.ref m0, .ref m1, .int (nI hc), .int (nI rf), .ref m2, .ref m3, .ref m4, .ref m5, .ref m6, .ref m7, .ref m8, .long sp, .ref m9, .ref m10, .ref m11, .long ha], aI G m0 220 nw, aI G m1 880 pp] (po_X4_adds G qm m0 m1 m2 m3 m4 m5 m6 m7 m8 m9 m10 m11 hc rf sp ha nw P M R n v g d pp x y) := by
  refine Con.of hl cd_X4_adds (Nat.le_of_ble_eq_true rfl) ?_
  intro p e s m args below meth c A F hin9
  change Fx p l s m args meth c G A "SeasonalAdjusterModel" cX4_adds 4 (some .int) at F
  change J p l e (cRm 1 21 0 0) s m args below meth c G A 4 (JQ below G A (po_X4_adds G qm m0 m1 m2 m3 m4 m5 m6 m7 m8 m9 m10 m11 hc rf sp ha nw P M R n v g d pp x y) args s 0 0) 0 0 0 [(0, .ref qm), (1, .int x), (2, .int y)] [] [oB 4 qm [.ref m0, .ref m1, .int (nI hc), .int (nI rf), .ref m2, .ref m3, .ref m4, .ref m5, .ref m6, .ref m7, .ref m8, .long sp, .ref m9, .ref m10, .ref m11, .long ha], aI G m0 220 nw, aI G m1 880 pp]
  refine J_aload_n F 0 (dcq dc_X4_adds_0 0 rfl) rfl rfl ?_
  refine J_callV F (wc := [oB 4 qm [.ref m0, .ref m1, .int (nI hc), .int (nI rf), .ref m2, .ref m3, .ref m4, .ref m5, .ref m6, .ref m7, .ref m8, .long sp, .ref m9, .ref m10, .ref m11, .long ha], aI G m0 220 nw, aI G m1 880 pp]) (wr := []) (rest := []) (qc := 0) (c_X4_saves l hl G qm m0 m1 m2 m3 m4 m5 m6 m7 m8 m9 m10 m11 hc rf sp ha nw pp (by first | assumption | omega)) cd_X4_saves cv_X4_saves rfl rfl rfl tw_4_57 [0, 1, 2] [] rfl rfl rfl rfl (by decide) rfl ⟨(Nat.le_of_ble_eq_true rfl), (Nat.le_of_ble_eq_true rfl), (Nat.le_of_ble_eq_true rfl), (Nat.le_of_ble_eq_true rfl)⟩ (Nat.le_of_ble_eq_true rfl) rfl (dcq dc_X4_adds_0 1 rfl) ?_
  rintro _ _ ⟨c2, pp2, rfl, rfl, hms⟩
  change J p l e (cRm 1 21 0 0) s m args below meth c G A 4 (JQ below G A (po_X4_adds G qm m0 m1 m2 m3 m4 m5 m6 m7 m8 m9 m10 m11 hc rf sp ha nw P M R n v g d pp x y) args s 0 0) 0 0 4 [(0, .ref qm), (1, .int x), (2, .int y)] [] [oB 4 qm [.ref m0, .ref m1, .int (nI c2), .int (nI rf), .ref m2, .ref m3, .ref m4, .ref m5, .ref m6, .ref m7, .ref m8, .long sp, .ref m9, .ref m10, .ref m11, .long ha], aI G m0 220 nw, aI G m1 880 pp2]
  have hms : MSV hc pp nw c2 pp2 := hms
  refine J_iconst F (dcq dc_X4_adds_0 2 rfl) ic_4 ?_
  refine J_iconst F (dcq dc_X4_adds_0 3 rfl) ic_3 ?_
  refine J_aload_n F 0 (dcq dc_X4_adds_0 4 rfl) rfl rfl ?_
  refine J_get F fcX4 0 0 rfl (Nat.le_of_ble_eq_true rfl) tw_3_223 rfl rfl (dcq dc_X4_adds_0 5 rfl) ?_
  refine J_iconst F (dcq dc_X4_adds_0 6 rfl) ic_3 ?_
  refine J_iald F 1 rfl (by omega) (Nat.le_of_ble_eq_true rfl) (dcq dc_X4_adds_0 7 rfl) ?_
  refine J_cast rfl (st2 := [.int (nI n), .int (nI 3), .int (nI 4)]) (by rw [hRM.2.2.2.1]) rfl ?_
  refine J_imul F (v := nI (3 * n)) (dcq dc_X4_adds_0 8 rfl) (pk_mul _ _) ?_
  refine J_iadd F (v := nI (4 + 3 * n)) (dcq dc_X4_adds_0 9 rfl) (nI_add _ _) ?_
  refine J_istore_n F (lv2 := [(3, .int (nI (4 + 3 * n))), (0, .ref qm), (1, .int x), (2, .int y)]) (dcq dc_X4_adds_0 10 rfl) rfl (Nat.le_of_ble_eq_true rfl) rfl ?_
  refine J_aload_n F 1 (dcq dc_X4_adds_0 11 rfl) rfl rfl ?_
  refine J_get F fcX4 0 0 rfl (Nat.le_of_ble_eq_true rfl) tw_3_223 rfl rfl (dcq dc_X4_adds_0 12 rfl) ?_
  refine J_iload_n F 0 (dcq dc_X4_adds_0 13 rfl) rfl rfl ?_
  refine J_iload_n F 2 (dcq dc_X4_adds_0 14 rfl) rfl rfl ?_
  refine J_iast F (ws2 := [oB 4 qm [.ref m0, .ref m1, .int (nI c2), .int (nI rf), .ref m2, .ref m3, .ref m4, .ref m5, .ref m6, .ref m7, .ref m8, .long sp, .ref m9, .ref m10, .ref m11, .long ha], aI G m0 220 (upd nw (4 + 3 * n) x), aI G m1 880 pp2]) 1 rfl (by omega) (Nat.le_of_ble_eq_true rfl) rfl (dcq dc_X4_adds_0 15 rfl) ?_
  refine J_aload_n F 1 (dcq dc_X4_adds_0 16 rfl) rfl rfl ?_
  refine J_get F fcX4 0 0 rfl (Nat.le_of_ble_eq_true rfl) tw_3_223 rfl rfl (dcq dc_X4_adds_0 17 rfl) ?_
  refine J_iload_n F 0 (dcq dc_X4_adds_0 18 rfl) rfl rfl ?_
  refine J_iconst F (dcq dc_X4_adds_0 19 rfl) ic_1 ?_
  refine J_iadd F (v := nI (4 + 3 * n + 1)) (dcq dc_X4_adds_0 20 rfl) (nI_add _ _) ?_
  refine J_iload_n F 3 (dcq dc_X4_adds_0 21 rfl) rfl rfl ?_
  refine J_iast F (ws2 := [oB 4 qm [.ref m0, .ref m1, .int (nI c2), .int (nI rf), .ref m2, .ref m3, .ref m4, .ref m5, .ref m6, .ref m7, .ref m8, .long sp, .ref m9, .ref m10, .ref m11, .long ha], aI G m0 220 (upd (upd nw (4 + 3 * n) x) (4 + 3 * n + 1) y), aI G m1 880 pp2]) 1 rfl (by omega) (Nat.le_of_ble_eq_true rfl) rfl (dcq dc_X4_adds_0 22 rfl) ?_
  refine J_aload_n F 1 (dcq dc_X4_adds_0 23 rfl) rfl rfl ?_
  refine J_get F fcX4 0 0 rfl (Nat.le_of_ble_eq_true rfl) tw_3_223 rfl rfl (dcq dc_X4_adds_0 24 rfl) ?_
  refine J_iload_n F 0 (dcq dc_X4_adds_0 25 rfl) rfl rfl ?_
  refine J_iconst F (dcq dc_X4_adds_0 26 rfl) ic_2 ?_
  refine J_iadd F (v := nI (4 + 3 * n + 2)) (dcq dc_X4_adds_0 27 rfl) (nI_add _ _) ?_
  refine J_bipush F (dcq dc_X4_adds_0 28 rfl) bc_20 ?_
  refine J_iast F (ws2 := [oB 4 qm [.ref m0, .ref m1, .int (nI c2), .int (nI rf), .ref m2, .ref m3, .ref m4, .ref m5, .ref m6, .ref m7, .ref m8, .long sp, .ref m9, .ref m10, .ref m11, .long ha], aI G m0 220 (upd (upd (upd nw (4 + 3 * n) x) (4 + 3 * n + 1) y) (4 + 3 * n + 2) (nI 20)), aI G m1 880 pp2]) 1 rfl (by omega) (Nat.le_of_ble_eq_true rfl) rfl (dcq dc_X4_adds_0 29 rfl) ?_
  refine J_aload_n F 1 (dcq dc_X4_adds_0 30 rfl) rfl rfl ?_
  refine J_get F fcX4 0 0 rfl (Nat.le_of_ble_eq_true rfl) tw_3_223 rfl rfl (dcq dc_X4_adds_0 31 rfl) ?_
  refine J_iconst F (dcq dc_X4_adds_0 32 rfl) ic_3 ?_
  refine J_dup2 F (dcq dc_X4_adds_0 33 rfl) rfl rfl ?_
  refine J_iald F 1 rfl (by omega) (Nat.le_of_ble_eq_true rfl) (dcq dc_X4_adds_0 34 rfl) ?_
  refine J_cast rfl (st2 := [.int (nI n), .int (nI 3), .ref m0]) (by rw [pk_un (by omega), pk_un (by omega), pk_un (by omega), hRM.2.2.2.1]) rfl ?_
  refine J_iconst F (dcq dc_X4_adds_0 35 rfl) ic_1 ?_
  refine J_iadd F (v := nI (n + 1)) (dcq dc_X4_adds_0 36 rfl) (nI_add _ _) ?_
  refine J_iast F (ws2 := [oB 4 qm [.ref m0, .ref m1, .int (nI c2), .int (nI rf), .ref m2, .ref m3, .ref m4, .ref m5, .ref m6, .ref m7, .ref m8, .long sp, .ref m9, .ref m10, .ref m11, .long ha], aI G m0 220 (upd (upd (upd (upd nw (4 + 3 * n) x) (4 + 3 * n + 1) y) (4 + 3 * n + 2) (nI 20)) 3 (nI (n + 1))), aI G m1 880 pp2]) 1 rfl (by omega) (Nat.le_of_ble_eq_true rfl) rfl (dcq dc_X4_adds_0 37 rfl) ?_
  refine J_aload_n F 1 (dcq dc_X4_adds_0 38 rfl) rfl rfl ?_
  refine J_get F fcX4 0 0 rfl (Nat.le_of_ble_eq_true rfl) tw_3_223 rfl rfl (dcq dc_X4_adds_0 39 rfl) ?_
  refine J_iconst F (dcq dc_X4_adds_0 40 rfl) ic_3 ?_
  refine J_iald F 1 rfl (by omega) (Nat.le_of_ble_eq_true rfl) (dcq dc_X4_adds_0 41 rfl) ?_
  refine J_cast rfl (st2 := [.int (nI (n + 1))]) (by rw [pk_us]) rfl ?_
  refine J_iconst F (dcq dc_X4_adds_0 42 rfl) ic_1 ?_
  refine J_isub F (v := nI n) (dcq dc_X4_adds_0 43 rfl) (pk_sub (by omega)) ?_
  exact J_iret F ⟨c2, pp2, rfl, rfl, by omega⟩ (Nat.le_of_ble_eq_true rfl) (Nat.le_of_ble_eq_true rfl) (dcq dc_X4_adds_0 44 rfl)

abbrev po_X4_append (G : Gt) (qm m0 m1 m2 m3 m4 m5 m6 m7 m8 m9 m10 m11 hc rf : Nat) (sp ha : Int64) (nw : Nat → Int32) (P M R n : Nat) (v g d : Nat → Int32) (pp : Nat → Int32) (x : Int32) : Option Value → va_W → Prop := fun (v9 : Option Value) (w9 : va_W) => (∃ (c2 : Nat), ∃ (pp2 : Nat → Int32), v9 = some (.int (nI n)) ∧ w9 = [oB 4 qm [.ref m0, .ref m1, .int (nI c2), .int (nI 0), .ref m2, .ref m3, .ref m4, .ref m5, .ref m6, .ref m7, .ref m8, .long sp, .ref m9, .ref m10, .ref m11, .long ha], aI G m0 220 (upd (upd (upd (upd nw (4 + 3 * n) (nI 0)) (4 + 3 * n + 1) x) (4 + 3 * n + 2) (nI 20)) 3 (nI (n + 1))), aI G m1 880 pp2] ∧ (MSV hc pp nw c2 pp2) ∧ ((if M = 1 then nI 1 else -1000000) ≤ x ∧ x ≤ nI 1000000) ∧ (n < 72)) ∨ (v9 = some (.int (nI 0)) ∧ w9 = [oB 4 qm [.ref m0, .ref m1, .int (nI hc), .int (nI 1), .ref m2, .ref m3, .ref m4, .ref m5, .ref m6, .ref m7, .ref m8, .long sp, .ref m9, .ref m10, .ref m11, .long ha], aI G m0 220 nw, aI G m1 880 pp] ∧ (¬ ((if M = 1 then nI 1 else -1000000) ≤ x ∧ x ≤ nI 1000000))) ∨ (v9 = some (.int (nI 0)) ∧ w9 = [oB 4 qm [.ref m0, .ref m1, .int (nI hc), .int (nI 2), .ref m2, .ref m3, .ref m4, .ref m5, .ref m6, .ref m7, .ref m8, .long sp, .ref m9, .ref m10, .ref m11, .long ha], aI G m0 220 nw, aI G m1 880 pp] ∧ ((if M = 1 then nI 1 else -1000000) ≤ x ∧ x ≤ nI 1000000) ∧ (72 ≤ n))
set_option maxHeartbeats 4000000 in
set_option maxRecDepth 100000 in
theorem c_X4_append (l : Launch) (hl : l.stackTraces = false) (G : Gt) (qm m0 m1 m2 m3 m4 m5 m6 m7 m8 m9 m10 m11 hc rf : Nat) (sp ha : Int64) (nw : Nat → Int32) (P M R n : Nat) (v g d : Nat → Int32) (pp : Nat → Int32) (x : Int32) (hRM : RM nw P M R n v g d) (hhc : hc ≤ 4) (hM : M ≤ 1) (hn : n ≤ 72) : Con l G yX4_append cX4_append 2 (some .int) 2 46 0 0 [.ref qm, .int x] [oB 4 qm [.ref m0, .ref m1, .int (nI hc), .int (nI rf), .ref m2, .ref m3, .ref m4, .ref m5, .ref m6, .ref m7, .ref m8, .long sp, .ref m9, .ref m10, .ref m11, .long ha], aI G m0 220 nw, aI G m1 880 pp] (po_X4_append G qm m0 m1 m2 m3 m4 m5 m6 m7 m8 m9 m10 m11 hc rf sp ha nw P M R n v g d pp x) := by
  refine Con.of hl cd_X4_append (Nat.le_of_ble_eq_true rfl) ?_
  intro p e s m args below meth c A F hin9
  change Fx p l s m args meth c G A "SeasonalAdjusterModel" cX4_append 2 (some .int) at F
  change J p l e (cRm 2 46 0 0) s m args below meth c G A 2 (JQ below G A (po_X4_append G qm m0 m1 m2 m3 m4 m5 m6 m7 m8 m9 m10 m11 hc rf sp ha nw P M R n v g d pp x) args s 0 0) 0 0 0 [(0, .ref qm), (1, .int x)] [] [oB 4 qm [.ref m0, .ref m1, .int (nI hc), .int (nI rf), .ref m2, .ref m3, .ref m4, .ref m5, .ref m6, .ref m7, .ref m8, .long sp, .ref m9, .ref m10, .ref m11, .long ha], aI G m0 220 nw, aI G m1 880 pp]
  refine J_aload_n F 0 (dcq dc_X4_append_0 0 rfl) rfl rfl ?_
  refine J_aload_n F 0 (dcq dc_X4_append_0 1 rfl) rfl rfl ?_
  refine J_iload_n F 1 (dcq dc_X4_append_0 2 rfl) rfl rfl ?_
  refine J_callV F (wc := [oB 4 qm [.ref m0, .ref m1, .int (nI hc), .int (nI rf), .ref m2, .ref m3, .ref m4, .ref m5, .ref m6, .ref m7, .ref m8, .long sp, .ref m9, .ref m10, .ref m11, .long ha], aI G m0 220 nw]) (wr := [aI G m1 880 pp]) (rest := [.ref qm]) (qc := 0) (c_X4_isValue l hl G qm m0 m1 m2 m3 m4 m5 m6 m7 m8 m9 m10 m11 hc rf sp ha nw P M R n v g d x (by first | assumption | omega) (by first | assumption | omega)) cd_X4_isValue cv_X4_isValue rfl rfl rfl tw_4_86 [0, 1] [2] rfl rfl rfl rfl (by decide) rfl ⟨(Nat.le_of_ble_eq_true rfl), (Nat.le_of_ble_eq_true rfl), (Nat.le_of_ble_eq_true rfl), (Nat.le_of_ble_eq_true rfl)⟩ (Nat.le_of_ble_eq_true rfl) rfl (dcq dc_X4_append_0 3 rfl) ?_
  rintro _ _ h9x
  rcases h9x with ⟨rfl, rfl, hv_3⟩ | ⟨rfl, rfl, hv_3⟩
  · skip
    have hv_3 : (if M = 1 then nI 1 else -1000000) ≤ x ∧ x ≤ nI 1000000 := hv_3
    change J p l e (cRm 2 46 0 0) s m args below meth c G A 2 (JQ below G A (po_X4_append G qm m0 m1 m2 m3 m4 m5 m6 m7 m8 m9 m10 m11 hc rf sp ha nw P M R n v g d pp x) args s 0 0) 0 0 6 [(0, .ref qm), (1, .int x)] [.int (nI 1), .ref qm] [aI G m1 880 pp, oB 4 qm [.ref m0, .ref m1, .int (nI hc), .int (nI rf), .ref m2, .ref m3, .ref m4, .ref m5, .ref m6, .ref m7, .ref m8, .long sp, .ref m9, .ref m10, .ref m11, .long ha], aI G m0 220 nw]
    refine J_world (ws2 := [oB 4 qm [.ref m0, .ref m1, .int (nI hc), .int (nI rf), .ref m2, .ref m3, .ref m4, .ref m5, .ref m6, .ref m7, .ref m8, .long sp, .ref m9, .ref m10, .ref m11, .long ha], aI G m0 220 nw, aI G m1 880 pp]) [1, 2, 0] rfl rfl ?_
    refine J_if_ne F 13 (dcq dc_X4_append_0 4 rfl) (by decide) (fun _ => ?_) (fun h_1 => absurd h_1 (by decide))
    refine J_aload_n F 0 (dcq dc_X4_append_0 7 rfl) rfl rfl ?_
    refine J_get F fcX4 0 0 rfl (Nat.le_of_ble_eq_true rfl) tw_3_223 rfl rfl (dcq dc_X4_append_0 8 rfl) ?_
    refine J_iconst F (dcq dc_X4_append_0 9 rfl) ic_3 ?_
    refine J_iald F 1 rfl (by omega) (Nat.le_of_ble_eq_true rfl) (dcq dc_X4_append_0 10 rfl) ?_
    refine J_cast rfl (st2 := [.int (nI n), .ref qm]) (by rw [hRM.2.2.2.1]) rfl ?_
    refine J_bipush F (dcq dc_X4_append_0 11 rfl) bc_72 ?_
    refine J_ncmp_ne F 28 (by omega) (by omega) (dcq dc_X4_append_0 12 rfl) (by decide) (fun h_2 => ?_) (fun h_2 => ?_)
    · skip
      refine J_iconst F (dcq dc_X4_append_0 15 rfl) ic_0 ?_
      refine J_callV F (wc := [oB 4 qm [.ref m0, .ref m1, .int (nI hc), .int (nI rf), .ref m2, .ref m3, .ref m4, .ref m5, .ref m6, .ref m7, .ref m8, .long sp, .ref m9, .ref m10, .ref m11, .long ha]]) (wr := [aI G m0 220 nw, aI G m1 880 pp]) (rest := []) (qc := 0) (c_X4_refused_0 l hl G qm m0 m1 m2 m3 m4 m5 m6 m7 m8 m9 m10 m11 hc rf sp ha) cd_X4_refused cv_X4_refused rfl rfl rfl tw_4_40 [0] [1, 2] rfl rfl rfl rfl (by decide) rfl ⟨(Nat.le_of_ble_eq_true rfl), (Nat.le_of_ble_eq_true rfl), (Nat.le_of_ble_eq_true rfl), (Nat.le_of_ble_eq_true rfl)⟩ (Nat.le_of_ble_eq_true rfl) rfl (dcq dc_X4_append_0 16 rfl) ?_
      rintro _ _ ⟨rfl, rfl⟩
      change J p l e (cRm 2 46 0 0) s m args below meth c G A 2 (JQ below G A (po_X4_append G qm m0 m1 m2 m3 m4 m5 m6 m7 m8 m9 m10 m11 hc rf sp ha nw P M R n v g d pp x) args s 0 0) 0 0 32 [(0, .ref qm), (1, .int x)] [.int (nI 0)] [aI G m0 220 nw, aI G m1 880 pp, oB 4 qm [.ref m0, .ref m1, .int (nI hc), .int (nI 0), .ref m2, .ref m3, .ref m4, .ref m5, .ref m6, .ref m7, .ref m8, .long sp, .ref m9, .ref m10, .ref m11, .long ha]]
      refine J_world (ws2 := [oB 4 qm [.ref m0, .ref m1, .int (nI hc), .int (nI 0), .ref m2, .ref m3, .ref m4, .ref m5, .ref m6, .ref m7, .ref m8, .long sp, .ref m9, .ref m10, .ref m11, .long ha], aI G m0 220 nw, aI G m1 880 pp]) [2, 0, 1] rfl rfl ?_
      refine J_if_eq F 39 (dcq dc_X4_append_0 17 rfl) (by decide) (fun _ => ?_) (fun h_3 => absurd h_3 (by decide))
      refine J_aload_n F 0 (dcq dc_X4_append_0 20 rfl) rfl rfl ?_
      refine J_iconst F (dcq dc_X4_append_0 21 rfl) ic_0 ?_
      refine J_iload_n F 1 (dcq dc_X4_append_0 22 rfl) rfl rfl ?_
      refine J_callV F (wc := [oB 4 qm [.ref m0, .ref m1, .int (nI hc), .int (nI 0), .ref m2, .ref m3, .ref m4, .ref m5, .ref m6, .ref m7, .ref m8, .long sp, .ref m9, .ref m10, .ref m11, .long ha], aI G m0 220 nw, aI G m1 880 pp]) (wr := []) (rest := []) (qc := 0) (c_X4_adds l hl G qm m0 m1 m2 m3 m4 m5 m6 m7 m8 m9 m10 m11 hc 0 sp ha nw P M R n v g d pp (nI 0) x (by first | assumption | omega) (by first | assumption | omega) (by first | assumption | omega)) cd_X4_adds cv_X4_adds rfl rfl rfl tw_4_92 [0, 1, 2] [] rfl rfl rfl rfl (by decide) rfl ⟨(Nat.le_of_ble_eq_true rfl), (Nat.le_of_ble_eq_true rfl), (Nat.le_of_ble_eq_true rfl), (Nat.le_of_ble_eq_true rfl)⟩ (Nat.le_of_ble_eq_true rfl) rfl (dcq dc_X4_append_0 23 rfl) ?_
      rintro _ _ ⟨c2, pp2, rfl, rfl, hms⟩
      change J p l e (cRm 2 46 0 0) s m args below meth c G A 2 (JQ below G A (po_X4_append G qm m0 m1 m2 m3 m4 m5 m6 m7 m8 m9 m10 m11 hc rf sp ha nw P M R n v g d pp x) args s 0 0) 0 0 45 [(0, .ref qm), (1, .int x)] [.int (nI n)] [oB 4 qm [.ref m0, .ref m1, .int (nI c2), .int (nI 0), .ref m2, .ref m3, .ref m4, .ref m5, .ref m6, .ref m7, .ref m8, .long sp, .ref m9, .ref m10, .ref m11, .long ha], aI G m0 220 (upd (upd (upd (upd nw (4 + 3 * n) (nI 0)) (4 + 3 * n + 1) x) (4 + 3 * n + 2) (nI 20)) 3 (nI (n + 1))), aI G m1 880 pp2]
      have hms : MSV hc pp nw c2 pp2 := hms
      exact J_iret F (Or.inl ⟨c2, pp2, rfl, rfl, by first | assumption | omega, hv_3, by first | assumption | omega⟩) (Nat.le_of_ble_eq_true rfl) (Nat.le_of_ble_eq_true rfl) (dcq dc_X4_append_0 24 rfl)
    · skip
      refine J_iconst F (dcq dc_X4_append_0 13 rfl) ic_2 ?_
      refine J_goto F 29 (dcq dc_X4_append_0 14 rfl) (by decide) ?_
      refine J_callV F (wc := [oB 4 qm [.ref m0, .ref m1, .int (nI hc), .int (nI rf), .ref m2, .ref m3, .ref m4, .ref m5, .ref m6, .ref m7, .ref m8, .long sp, .ref m9, .ref m10, .ref m11, .long ha]]) (wr := [aI G m0 220 nw, aI G m1 880 pp]) (rest := []) (qc := 0) (c_X4_refused_2 l hl G qm m0 m1 m2 m3 m4 m5 m6 m7 m8 m9 m10 m11 hc rf sp ha) cd_X4_refused cv_X4_refused rfl rfl rfl tw_4_40 [0] [1, 2] rfl rfl rfl rfl (by decide) rfl ⟨(Nat.le_of_ble_eq_true rfl), (Nat.le_of_ble_eq_true rfl), (Nat.le_of_ble_eq_true rfl), (Nat.le_of_ble_eq_true rfl)⟩ (Nat.le_of_ble_eq_true rfl) rfl (dcq dc_X4_append_0 16 rfl) ?_
      rintro _ _ ⟨rfl, rfl⟩
      change J p l e (cRm 2 46 0 0) s m args below meth c G A 2 (JQ below G A (po_X4_append G qm m0 m1 m2 m3 m4 m5 m6 m7 m8 m9 m10 m11 hc rf sp ha nw P M R n v g d pp x) args s 0 0) 0 0 32 [(0, .ref qm), (1, .int x)] [.int (nI 1)] [aI G m0 220 nw, aI G m1 880 pp, oB 4 qm [.ref m0, .ref m1, .int (nI hc), .int (nI 2), .ref m2, .ref m3, .ref m4, .ref m5, .ref m6, .ref m7, .ref m8, .long sp, .ref m9, .ref m10, .ref m11, .long ha]]
      refine J_world (ws2 := [oB 4 qm [.ref m0, .ref m1, .int (nI hc), .int (nI 2), .ref m2, .ref m3, .ref m4, .ref m5, .ref m6, .ref m7, .ref m8, .long sp, .ref m9, .ref m10, .ref m11, .long ha], aI G m0 220 nw, aI G m1 880 pp]) [2, 0, 1] rfl rfl ?_
      refine J_if_eq F 39 (dcq dc_X4_append_0 17 rfl) (by decide) (fun h_4 => absurd h_4 (by decide)) (fun _ => ?_)
      refine J_iconst F (dcq dc_X4_append_0 18 rfl) ic_0 ?_
      refine J_goto F 45 (dcq dc_X4_append_0 19 rfl) (by decide) ?_
      exact J_iret F (Or.inr (Or.inr (⟨rfl, rfl, hv_3, by first | assumption | omega⟩))) (Nat.le_of_ble_eq_true rfl) (Nat.le_of_ble_eq_true rfl) (dcq dc_X4_append_0 24 rfl)
  · skip
    have hv_3 : ¬ ((if M = 1 then nI 1 else -1000000) ≤ x ∧ x ≤ nI 1000000) := hv_3
    change J p l e (cRm 2 46 0 0) s m args below meth c G A 2 (JQ below G A (po_X4_append G qm m0 m1 m2 m3 m4 m5 m6 m7 m8 m9 m10 m11 hc rf sp ha nw P M R n v g d pp x) args s 0 0) 0 0 6 [(0, .ref qm), (1, .int x)] [.int (nI 0), .ref qm] [aI G m1 880 pp, oB 4 qm [.ref m0, .ref m1, .int (nI hc), .int (nI rf), .ref m2, .ref m3, .ref m4, .ref m5, .ref m6, .ref m7, .ref m8, .long sp, .ref m9, .ref m10, .ref m11, .long ha], aI G m0 220 nw]
    refine J_world (ws2 := [oB 4 qm [.ref m0, .ref m1, .int (nI hc), .int (nI rf), .ref m2, .ref m3, .ref m4, .ref m5, .ref m6, .ref m7, .ref m8, .long sp, .ref m9, .ref m10, .ref m11, .long ha], aI G m0 220 nw, aI G m1 880 pp]) [1, 2, 0] rfl rfl ?_
    refine J_if_ne F 13 (dcq dc_X4_append_0 4 rfl) (by decide) (fun h_5 => absurd h_5 (by decide)) (fun _ => ?_)
    refine J_iconst F (dcq dc_X4_append_0 5 rfl) ic_1 ?_
    refine J_goto F 29 (dcq dc_X4_append_0 6 rfl) (by decide) ?_
    refine J_callV F (wc := [oB 4 qm [.ref m0, .ref m1, .int (nI hc), .int (nI rf), .ref m2, .ref m3, .ref m4, .ref m5, .ref m6, .ref m7, .ref m8, .long sp, .ref m9, .ref m10, .ref m11, .long ha]]) (wr := [aI G m0 220 nw, aI G m1 880 pp]) (rest := []) (qc := 0) (c_X4_refused_1 l hl G qm m0 m1 m2 m3 m4 m5 m6 m7 m8 m9 m10 m11 hc rf sp ha) cd_X4_refused cv_X4_refused rfl rfl rfl tw_4_40 [0] [1, 2] rfl rfl rfl rfl (by decide) rfl ⟨(Nat.le_of_ble_eq_true rfl), (Nat.le_of_ble_eq_true rfl), (Nat.le_of_ble_eq_true rfl), (Nat.le_of_ble_eq_true rfl)⟩ (Nat.le_of_ble_eq_true rfl) rfl (dcq dc_X4_append_0 16 rfl) ?_
    rintro _ _ ⟨rfl, rfl⟩
    change J p l e (cRm 2 46 0 0) s m args below meth c G A 2 (JQ below G A (po_X4_append G qm m0 m1 m2 m3 m4 m5 m6 m7 m8 m9 m10 m11 hc rf sp ha nw P M R n v g d pp x) args s 0 0) 0 0 32 [(0, .ref qm), (1, .int x)] [.int (nI 1)] [aI G m0 220 nw, aI G m1 880 pp, oB 4 qm [.ref m0, .ref m1, .int (nI hc), .int (nI 1), .ref m2, .ref m3, .ref m4, .ref m5, .ref m6, .ref m7, .ref m8, .long sp, .ref m9, .ref m10, .ref m11, .long ha]]
    refine J_world (ws2 := [oB 4 qm [.ref m0, .ref m1, .int (nI hc), .int (nI 1), .ref m2, .ref m3, .ref m4, .ref m5, .ref m6, .ref m7, .ref m8, .long sp, .ref m9, .ref m10, .ref m11, .long ha], aI G m0 220 nw, aI G m1 880 pp]) [2, 0, 1] rfl rfl ?_
    refine J_if_eq F 39 (dcq dc_X4_append_0 17 rfl) (by decide) (fun h_6 => absurd h_6 (by decide)) (fun _ => ?_)
    refine J_iconst F (dcq dc_X4_append_0 18 rfl) ic_0 ?_
    refine J_goto F 45 (dcq dc_X4_append_0 19 rfl) (by decide) ?_
    exact J_iret F (Or.inr (Or.inl ⟨rfl, rfl, hv_3⟩)) (Nat.le_of_ble_eq_true rfl) (Nat.le_of_ble_eq_true rfl) (dcq dc_X4_append_0 24 rfl)

abbrev po_X4_appendMissing (G : Gt) (qm m0 m1 m2 m3 m4 m5 m6 m7 m8 m9 m10 m11 hc rf : Nat) (sp ha : Int64) (nw : Nat → Int32) (P M R n : Nat) (v g d : Nat → Int32) (pp : Nat → Int32) : Option Value → va_W → Prop := fun (v9 : Option Value) (w9 : va_W) => (∃ (c2 : Nat), ∃ (pp2 : Nat → Int32), v9 = some (.int (nI n)) ∧ w9 = [oB 4 qm [.ref m0, .ref m1, .int (nI c2), .int (nI 0), .ref m2, .ref m3, .ref m4, .ref m5, .ref m6, .ref m7, .ref m8, .long sp, .ref m9, .ref m10, .ref m11, .long ha], aI G m0 220 (upd (upd (upd (upd nw (4 + 3 * n) (nI 1)) (4 + 3 * n + 1) (nI 0)) (4 + 3 * n + 2) (nI 20)) 3 (nI (n + 1))), aI G m1 880 pp2] ∧ (MSV hc pp nw c2 pp2) ∧ (n < 72)) ∨ (v9 = some (.int (nI 0)) ∧ w9 = [oB 4 qm [.ref m0, .ref m1, .int (nI hc), .int (nI 1), .ref m2, .ref m3, .ref m4, .ref m5, .ref m6, .ref m7, .ref m8, .long sp, .ref m9, .ref m10, .ref m11, .long ha], aI G m0 220 nw, aI G m1 880 pp] ∧ (72 ≤ n))
set_option maxHeartbeats 4000000 in
set_option maxRecDepth 100000 in
theorem c_X4_appendMissing (l : Launch) (hl : l.stackTraces = false) (G : Gt) (qm m0 m1 m2 m3 m4 m5 m6 m7 m8 m9 m10 m11 hc rf : Nat) (sp ha : Int64) (nw : Nat → Int32) (P M R n : Nat) (v g d : Nat → Int32) (pp : Nat → Int32) (hRM : RM nw P M R n v g d) (hhc : hc ≤ 4) (hn : n ≤ 72) : Con l G yX4_appendMissing cX4_appendMissing 1 (some .int) 2 44 0 0 [.ref qm] [oB 4 qm [.ref m0, .ref m1, .int (nI hc), .int (nI rf), .ref m2, .ref m3, .ref m4, .ref m5, .ref m6, .ref m7, .ref m8, .long sp, .ref m9, .ref m10, .ref m11, .long ha], aI G m0 220 nw, aI G m1 880 pp] (po_X4_appendMissing G qm m0 m1 m2 m3 m4 m5 m6 m7 m8 m9 m10 m11 hc rf sp ha nw P M R n v g d pp) := by
  refine Con.of hl cd_X4_appendMissing (Nat.le_of_ble_eq_true rfl) ?_
  intro p e s m args below meth c A F hin9
  change Fx p l s m args meth c G A "SeasonalAdjusterModel" cX4_appendMissing 1 (some .int) at F
  change J p l e (cRm 2 44 0 0) s m args below meth c G A 1 (JQ below G A (po_X4_appendMissing G qm m0 m1 m2 m3 m4 m5 m6 m7 m8 m9 m10 m11 hc rf sp ha nw P M R n v g d pp) args s 0 0) 0 0 0 [(0, .ref qm)] [] [oB 4 qm [.ref m0, .ref m1, .int (nI hc), .int (nI rf), .ref m2, .ref m3, .ref m4, .ref m5, .ref m6, .ref m7, .ref m8, .long sp, .ref m9, .ref m10, .ref m11, .long ha], aI G m0 220 nw, aI G m1 880 pp]
  refine J_aload_n F 0 (dcq dc_X4_appendMissing_0 0 rfl) rfl rfl ?_
  refine J_aload_n F 0 (dcq dc_X4_appendMissing_0 1 rfl) rfl rfl ?_
  refine J_get F fcX4 0 0 rfl (Nat.le_of_ble_eq_true rfl) tw_3_223 rfl rfl (dcq dc_X4_appendMissing_0 2 rfl) ?_
  refine J_iconst F (dcq dc_X4_appendMissing_0 3 rfl) ic_3 ?_
  refine J_iald F 1 rfl (by omega) (Nat.le_of_ble_eq_true rfl) (dcq dc_X4_appendMissing_0 4 rfl) ?_
  refine J_cast rfl (st2 := [.int (nI n), .ref qm]) (by rw [hRM.2.2.2.1]) rfl ?_
  refine J_bipush F (dcq dc_X4_appendMissing_0 5 rfl) bc_72 ?_
  refine J_ncmp_ne F 16 (by omega) (by omega) (dcq dc_X4_appendMissing_0 6 rfl) (by decide) (fun h_1 => ?_) (fun h_1 => ?_)
  · skip
    refine J_iconst F (dcq dc_X4_appendMissing_0 9 rfl) ic_0 ?_
    refine J_callV F (wc := [oB 4 qm [.ref m0, .ref m1, .int (nI hc), .int (nI rf), .ref m2, .ref m3, .ref m4, .ref m5, .ref m6, .ref m7, .ref m8, .long sp, .ref m9, .ref m10, .ref m11, .long ha]]) (wr := [aI G m0 220 nw, aI G m1 880 pp]) (rest := []) (qc := 0) (c_X4_refused_0 l hl G qm m0 m1 m2 m3 m4 m5 m6 m7 m8 m9 m10 m11 hc rf sp ha) cd_X4_refused cv_X4_refused rfl rfl rfl tw_4_40 [0] [1, 2] rfl rfl rfl rfl (by decide) rfl ⟨(Nat.le_of_ble_eq_true rfl), (Nat.le_of_ble_eq_true rfl), (Nat.le_of_ble_eq_true rfl), (Nat.le_of_ble_eq_true rfl)⟩ (Nat.le_of_ble_eq_true rfl) rfl (dcq dc_X4_appendMissing_0 10 rfl) ?_
    rintro _ _ ⟨rfl, rfl⟩
    change J p l e (cRm 2 44 0 0) s m args below meth c G A 1 (JQ below G A (po_X4_appendMissing G qm m0 m1 m2 m3 m4 m5 m6 m7 m8 m9 m10 m11 hc rf sp ha nw P M R n v g d pp) args s 0 0) 0 0 20 [(0, .ref qm)] [.int (nI 0)] [aI G m0 220 nw, aI G m1 880 pp, oB 4 qm [.ref m0, .ref m1, .int (nI hc), .int (nI 0), .ref m2, .ref m3, .ref m4, .ref m5, .ref m6, .ref m7, .ref m8, .long sp, .ref m9, .ref m10, .ref m11, .long ha]]
    refine J_world (ws2 := [oB 4 qm [.ref m0, .ref m1, .int (nI hc), .int (nI 0), .ref m2, .ref m3, .ref m4, .ref m5, .ref m6, .ref m7, .ref m8, .long sp, .ref m9, .ref m10, .ref m11, .long ha], aI G m0 220 nw, aI G m1 880 pp]) [2, 0, 1] rfl rfl ?_
    refine J_if_eq F 27 (dcq dc_X4_appendMissing_0 11 rfl) (by decide) (fun _ => ?_) (fun h_2 => absurd h_2 (by decide))
    refine J_aload_n F 0 (dcq dc_X4_appendMissing_0 14 rfl) rfl rfl ?_
    refine J_iconst F (dcq dc_X4_appendMissing_0 15 rfl) ic_1 ?_
    refine J_iconst F (dcq dc_X4_appendMissing_0 16 rfl) ic_0 ?_
    refine J_callV F (wc := [oB 4 qm [.ref m0, .ref m1, .int (nI hc), .int (nI 0), .ref m2, .ref m3, .ref m4, .ref m5, .ref m6, .ref m7, .ref m8, .long sp, .ref m9, .ref m10, .ref m11, .long ha], aI G m0 220 nw, aI G m1 880 pp]) (wr := []) (rest := []) (qc := 0) (c_X4_adds l hl G qm m0 m1 m2 m3 m4 m5 m6 m7 m8 m9 m10 m11 hc 0 sp ha nw P M R n v g d pp (nI 1) (nI 0) (by first | assumption | omega) (by first | assumption | omega) (by first | assumption | omega)) cd_X4_adds cv_X4_adds rfl rfl rfl tw_4_92 [0, 1, 2] [] rfl rfl rfl rfl (by decide) rfl ⟨(Nat.le_of_ble_eq_true rfl), (Nat.le_of_ble_eq_true rfl), (Nat.le_of_ble_eq_true rfl), (Nat.le_of_ble_eq_true rfl)⟩ (Nat.le_of_ble_eq_true rfl) rfl (dcq dc_X4_appendMissing_0 17 rfl) ?_
    rintro _ _ ⟨c2, pp2, rfl, rfl, hms⟩
    change J p l e (cRm 2 44 0 0) s m args below meth c G A 1 (JQ below G A (po_X4_appendMissing G qm m0 m1 m2 m3 m4 m5 m6 m7 m8 m9 m10 m11 hc rf sp ha nw P M R n v g d pp) args s 0 0) 0 0 33 [(0, .ref qm)] [.int (nI n)] [oB 4 qm [.ref m0, .ref m1, .int (nI c2), .int (nI 0), .ref m2, .ref m3, .ref m4, .ref m5, .ref m6, .ref m7, .ref m8, .long sp, .ref m9, .ref m10, .ref m11, .long ha], aI G m0 220 (upd (upd (upd (upd nw (4 + 3 * n) (nI 1)) (4 + 3 * n + 1) (nI 0)) (4 + 3 * n + 2) (nI 20)) 3 (nI (n + 1))), aI G m1 880 pp2]
    have hms : MSV hc pp nw c2 pp2 := hms
    exact J_iret F (Or.inl ⟨c2, pp2, rfl, rfl, by first | assumption | omega, by first | assumption | omega⟩) (Nat.le_of_ble_eq_true rfl) (Nat.le_of_ble_eq_true rfl) (dcq dc_X4_appendMissing_0 18 rfl)
  · skip
    refine J_iconst F (dcq dc_X4_appendMissing_0 7 rfl) ic_1 ?_
    refine J_goto F 17 (dcq dc_X4_appendMissing_0 8 rfl) (by decide) ?_
    refine J_callV F (wc := [oB 4 qm [.ref m0, .ref m1, .int (nI hc), .int (nI rf), .ref m2, .ref m3, .ref m4, .ref m5, .ref m6, .ref m7, .ref m8, .long sp, .ref m9, .ref m10, .ref m11, .long ha]]) (wr := [aI G m0 220 nw, aI G m1 880 pp]) (rest := []) (qc := 0) (c_X4_refused_1 l hl G qm m0 m1 m2 m3 m4 m5 m6 m7 m8 m9 m10 m11 hc rf sp ha) cd_X4_refused cv_X4_refused rfl rfl rfl tw_4_40 [0] [1, 2] rfl rfl rfl rfl (by decide) rfl ⟨(Nat.le_of_ble_eq_true rfl), (Nat.le_of_ble_eq_true rfl), (Nat.le_of_ble_eq_true rfl), (Nat.le_of_ble_eq_true rfl)⟩ (Nat.le_of_ble_eq_true rfl) rfl (dcq dc_X4_appendMissing_0 10 rfl) ?_
    rintro _ _ ⟨rfl, rfl⟩
    change J p l e (cRm 2 44 0 0) s m args below meth c G A 1 (JQ below G A (po_X4_appendMissing G qm m0 m1 m2 m3 m4 m5 m6 m7 m8 m9 m10 m11 hc rf sp ha nw P M R n v g d pp) args s 0 0) 0 0 20 [(0, .ref qm)] [.int (nI 1)] [aI G m0 220 nw, aI G m1 880 pp, oB 4 qm [.ref m0, .ref m1, .int (nI hc), .int (nI 1), .ref m2, .ref m3, .ref m4, .ref m5, .ref m6, .ref m7, .ref m8, .long sp, .ref m9, .ref m10, .ref m11, .long ha]]
    refine J_world (ws2 := [oB 4 qm [.ref m0, .ref m1, .int (nI hc), .int (nI 1), .ref m2, .ref m3, .ref m4, .ref m5, .ref m6, .ref m7, .ref m8, .long sp, .ref m9, .ref m10, .ref m11, .long ha], aI G m0 220 nw, aI G m1 880 pp]) [2, 0, 1] rfl rfl ?_
    refine J_if_eq F 27 (dcq dc_X4_appendMissing_0 11 rfl) (by decide) (fun h_3 => absurd h_3 (by decide)) (fun _ => ?_)
    refine J_iconst F (dcq dc_X4_appendMissing_0 12 rfl) ic_0 ?_
    refine J_goto F 33 (dcq dc_X4_appendMissing_0 13 rfl) (by decide) ?_
    exact J_iret F (Or.inr (⟨rfl, rfl, by first | assumption | omega⟩)) (Nat.le_of_ble_eq_true rfl) (Nat.le_of_ble_eq_true rfl) (dcq dc_X4_appendMissing_0 18 rfl)
