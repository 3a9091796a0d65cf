abbrev po_X3_quotient (G : Gt) (a b : Int64) : Option Value → va_W → Prop := fun (v9 : Option Value) (w9 : va_W) => ∃ (r : Int64), v9 = some (.long r) ∧ w9 = [] ∧ (r = quo a b)
set_option maxHeartbeats 4000000 in
set_option maxRecDepth 100000 in
theorem c_X3_quotient (l : Launch) (hl : l.stackTraces = false) (G : Gt) (a b : Int64) : Con l G yX3_quotient cX3_quotient 10 (some .long) 0 0 0 0 [.long a, .long b] [] (po_X3_quotient G a b) := by
  refine Con.of hl cd_X3_quotient (Nat.le_of_ble_eq_true rfl) ?_
  intro p e s m args below meth c A F hin9
  change Fx p l s m args meth c G A "SeasonalAdjuster" cX3_quotient 10 (some .long) at F
  change J p l e (cRm 0 0 0 0) s m args below meth c G A 10 (JQ below G A (po_X3_quotient G a b) args s 0 0) 0 0 0 [(0, .long a), (2, .long b)] [] []
  refine J_lload_n F 1 (dcq dc_X3_quotient_0 0 rfl) rfl rfl ?_
  refine J_lconst F (dcq dc_X3_quotient_0 1 rfl) lc_0 ?_
  refine J_lcmp_gt F 8 (dcq dc_X3_quotient_0 2 rfl) (dcq dc_X3_quotient_0 3 rfl) (by decide) (fun h_1 => ?_) (fun h_1 => ?_)
  · skip
    have hb := h_1
    refine J_lload_n F 0 (dcq dc_X3_quotient_0 6 rfl) rfl rfl ?_
    refine J_lconst F (dcq dc_X3_quotient_0 7 rfl) lc_0 ?_
    refine J_lcmp_ge F 19 (dcq dc_X3_quotient_0 8 rfl) (dcq dc_X3_quotient_0 9 rfl) (by decide) (fun h_2 => ?_) (fun h_2 => ?_)
    · skip
      have ha := h_2
      refine J_lload_n F 0 (dcq dc_X3_quotient_0 13 rfl) rfl rfl ?_
      refine J_lstore F (lv2 := [(4, .long a), (0, .long a), (2, .long b)]) (dcq dc_X3_quotient_0 14 rfl) (Nat.le_of_ble_eq_true rfl) rfl ?_
      refine J_lload F 0 (dcq dc_X3_quotient_0 15 rfl) rfl ?_
      refine J_lload_n F 2 (dcq dc_X3_quotient_0 16 rfl) rfl rfl ?_
      refine J_ldiv F (v := a / b) (dcq dc_X3_quotient_0 17 rfl) (fun e => absurd hb (by rw [e]; decide)) rfl ?_
      refine J_lstore F (lv2 := [(6, .long (a / b)), (4, .long a), (0, .long a), (2, .long b)]) (dcq dc_X3_quotient_0 18 rfl) (Nat.le_of_ble_eq_true rfl) rfl ?_
      refine J_lload F 1 (dcq dc_X3_quotient_0 19 rfl) rfl ?_
      refine J_lload_n F 3 (dcq dc_X3_quotient_0 20 rfl) rfl rfl ?_
      refine J_lrem F (v := a - a / b * b) (dcq dc_X3_quotient_0 21 rfl) (fun e => absurd hb (by rw [e]; decide)) rfl ?_
      refine J_lstore F (lv2 := [(8, .long (a - a / b * b)), (6, .long (a / b)), (4, .long a), (0, .long a), (2, .long b)]) (dcq dc_X3_quotient_0 22 rfl) (Nat.le_of_ble_eq_true rfl) rfl ?_
      refine J_lload F 0 (dcq dc_X3_quotient_0 23 rfl) rfl ?_
      refine J_lload_n F 4 (dcq dc_X3_quotient_0 24 rfl) rfl rfl ?_
      refine J_lload F 0 (dcq dc_X3_quotient_0 25 rfl) rfl ?_
      refine J_lsub F (v := b - (a - a / b * b)) (dcq dc_X3_quotient_0 26 rfl) rfl ?_
      refine J_lcmp_lt F 50 (dcq dc_X3_quotient_0 27 rfl) (dcq dc_X3_quotient_0 28 rfl) (by decide) (fun h_3 => ?_) (fun h_3 => ?_)
      · skip
        have hr := h_3
        refine J_lload_n F 3 (dcq dc_X3_quotient_0 33 rfl) rfl rfl ?_
        refine J_lconst F (dcq dc_X3_quotient_0 34 rfl) lc_0 ?_
        refine J_lcmp_ge F 62 (dcq dc_X3_quotient_0 35 rfl) (dcq dc_X3_quotient_0 36 rfl) (by decide) (fun h_4 => ?_) (fun h_4 => ?_)
        · skip
          have ha2 := h_4
          refine J_lload F 1 (dcq dc_X3_quotient_0 40 rfl) rfl ?_
          exact J_lret F ⟨a / b, rfl, rfl, by rw [quo_pos hb]; unfold qt absL; first | (have ha9 := Int64.not_le.mp ha; simp only [if_pos ha9, if_pos hr]; done) | (have ha9 := Int64.not_le.mp ha; simp only [if_pos ha9, if_neg hr]; done) | (have ha9 := Int64.not_lt.mpr ha; simp only [if_neg ha9, if_pos hr]; done) | (have ha9 := Int64.not_lt.mpr ha; simp only [if_neg ha9, if_neg hr]; done) | exact absurd ha ha2 | exact absurd ha2 ha⟩ (Nat.le_of_ble_eq_true rfl) (Nat.le_of_ble_eq_true rfl) (dcq dc_X3_quotient_0 41 rfl)
        · skip
          have ha2 := h_4
          refine J_lload F 1 (dcq dc_X3_quotient_0 37 rfl) rfl ?_
          refine J_lneg F (v := -(a / b)) (dcq dc_X3_quotient_0 38 rfl) rfl ?_
          refine J_goto F 64 (dcq dc_X3_quotient_0 39 rfl) (by decide) ?_
          exact J_lret F ⟨-(a / b), rfl, rfl, by rw [quo_pos hb]; unfold qt absL; first | (have ha9 := Int64.not_le.mp ha; simp only [if_pos ha9, if_pos hr]; done) | (have ha9 := Int64.not_le.mp ha; simp only [if_pos ha9, if_neg hr]; done) | (have ha9 := Int64.not_lt.mpr ha; simp only [if_neg ha9, if_pos hr]; done) | (have ha9 := Int64.not_lt.mpr ha; simp only [if_neg ha9, if_neg hr]; done) | exact absurd ha ha2 | exact absurd ha2 ha⟩ (Nat.le_of_ble_eq_true rfl) (Nat.le_of_ble_eq_true rfl) (dcq dc_X3_quotient_0 41 rfl)
      · skip
        have hr := h_3
        refine J_lload F 1 (dcq dc_X3_quotient_0 29 rfl) rfl ?_
        refine J_lconst F (dcq dc_X3_quotient_0 30 rfl) lc_1 ?_
        refine J_ladd F (v := (a / b) + 1) (dcq dc_X3_quotient_0 31 rfl) rfl ?_
        refine J_lstore F (lv2 := [(6, .long ((a / b) + 1)), (8, .long (a - a / b * b)), (4, .long a), (0, .long a), (2, .long b)]) (dcq dc_X3_quotient_0 32 rfl) (Nat.le_of_ble_eq_true rfl) rfl ?_
        refine J_lload_n F 3 (dcq dc_X3_quotient_0 33 rfl) rfl rfl ?_
        refine J_lconst F (dcq dc_X3_quotient_0 34 rfl) lc_0 ?_
        refine J_lcmp_ge F 62 (dcq dc_X3_quotient_0 35 rfl) (dcq dc_X3_quotient_0 36 rfl) (by decide) (fun h_5 => ?_) (fun h_5 => ?_)
        · skip
          have ha2 := h_5
          refine J_lload F 0 (dcq dc_X3_quotient_0 40 rfl) rfl ?_
          exact J_lret F ⟨(a / b) + 1, rfl, rfl, by rw [quo_pos hb]; unfold qt absL; first | (have ha9 := Int64.not_le.mp ha; simp only [if_pos ha9, if_pos hr]; done) | (have ha9 := Int64.not_le.mp ha; simp only [if_pos ha9, if_neg hr]; done) | (have ha9 := Int64.not_lt.mpr ha; simp only [if_neg ha9, if_pos hr]; done) | (have ha9 := Int64.not_lt.mpr ha; simp only [if_neg ha9, if_neg hr]; done) | exact absurd ha ha2 | exact absurd ha2 ha⟩ (Nat.le_of_ble_eq_true rfl) (Nat.le_of_ble_eq_true rfl) (dcq dc_X3_quotient_0 41 rfl)
        · skip
          have ha2 := h_5
          refine J_lload F 0 (dcq dc_X3_quotient_0 37 rfl) rfl ?_
          refine J_lneg F (v := -((a / b) + 1)) (dcq dc_X3_quotient_0 38 rfl) rfl ?_
          refine J_goto F 64 (dcq dc_X3_quotient_0 39 rfl) (by decide) ?_
          exact J_lret F ⟨-((a / b) + 1), rfl, rfl, by rw [quo_pos hb]; unfold qt absL; first | (have ha9 := Int64.not_le.mp ha; simp only [if_pos ha9, if_pos hr]; done) | (have ha9 := Int64.not_le.mp ha; simp only [if_pos ha9, if_neg hr]; done) | (have ha9 := Int64.not_lt.mpr ha; simp only [if_neg ha9, if_pos hr]; done) | (have ha9 := Int64.not_lt.mpr ha; simp only [if_neg ha9, if_neg hr]; done) | exact absurd ha ha2 | exact absurd ha2 ha⟩ (Nat.le_of_ble_eq_true rfl) (Nat.le_of_ble_eq_true rfl) (dcq dc_X3_quotient_0 41 rfl)
    · skip
      have ha := h_2
      refine J_lload_n F 0 (dcq dc_X3_quotient_0 10 rfl) rfl rfl ?_
      refine J_lneg F (v := -a) (dcq dc_X3_quotient_0 11 rfl) rfl ?_
      refine J_goto F 20 (dcq dc_X3_quotient_0 12 rfl) (by decide) ?_
      refine J_lstore F (lv2 := [(4, .long (-a)), (0, .long a), (2, .long b)]) (dcq dc_X3_quotient_0 14 rfl) (Nat.le_of_ble_eq_true rfl) rfl ?_
      refine J_lload F 0 (dcq dc_X3_quotient_0 15 rfl) rfl ?_
      refine J_lload_n F 2 (dcq dc_X3_quotient_0 16 rfl) rfl rfl ?_
      refine J_ldiv F (v := (-a) / b) (dcq dc_X3_quotient_0 17 rfl) (fun e => absurd hb (by rw [e]; decide)) rfl ?_
      refine J_lstore F (lv2 := [(6, .long ((-a) / b)), (4, .long (-a)), (0, .long a), (2, .long b)]) (dcq dc_X3_quotient_0 18 rfl) (Nat.le_of_ble_eq_true rfl) rfl ?_
      refine J_lload F 1 (dcq dc_X3_quotient_0 19 rfl) rfl ?_
      refine J_lload_n F 3 (dcq dc_X3_quotient_0 20 rfl) rfl rfl ?_
      refine J_lrem F (v := (-a) - (-a) / b * b) (dcq dc_X3_quotient_0 21 rfl) (fun e => absurd hb (by rw [e]; decide)) rfl ?_
      refine J_lstore F (lv2 := [(8, .long ((-a) - (-a) / b * b)), (6, .long ((-a) / b)), (4, .long (-a)), (0, .long a), (2, .long b)]) (dcq dc_X3_quotient_0 22 rfl) (Nat.le_of_ble_eq_true rfl) rfl ?_
      refine J_lload F 0 (dcq dc_X3_quotient_0 23 rfl) rfl ?_
      refine J_lload_n F 4 (dcq dc_X3_quotient_0 24 rfl) rfl rfl ?_
      refine J_lload F 0 (dcq dc_X3_quotient_0 25 rfl) rfl ?_
      refine J_lsub F (v := b - ((-a) - (-a) / b * b)) (dcq dc_X3_quotient_0 26 rfl) rfl ?_
      refine J_lcmp_lt F 50 (dcq dc_X3_quotient_0 27 rfl) (dcq dc_X3_quotient_0 28 rfl) (by decide) (fun h_6 => ?_) (fun h_6 => ?_)
      · skip
        have hr := h_6
        refine J_lload_n F 3 (dcq dc_X3_quotient_0 33 rfl) rfl rfl ?_
        refine J_lconst F (dcq dc_X3_quotient_0 34 rfl) lc_0 ?_
        refine J_lcmp_ge F 62 (dcq dc_X3_quotient_0 35 rfl) (dcq dc_X3_quotient_0 36 rfl) (by decide) (fun h_7 => ?_) (fun h_7 => ?_)
        · skip
          have ha2 := h_7
          refine J_lload F 1 (dcq dc_X3_quotient_0 40 rfl) rfl ?_
          exact J_lret F ⟨(-a) / b, rfl, rfl, by rw [quo_pos hb]; unfold qt absL; first | (have ha9 := Int64.not_le.mp ha; simp only [if_pos ha9, if_pos hr]; done) | (have ha9 := Int64.not_le.mp ha; simp only [if_pos ha9, if_neg hr]; done) | (have ha9 := Int64.not_lt.mpr ha; simp only [if_neg ha9, if_pos hr]; done) | (have ha9 := Int64.not_lt.mpr ha; simp only [if_neg ha9, if_neg hr]; done) | exact absurd ha ha2 | exact absurd ha2 ha⟩ (Nat.le_of_ble_eq_true rfl) (Nat.le_of_ble_eq_true rfl) (dcq dc_X3_quotient_0 41 rfl)
        · skip
          have ha2 := h_7
          refine J_lload F 1 (dcq dc_X3_quotient_0 37 rfl) rfl ?_
          refine J_lneg F (v := -((-a) / b)) (dcq dc_X3_quotient_0 38 rfl) rfl ?_
          refine J_goto F 64 (dcq dc_X3_quotient_0 39 rfl) (by decide) ?_
          exact J_lret F ⟨-((-a) / b), rfl, rfl, by rw [quo_pos hb]; unfold qt absL; first | (have ha9 := Int64.not_le.mp ha; simp only [if_pos ha9, if_pos hr]; done) | (have ha9 := Int64.not_le.mp ha; simp only [if_pos ha9, if_neg hr]; done) | (have ha9 := Int64.not_lt.mpr ha; simp only [if_neg ha9, if_pos hr]; done) | (have ha9 := Int64.not_lt.mpr ha; simp only [if_neg ha9, if_neg hr]; done) | exact absurd ha ha2 | exact absurd ha2 ha⟩ (Nat.le_of_ble_eq_true rfl) (Nat.le_of_ble_eq_true rfl) (dcq dc_X3_quotient_0 41 rfl)
      · skip
        have hr := h_6
        refine J_lload F 1 (dcq dc_X3_quotient_0 29 rfl) rfl ?_
        refine J_lconst F (dcq dc_X3_quotient_0 30 rfl) lc_1 ?_
        refine J_ladd F (v := ((-a) / b) + 1) (dcq dc_X3_quotient_0 31 rfl) rfl ?_
        refine J_lstore F (lv2 := [(6, .long (((-a) / b) + 1)), (8, .long ((-a) - (-a) / b * b)), (4, .long (-a)), (0, .long a), (2, .long b)]) (dcq dc_X3_quotient_0 32 rfl) (Nat.le_of_ble_eq_true rfl) rfl ?_
        refine J_lload_n F 3 (dcq dc_X3_quotient_0 33 rfl) rfl rfl ?_
        refine J_lconst F (dcq dc_X3_quotient_0 34 rfl) lc_0 ?_
        refine J_lcmp_ge F 62 (dcq dc_X3_quotient_0 35 rfl) (dcq dc_X3_quotient_0 36 rfl) (by decide) (fun h_8 => ?_) (fun h_8 => ?_)
        · skip
          have ha2 := h_8
          refine J_lload F 0 (dcq dc_X3_quotient_0 40 rfl) rfl ?_
          exact J_lret F ⟨((-a) / b) + 1, rfl, rfl, by rw [quo_pos hb]; unfold qt absL; first | (have ha9 := Int64.not_le.mp ha; simp only [if_pos ha9, if_pos hr]; done) | (have ha9 := Int64.not_le.mp ha; simp only [if_pos ha9, if_neg hr]; done) | (have ha9 := Int64.not_lt.mpr ha; simp only [if_neg ha9, if_pos hr]; done) | (have ha9 := Int64.not_lt.mpr ha; simp only [if_neg ha9, if_neg hr]; done) | exact absurd ha ha2 | exact absurd ha2 ha⟩ (Nat.le_of_ble_eq_true rfl) (Nat.le_of_ble_eq_true rfl) (dcq dc_X3_quotient_0 41 rfl)
        · skip
          have ha2 := h_8
          refine J_lload F 0 (dcq dc_X3_quotient_0 37 rfl) rfl ?_
          refine J_lneg F (v := -(((-a) / b) + 1)) (dcq dc_X3_quotient_0 38 rfl) rfl ?_
          refine J_goto F 64 (dcq dc_X3_quotient_0 39 rfl) (by decide) ?_
          exact J_lret F ⟨-(((-a) / b) + 1), rfl, rfl, by rw [quo_pos hb]; unfold qt absL; first | (have ha9 := Int64.not_le.mp ha; simp only [if_pos ha9, if_pos hr]; done) | (have ha9 := Int64.not_le.mp ha; simp only [if_pos ha9, if_neg hr]; done) | (have ha9 := Int64.not_lt.mpr ha; simp only [if_neg ha9, if_pos hr]; done) | (have ha9 := Int64.not_lt.mpr ha; simp only [if_neg ha9, if_neg hr]; done) | exact absurd ha ha2 | exact absurd ha2 ha⟩ (Nat.le_of_ble_eq_true rfl) (Nat.le_of_ble_eq_true rfl) (dcq dc_X3_quotient_0 41 rfl)
  · skip
    have hb := h_1
    refine J_lconst F (dcq dc_X3_quotient_0 4 rfl) lc_0 ?_
    exact J_lret F ⟨0, rfl, rfl, (if_neg hb).symm⟩ (Nat.le_of_ble_eq_true rfl) (Nat.le_of_ble_eq_true rfl) (dcq dc_X3_quotient_0 5 rfl)

abbrev po_X2_init (G : Gt) (q : Nat) : Option Value → va_W → Prop := fun (v9 : Option Value) (w9 : va_W) => ∃ (qv qg qd : Nat), v9 = none ∧ w9 = [oB 2 q [.int (nI 4), .int (nI 0), .int (nI 2), .int (nI 0), .ref qv, .ref qg, .ref qd], aI G qv 72 (fun _ => 0), aZ G qg 72 (fun _ => 0), aI G qd 72 (fun _ => 0)]
set_option maxHeartbeats 4000000 in
set_option maxRecDepth 100000 in
theorem c_X2_init (l : Launch) (hl : l.stackTraces = false) (G : Gt) (q : Nat) : Con l G yX2_init cX2_init 1 none 1 20 3 216 [.ref q] [oB 2 q [.int 0, .int 0, .int 0, .int 0, .null, .null, .null]] (po_X2_init G q) := by
  refine Con.of hl cd_X2_init (Nat.le_of_ble_eq_true rfl) ?_
  intro p e s m args below meth c A F hin9
  change Fx p l s m args meth c G A "SeasonalAdjuster$Series" cX2_init 1 none at F
  change J p l e (cRm 1 20 3 216) s m args below meth c G A 1 (JQ below G A (po_X2_init G q) args s 3 216) 0 0 0 [(0, .ref q)] [] [oB 2 q [.int 0, .int 0, .int 0, .int 0, .null, .null, .null]]
  refine J_aload_n F 0 (dcq dc_X2_init_0 0 rfl) rfl rfl ?_
  refine J_objInit F tw_1_26 tw_1_19 tw_objinit ⟨(Nat.le_of_ble_eq_true rfl), (Nat.le_of_ble_eq_true rfl)⟩ (dcq dc_X2_init_0 1 rfl) ?_
  refine J_aload_n F 0 (dcq dc_X2_init_0 2 rfl) rfl rfl ?_
  refine J_iconst F (dcq dc_X2_init_0 3 rfl) ic_4 ?_
  refine J_put F (ws2 := [oB 2 q [.int (nI 4), .int 0, .int 0, .int 0, .null, .null, .null]]) fcX2 0 0 rfl (Nat.le_of_ble_eq_true rfl) tw_1_27 rfl rfl rfl rfl (Nat.le_of_ble_eq_true rfl) rfl (dcq dc_X2_init_0 4 rfl) ?_
  refine J_aload_n F 0 (dcq dc_X2_init_0 5 rfl) rfl rfl ?_
  refine J_iconst F (dcq dc_X2_init_0 6 rfl) ic_0 ?_
  refine J_put F (ws2 := [oB 2 q [.int (nI 4), .int (nI 0), .int 0, .int 0, .null, .null, .null]]) fcX2 0 1 rfl (Nat.le_of_ble_eq_true rfl) tw_1_30 rfl rfl rfl rfl (Nat.le_of_ble_eq_true rfl) rfl (dcq dc_X2_init_0 7 rfl) ?_
  refine J_aload_n F 0 (dcq dc_X2_init_0 8 rfl) rfl rfl ?_
  refine J_iconst F (dcq dc_X2_init_0 9 rfl) ic_2 ?_
  refine J_put F (ws2 := [oB 2 q [.int (nI 4), .int (nI 0), .int (nI 2), .int 0, .null, .null, .null]]) fcX2 0 2 rfl (Nat.le_of_ble_eq_true rfl) tw_1_33 rfl rfl rfl rfl (Nat.le_of_ble_eq_true rfl) rfl (dcq dc_X2_init_0 10 rfl) ?_
  refine J_aload_n F 0 (dcq dc_X2_init_0 11 rfl) rfl rfl ?_
  refine J_iconst F (dcq dc_X2_init_0 12 rfl) ic_0 ?_
  refine J_put F (ws2 := [oB 2 q [.int (nI 4), .int (nI 0), .int (nI 2), .int (nI 0), .null, .null, .null]]) fcX2 0 3 rfl (Nat.le_of_ble_eq_true rfl) tw_1_36 rfl rfl rfl rfl (Nat.le_of_ble_eq_true rfl) rfl (dcq dc_X2_init_0 13 rfl) ?_
  refine J_aload_n F 0 (dcq dc_X2_init_0 14 rfl) rfl rfl ?_
  refine J_bipush F (dcq dc_X2_init_0 15 rfl) bc_72 ?_
  refine J_newI F tw_1_61 (Nat.le_of_ble_eq_true rfl) (Nat.le_of_ble_eq_true rfl) (Nat.le_of_ble_eq_true rfl) (dcq dc_X2_init_0 16 rfl) (fun q_1 => ?_)
  refine J_cast (ws2 := [oB 2 q [.int (nI 4), .int (nI 0), .int (nI 2), .int (nI 0), .null, .null, .null], aI G q_1 72 (fun _ => 0)]) rfl rfl rfl ?_
  refine J_putF F (ws2 := [oB 2 q [.int (nI 4), .int (nI 0), .int (nI 2), .int (nI 0), .ref q_1, .null, .null], aI G q_1 72 (fun _ => 0)]) fcX2 hin9 0 4 rfl (Nat.le_of_ble_eq_true rfl) tw_1_39 rfl rfl rfl rfl rfl (Nat.le_of_ble_eq_true rfl) rfl (dcq dc_X2_init_0 17 rfl) ?_
  refine J_aload_n F 0 (dcq dc_X2_init_0 18 rfl) rfl rfl ?_
  refine J_bipush F (dcq dc_X2_init_0 19 rfl) bc_72 ?_
  refine J_newZ F tw_1_62 (Nat.le_of_ble_eq_true rfl) (Nat.le_of_ble_eq_true rfl) (Nat.le_of_ble_eq_true rfl) (dcq dc_X2_init_0 20 rfl) (fun q_2 => ?_)
  refine J_cast (ws2 := [oB 2 q [.int (nI 4), .int (nI 0), .int (nI 2), .int (nI 0), .ref q_1, .null, .null], aI G q_1 72 (fun _ => 0), aZ G q_2 72 (fun _ => 0)]) rfl rfl rfl ?_
  refine J_putF F (ws2 := [oB 2 q [.int (nI 4), .int (nI 0), .int (nI 2), .int (nI 0), .ref q_1, .ref q_2, .null], aI G q_1 72 (fun _ => 0), aZ G q_2 72 (fun _ => 0)]) fcX2 hin9 0 5 rfl (Nat.le_of_ble_eq_true rfl) tw_1_42 rfl rfl rfl rfl rfl (Nat.le_of_ble_eq_true rfl) rfl (dcq dc_X2_init_0 21 rfl) ?_
  refine J_aload_n F 0 (dcq dc_X2_init_0 22 rfl) rfl rfl ?_
  refine J_bipush F (dcq dc_X2_init_0 23 rfl) bc_72 ?_
  refine J_newI F tw_1_61 (Nat.le_of_ble_eq_true rfl) (Nat.le_of_ble_eq_true rfl) (Nat.le_of_ble_eq_true rfl) (dcq dc_X2_init_0 24 rfl) (fun q_3 => ?_)
  refine J_cast (ws2 := [oB 2 q [.int (nI 4), .int (nI 0), .int (nI 2), .int (nI 0), .ref q_1, .ref q_2, .null], aI G q_1 72 (fun _ => 0), aZ G q_2 72 (fun _ => 0), aI G q_3 72 (fun _ => 0)]) rfl rfl rfl ?_
  refine J_putF F (ws2 := [oB 2 q [.int (nI 4), .int (nI 0), .int (nI 2), .int (nI 0), .ref q_1, .ref q_2, .ref q_3], aI G q_1 72 (fun _ => 0), aZ G q_2 72 (fun _ => 0), aI G q_3 72 (fun _ => 0)]) fcX2 hin9 0 6 rfl (Nat.le_of_ble_eq_true rfl) tw_1_44 rfl rfl rfl rfl rfl (Nat.le_of_ble_eq_true rfl) rfl (dcq dc_X2_init_0 25 rfl) ?_
  exact J_vret F ⟨q_1, q_2, q_3, rfl, rfl⟩ (Nat.le_of_ble_eq_true rfl) (Nat.le_of_ble_eq_true rfl) (dcq dc_X2_init_0 26 rfl)

abbrev po_X2_copyFrom (G : Gt) (q qv qg qd P0 M0 R0 n0 : Nat) (v0 g0 d0 : Nat → Int32) (q1 qv1 qg1 qd1 P M R n : Nat) (v g d : Nat → Int32) : Option Value → va_W → Prop := fun (v9 : Option Value) (w9 : va_W) => ∃ (v2 g2 d2 : Nat → Int32), v9 = none ∧ w9 = [oB 2 q [.int (nI P), .int (nI M), .int (nI R), .int (nI n), .ref qv, .ref qg, .ref qd], aI G qv 72 v2, aZ G qg 72 g2, aI G qd 72 d2, oB 2 q1 [.int (nI P), .int (nI M), .int (nI R), .int (nI n), .ref qv1, .ref qg1, .ref qd1], aI G qv1 72 v, aZ G qg1 72 g, aI G qd1 72 d] ∧ (∀ t, t < n → v2 t = v t) ∧ (∀ t, t < n → g2 t = g t) ∧ (∀ t, t < n → d2 t = d t)
set_option maxHeartbeats 4000000 in
set_option maxRecDepth 100000 in
theorem c_X2_copyFrom (l : Launch) (hl : l.stackTraces = false) (G : Gt) (q qv qg qd P0 M0 R0 n0 : Nat) (v0 g0 d0 : Nat → Int32) (q1 qv1 qg1 qd1 P M R n : Nat) (v g d : Nat → Int32) (hn : n ≤ 72) (hgb : gb n g) : Con l G yX2_copyFrom cX2_copyFrom 3 none 0 0 0 0 [.ref q, .ref q1] [oB 2 q [.int (nI P0), .int (nI M0), .int (nI R0), .int (nI n0), .ref qv, .ref qg, .ref qd], aI G qv 72 v0, aZ G qg 72 g0, aI G qd 72 d0, oB 2 q1 [.int (nI P), .int (nI M), .int (nI R), .int (nI n), .ref qv1, .ref qg1, .ref qd1], aI G qv1 72 v, aZ G qg1 72 g, aI G qd1 72 d] (po_X2_copyFrom G q qv qg qd P0 M0 R0 n0 v0 g0 d0 q1 qv1 qg1 qd1 P M R n v g d) := by
  refine Con.of hl cd_X2_copyFrom (Nat.le_of_ble_eq_true rfl) ?_
  intro p e s m args below meth c A F hin9
  change Fx p l s m args meth c G A "SeasonalAdjuster$Series" cX2_copyFrom 3 none at F
  change J p l e (cRm 0 0 0 0) s m args below meth c G A 3 (JQ below G A (po_X2_copyFrom G q qv qg qd P0 M0 R0 n0 v0 g0 d0 q1 qv1 qg1 qd1 P M R n v g d) args s 0 0) 0 0 0 [(0, .ref q), (1, .ref q1)] [] [oB 2 q [.int (nI P0), .int (nI M0), .int (nI R0), .int (nI n0), .ref qv, .ref qg, .ref qd], aI G qv 72 v0, aZ G qg 72 g0, aI G qd 72 d0, oB 2 q1 [.int (nI P), .int (nI M), .int (nI R), .int (nI n), .ref qv1, .ref qg1, .ref qd1], aI G qv1 72 v, aZ G qg1 72 g, aI G qd1 72 d]
  refine J_aload_n F 0 (dcq dc_X2_copyFrom_0 0 rfl) rfl rfl ?_
  refine J_aload_n F 1 (dcq dc_X2_copyFrom_0 1 rfl) rfl rfl ?_
  refine J_get F fcX2 4 0 rfl (Nat.le_of_ble_eq_true rfl) tw_1_27 rfl rfl (dcq dc_X2_copyFrom_0 2 rfl) ?_
  refine J_put F (ws2 := [oB 2 q [.int (nI P), .int (nI M0), .int (nI R0), .int (nI n0), .ref qv, .ref qg, .ref qd], aI G qv 72 v0, aZ G qg 72 g0, aI G qd 72 d0, oB 2 q1 [.int (nI P), .int (nI M), .int (nI R), .int (nI n), .ref qv1, .ref qg1, .ref qd1], aI G qv1 72 v, aZ G qg1 72 g, aI G qd1 72 d]) fcX2 0 0 rfl (Nat.le_of_ble_eq_true rfl) tw_1_27 rfl rfl rfl rfl (Nat.le_of_ble_eq_true rfl) rfl (dcq dc_X2_copyFrom_0 3 rfl) ?_
  refine J_aload_n F 0 (dcq dc_X2_copyFrom_0 4 rfl) rfl rfl ?_
  refine J_aload_n F 1 (dcq dc_X2_copyFrom_0 5 rfl) rfl rfl ?_
  refine J_get F fcX2 4 1 rfl (Nat.le_of_ble_eq_true rfl) tw_1_30 rfl rfl (dcq dc_X2_copyFrom_0 6 rfl) ?_
  refine J_put F (ws2 := [oB 2 q [.int (nI P), .int (nI M), .int (nI R0), .int (nI n0), .ref qv, .ref qg, .ref qd], aI G qv 72 v0, aZ G qg 72 g0, aI G qd 72 d0, oB 2 q1 [.int (nI P), .int (nI M), .int (nI R), .int (nI n), .ref qv1, .ref qg1, .ref qd1], aI G qv1 72 v, aZ G qg1 72 g, aI G qd1 72 d]) fcX2 0 1 rfl (Nat.le_of_ble_eq_true rfl) tw_1_30 rfl rfl rfl rfl (Nat.le_of_ble_eq_true rfl) rfl (dcq dc_X2_copyFrom_0 7 rfl) ?_
  refine J_aload_n F 0 (dcq dc_X2_copyFrom_0 8 rfl) rfl rfl ?_
  refine J_aload_n F 1 (dcq dc_X2_copyFrom_0 9 rfl) rfl rfl ?_
  refine J_get F fcX2 4 2 rfl (Nat.le_of_ble_eq_true rfl) tw_1_33 rfl rfl (dcq dc_X2_copyFrom_0 10 rfl) ?_
  refine J_put F (ws2 := [oB 2 q [.int (nI P), .int (nI M), .int (nI R), .int (nI n0), .ref qv, .ref qg, .ref qd], aI G qv 72 v0, aZ G qg 72 g0, aI G qd 72 d0, oB 2 q1 [.int (nI P), .int (nI M), .int (nI R), .int (nI n), .ref qv1, .ref qg1, .ref qd1], aI G qv1 72 v, aZ G qg1 72 g, aI G qd1 72 d]) fcX2 0 2 rfl (Nat.le_of_ble_eq_true rfl) tw_1_33 rfl rfl rfl rfl (Nat.le_of_ble_eq_true rfl) rfl (dcq dc_X2_copyFrom_0 11 rfl) ?_
  refine J_aload_n F 0 (dcq dc_X2_copyFrom_0 12 rfl) rfl rfl ?_
  refine J_aload_n F 1 (dcq dc_X2_copyFrom_0 13 rfl) rfl rfl ?_
  refine J_get F fcX2 4 3 rfl (Nat.le_of_ble_eq_true rfl) tw_1_36 rfl rfl (dcq dc_X2_copyFrom_0 14 rfl) ?_
  refine J_put F (ws2 := [oB 2 q [.int (nI P), .int (nI M), .int (nI R), .int (nI n), .ref qv, .ref qg, .ref qd], aI G qv 72 v0, aZ G qg 72 g0, aI G qd 72 d0, oB 2 q1 [.int (nI P), .int (nI M), .int (nI R), .int (nI n), .ref qv1, .ref qg1, .ref qd1], aI G qv1 72 v, aZ G qg1 72 g, aI G qd1 72 d]) fcX2 0 3 rfl (Nat.le_of_ble_eq_true rfl) tw_1_36 rfl rfl rfl rfl (Nat.le_of_ble_eq_true rfl) rfl (dcq dc_X2_copyFrom_0 15 rfl) ?_
  refine J_iconst F (dcq dc_X2_copyFrom_0 16 rfl) ic_0 ?_
  refine J_istore_n F (lv2 := [(2, .int (nI 0)), (0, .ref q), (1, .ref q1)]) (dcq dc_X2_copyFrom_0 17 rfl) rfl (Nat.le_of_ble_eq_true rfl) rfl ?_
  have L34 : ∀ (fu34 : Nat), ∀ (t : Nat) (va ga da : Nat → Int32), (t ≤ n) → (∀ j, 0 ≤ j → j < t → va j = v j) → (∀ j, 0 ≤ j → j < t → ga j = g j) → (∀ j, 0 ≤ j → j < t → da j = d j) → n - t < fu34 → J p l e (cRm 0 0 0 0) s m args below meth c G A 3 (JQ below G A (po_X2_copyFrom G q qv qg qd P0 M0 R0 n0 v0 g0 d0 q1 qv1 qg1 qd1 P M R n v g d) args s 0 0) 0 0 34 [(0, .ref q), (1, .ref q1), (2, .int (nI t))] [] [oB 2 q [.int (nI P), .int (nI M), .int (nI R), .int (nI n), .ref qv, .ref qg, .ref qd], aI G qv 72 va, aZ G qg 72 ga, aI G qd 72 da, oB 2 q1 [.int (nI P), .int (nI M), .int (nI R), .int (nI n), .ref qv1, .ref qg1, .ref qd1], aI G qv1 72 v, aZ G qg1 72 g, aI G qd1 72 d] := by
    intro fu34
    induction fu34 with
    | zero => intro t va ga da ht iv ig id hm34; exact absurd hm34 (Nat.not_lt_zero _)
    | succ fu34 ih34 =>
      intro t va ga da ht iv ig id hm34
      refine J_iload_n F 2 (dcq dc_X2_copyFrom_0 18 rfl) rfl rfl ?_
      refine J_aload_n F 0 (dcq dc_X2_copyFrom_0 19 rfl) rfl rfl ?_
      refine J_get F fcX2 0 3 rfl (Nat.le_of_ble_eq_true rfl) tw_1_36 rfl rfl (dcq dc_X2_copyFrom_0 20 rfl) ?_
      refine J_ncmp_ge F 84 (by omega) (by omega) (dcq dc_X2_copyFrom_0 21 rfl) (by decide) (fun h_1 => ?_) (fun h_1 => ?_)
      · skip
        exact J_vret F ⟨va, ga, da, rfl, rfl, fun j h => iv j (Nat.zero_le _) (by omega), fun j h => ig j (Nat.zero_le _) (by omega), fun j h => id j (Nat.zero_le _) (by omega)⟩ (Nat.le_of_ble_eq_true rfl) (Nat.le_of_ble_eq_true rfl) (dcq dc_X2_copyFrom_1 0 rfl)
      · skip
        refine J_aload_n F 0 (dcq dc_X2_copyFrom_0 22 rfl) rfl rfl ?_
        refine J_get F fcX2 0 4 rfl (Nat.le_of_ble_eq_true rfl) tw_1_39 rfl rfl (dcq dc_X2_copyFrom_0 23 rfl) ?_
        refine J_iload_n F 2 (dcq dc_X2_copyFrom_0 24 rfl) rfl rfl ?_
        refine J_aload_n F 1 (dcq dc_X2_copyFrom_0 25 rfl) rfl rfl ?_
        refine J_get F fcX2 4 4 rfl (Nat.le_of_ble_eq_true rfl) tw_1_39 rfl rfl (dcq dc_X2_copyFrom_0 26 rfl) ?_
        refine J_iload_n F 2 (dcq dc_X2_copyFrom_0 27 rfl) rfl rfl ?_
        refine J_iald F 5 rfl (by omega) (Nat.le_of_ble_eq_true rfl) (dcq dc_X2_copyFrom_0 28 rfl) ?_
        refine J_iast F (ws2 := [oB 2 q [.int (nI P), .int (nI M), .int (nI R), .int (nI n), .ref qv, .ref qg, .ref qd], aI G qv 72 (upd va t (v t)), aZ G qg 72 ga, aI G qd 72 da, oB 2 q1 [.int (nI P), .int (nI M), .int (nI R), .int (nI n), .ref qv1, .ref qg1, .ref qd1], aI G qv1 72 v, aZ G qg1 72 g, aI G qd1 72 d]) 1 rfl (by omega) (Nat.le_of_ble_eq_true rfl) rfl (dcq dc_X2_copyFrom_0 29 rfl) ?_
        refine J_aload_n F 0 (dcq dc_X2_copyFrom_0 30 rfl) rfl rfl ?_
        refine J_get F fcX2 0 5 rfl (Nat.le_of_ble_eq_true rfl) tw_1_42 rfl rfl (dcq dc_X2_copyFrom_0 31 rfl) ?_
        refine J_iload_n F 2 (dcq dc_X2_copyFrom_0 32 rfl) rfl rfl ?_
        refine J_aload_n F 1 (dcq dc_X2_copyFrom_0 33 rfl) rfl rfl ?_
        refine J_get F fcX2 4 5 rfl (Nat.le_of_ble_eq_true rfl) tw_1_42 rfl rfl (dcq dc_X2_copyFrom_0 34 rfl) ?_
        refine J_iload_n F 2 (dcq dc_X2_copyFrom_0 35 rfl) rfl rfl ?_
        refine J_zald F 6 rfl (by omega) (Nat.le_of_ble_eq_true rfl) (dcq dc_X2_copyFrom_0 36 rfl) ?_
        refine J_zast F (ws2 := [oB 2 q [.int (nI P), .int (nI M), .int (nI R), .int (nI n), .ref qv, .ref qg, .ref qd], aI G qv 72 (upd va t (v t)), aZ G qg 72 (upd ga t (g t)), aI G qd 72 da, oB 2 q1 [.int (nI P), .int (nI M), .int (nI R), .int (nI n), .ref qv1, .ref qg1, .ref qd1], aI G qv1 72 v, aZ G qg1 72 g, aI G qd1 72 d]) 2 rfl (by omega) (Nat.le_of_ble_eq_true rfl) (hgb t (by omega)) rfl (dcq dc_X2_copyFrom_0 37 rfl) ?_
        refine J_aload_n F 0 (dcq dc_X2_copyFrom_0 38 rfl) rfl rfl ?_
        refine J_get F fcX2 0 6 rfl (Nat.le_of_ble_eq_true rfl) tw_1_44 rfl rfl (dcq dc_X2_copyFrom_0 39 rfl) ?_
        refine J_iload_n F 2 (dcq dc_X2_copyFrom_0 40 rfl) rfl rfl ?_
        refine J_aload_n F 1 (dcq dc_X2_copyFrom_0 41 rfl) rfl rfl ?_
        refine J_get F fcX2 4 6 rfl (Nat.le_of_ble_eq_true rfl) tw_1_44 rfl rfl (dcq dc_X2_copyFrom_0 42 rfl) ?_
        refine J_iload_n F 2 (dcq dc_X2_copyFrom_0 43 rfl) rfl rfl ?_
        refine J_iald F 7 rfl (by omega) (Nat.le_of_ble_eq_true rfl) (dcq dc_X2_copyFrom_0 44 rfl) ?_
        refine J_iast F (ws2 := [oB 2 q [.int (nI P), .int (nI M), .int (nI R), .int (nI n), .ref qv, .ref qg, .ref qd], aI G qv 72 (upd va t (v t)), aZ G qg 72 (upd ga t (g t)), aI G qd 72 (upd da t (d t)), oB 2 q1 [.int (nI P), .int (nI M), .int (nI R), .int (nI n), .ref qv1, .ref qg1, .ref qd1], aI G qv1 72 v, aZ G qg1 72 g, aI G qd1 72 d]) 3 rfl (by omega) (Nat.le_of_ble_eq_true rfl) rfl (dcq dc_X2_copyFrom_0 45 rfl) ?_
        refine J_iinc F (lv2 := [(2, .int (nI (t + 1))), (0, .ref q), (1, .ref q1)]) (v := nI (t + 1)) 2 (dcq dc_X2_copyFrom_0 46 rfl) rfl (nI_inc _) (Nat.le_of_ble_eq_true rfl) rfl ?_
        refine J_goto F 34 (dcq dc_X2_copyFrom_0 47 rfl) (by decide) ?_
        refine J_locs [1, 2, 0] rfl ?_
        exact ih34 (t + 1) (upd va t (v t)) (upd ga t (g t)) (upd da t (d t)) (by omega) (up_i iv rfl) (up_i ig rfl) (up_i id rfl) (by omega)
  refine J_locs [1, 2, 0] rfl ?_
  exact L34 (n - 0 + 1) 0 v0 g0 d0 (by omega) (fun j _ h => absurd h (Nat.not_lt_zero _)) (fun j _ h => absurd h (Nat.not_lt_zero _)) (fun j _ h => absurd h (Nat.not_lt_zero _)) (Nat.lt_succ_self _)

abbrev po_X2_addEntry (G : Gt) (q qv qg qd P M R n : Nat) (v g d : Nat → Int32) (x b : Int32) : Option Value → va_W → Prop := fun (v9 : Option Value) (w9 : va_W) => v9 = some (.int (nI n)) ∧ w9 = [oB 2 q [.int (nI P), .int (nI M), .int (nI R), .int (nI (n + 1)), .ref qv, .ref qg, .ref qd], aI G qv 72 (upd v n x), aZ G qg 72 (upd g n b), aI G qd 72 (upd d n (nI 20))]
set_option maxHeartbeats 4000000 in
set_option maxRecDepth 100000 in
theorem c_X2_addEntry (l : Launch) (hl : l.stackTraces = false) (G : Gt) (q qv qg qd P M R n : Nat) (v g d : Nat → Int32) (x b : Int32) (hn : n < 72) (hb : vp_nar .boolean b = b) : Con l G yX2_addEntry cX2_addEntry 4 (some .int) 0 0 0 0 [.ref q, .int x, .int b] [oB 2 q [.int (nI P), .int (nI M), .int (nI R), .int (nI n), .ref qv, .ref qg, .ref qd], aI G qv 72 v, aZ G qg 72 g, aI G qd 72 d] (po_X2_addEntry G q qv qg qd P M R n v g d x b) := by
  refine Con.of hl cd_X2_addEntry (Nat.le_of_ble_eq_true rfl) ?_
  intro p e s m args below meth c A F hin9
  change Fx p l s m args meth c G A "SeasonalAdjuster$Series" cX2_addEntry 4 (some .int) at F
  change J p l e (cRm 0 0 0 0) s m args below meth c G A 4 (JQ below G A (po_X2_addEntry G q qv qg qd P M R n v g d x b) args s 0 0) 0 0 0 [(0, .ref q), (1, .int x), (2, .int b)] [] [oB 2 q [.int (nI P), .int (nI M), .int (nI R), .int (nI n), .ref qv, .ref qg, .ref qd], aI G qv 72 v, aZ G qg 72 g, aI G qd 72 d]
  refine J_aload_n F 0 (dcq dc_X2_addEntry_0 0 rfl) rfl rfl ?_
  refine J_get F fcX2 0 3 rfl (Nat.le_of_ble_eq_true rfl) tw_1_36 rfl rfl (dcq dc_X2_addEntry_0 1 rfl) ?_
  refine J_istore_n F (lv2 := [(3, .int (nI n)), (0, .ref q), (1, .int x), (2, .int b)]) (dcq dc_X2_addEntry_0 2 rfl) rfl (Nat.le_of_ble_eq_true rfl) rfl ?_
  refine J_iload_n F 0 (dcq dc_X2_addEntry_0 3 rfl) rfl rfl ?_
  refine J_bipush F (dcq dc_X2_addEntry_0 4 rfl) bc_72 ?_
  refine J_ncmp_ge F 43 (by omega) (by omega) (dcq dc_X2_addEntry_0 5 rfl) (by decide) (fun h_1 => ?_) (fun h_1 => ?_)
  · exact absurd h_1 (by omega)
  · skip
    refine J_aload_n F 1 (dcq dc_X2_addEntry_0 6 rfl) rfl rfl ?_
    refine J_get F fcX2 0 4 rfl (Nat.le_of_ble_eq_true rfl) tw_1_39 rfl rfl (dcq dc_X2_addEntry_0 7 rfl) ?_
    refine J_iload_n F 0 (dcq dc_X2_addEntry_0 8 rfl) rfl rfl ?_
    refine J_iload_n F 2 (dcq dc_X2_addEntry_0 9 rfl) rfl rfl ?_
    refine J_iast F (ws2 := [oB 2 q [.int (nI P), .int (nI M), .int (nI R), .int (nI n), .ref qv, .ref qg, .ref qd], aI G qv 72 (upd v n x), aZ G qg 72 g, aI G qd 72 d]) 1 rfl (by omega) (Nat.le_of_ble_eq_true rfl) rfl (dcq dc_X2_addEntry_0 10 rfl) ?_
    refine J_aload_n F 1 (dcq dc_X2_addEntry_0 11 rfl) rfl rfl ?_
    refine J_get F fcX2 0 5 rfl (Nat.le_of_ble_eq_true rfl) tw_1_42 rfl rfl (dcq dc_X2_addEntry_0 12 rfl) ?_
    refine J_iload_n F 0 (dcq dc_X2_addEntry_0 13 rfl) rfl rfl ?_
    refine J_iload_n F 3 (dcq dc_X2_addEntry_0 14 rfl) rfl rfl ?_
    refine J_zast F (ws2 := [oB 2 q [.int (nI P), .int (nI M), .int (nI R), .int (nI n), .ref qv, .ref qg, .ref qd], aI G qv 72 (upd v n x), aZ G qg 72 (upd g n b), aI G qd 72 d]) 2 rfl (by omega) (Nat.le_of_ble_eq_true rfl) (hb) rfl (dcq dc_X2_addEntry_0 15 rfl) ?_
    refine J_aload_n F 1 (dcq dc_X2_addEntry_0 16 rfl) rfl rfl ?_
    refine J_get F fcX2 0 6 rfl (Nat.le_of_ble_eq_true rfl) tw_1_44 rfl rfl (dcq dc_X2_addEntry_0 17 rfl) ?_
    refine J_iload_n F 0 (dcq dc_X2_addEntry_0 18 rfl) rfl rfl ?_
    refine J_bipush F (dcq dc_X2_addEntry_0 19 rfl) bc_20 ?_
    refine J_iast F (ws2 := [oB 2 q [.int (nI P), .int (nI M), .int (nI R), .int (nI n), .ref qv, .ref qg, .ref qd], aI G qv 72 (upd v n x), aZ G qg 72 (upd g n b), aI G qd 72 (upd d n (nI 20))]) 3 rfl (by omega) (Nat.le_of_ble_eq_true rfl) rfl (dcq dc_X2_addEntry_0 20 rfl) ?_
    refine J_aload_n F 1 (dcq dc_X2_addEntry_0 21 rfl) rfl rfl ?_
    refine J_dup F (dcq dc_X2_addEntry_0 22 rfl) rfl ?_
    refine J_get F fcX2 0 3 rfl (Nat.le_of_ble_eq_true rfl) tw_1_36 rfl rfl (dcq dc_X2_addEntry_0 23 rfl) ?_
    refine J_iconst F (dcq dc_X2_addEntry_0 24 rfl) ic_1 ?_
    refine J_iadd F (v := nI (n + 1)) (dcq dc_X2_addEntry_0 25 rfl) (nI_add _ _) ?_
    refine J_put F (ws2 := [oB 2 q [.int (nI P), .int (nI M), .int (nI R), .int (nI (n + 1)), .ref qv, .ref qg, .ref qd], aI G qv 72 (upd v n x), aZ G qg 72 (upd g n b), aI G qd 72 (upd d n (nI 20))]) fcX2 0 3 rfl (Nat.le_of_ble_eq_true rfl) tw_1_36 rfl rfl rfl rfl (Nat.le_of_ble_eq_true rfl) rfl (dcq dc_X2_addEntry_0 26 rfl) ?_
    refine J_iload_n F 0 (dcq dc_X2_addEntry_0 27 rfl) rfl rfl ?_
    exact J_iret F ⟨rfl, rfl⟩ (Nat.le_of_ble_eq_true rfl) (Nat.le_of_ble_eq_true rfl) (dcq dc_X2_addEntry_0 28 rfl)

abbrev po_X2_leastValue (G : Gt) (q qv qg qd P M R n : Nat) (v g d : Nat → Int32) : Option Value → va_W → Prop := fun (v9 : Option Value) (w9 : va_W) => ∃ (r : Int32), v9 = some (.int r) ∧ w9 = [oB 2 q [.int (nI P), .int (nI M), .int (nI R), .int (nI n), .ref qv, .ref qg, .ref qd], aI G qv 72 v, aZ G qg 72 g, aI G qd 72 d] ∧ (r = if M = 1 then nI 1 else -1000000)
set_option maxHeartbeats 4000000 in
set_option maxRecDepth 100000 in
theorem c_X2_leastValue (l : Launch) (hl : l.stackTraces = false) (G : Gt) (q qv qg qd P M R n : Nat) (v g d : Nat → Int32) (hM : M ≤ 1) : Con l G yX2_leastValue cX2_leastValue 1 (some .int) 0 0 0 0 [.ref q] [oB 2 q [.int (nI P), .int (nI M), .int (nI R), .int (nI n), .ref qv, .ref qg, .ref qd], aI G qv 72 v, aZ G qg 72 g, aI G qd 72 d] (po_X2_leastValue G q qv qg qd P M R n v g d) := by
  refine Con.of hl cd_X2_leastValue (Nat.le_of_ble_eq_true rfl) ?_
  intro p e s m args below meth c A F hin9
  change Fx p l s m args meth c G A "SeasonalAdjuster$Series" cX2_leastValue 1 (some .int) at F
  change J p l e (cRm 0 0 0 0) s m args below meth c G A 1 (JQ below G A (po_X2_leastValue G q qv qg qd P M R n v g d) args s 0 0) 0 0 0 [(0, .ref q)] [] [oB 2 q [.int (nI P), .int (nI M), .int (nI R), .int (nI n), .ref qv, .ref qg, .ref qd], aI G qv 72 v, aZ G qg 72 g, aI G qd 72 d]
  refine J_aload_n F 0 (dcq dc_X2_leastValue_0 0 rfl) rfl rfl ?_
  refine J_get F fcX2 0 1 rfl (Nat.le_of_ble_eq_true rfl) tw_1_30 rfl rfl (dcq dc_X2_leastValue_0 1 rfl) ?_
  refine J_iconst F (dcq dc_X2_leastValue_0 2 rfl) ic_1 ?_
  refine J_ncmp_ne F 12 (by omega) (by omega) (dcq dc_X2_leastValue_0 3 rfl) (by decide) (fun h_1 => ?_) (fun h_1 => ?_)
  · skip
    have hm := h_1
    refine J_ldc F (v2 := (-1000000)) tw_2_192 dc_m1000000 (dcq dc_X2_leastValue_0 6 rfl) ?_
    exact J_iret F ⟨(-1000000), rfl, rfl, by first | exact (if_pos hm).symm | exact (if_neg hm).symm⟩ (Nat.le_of_ble_eq_true rfl) (Nat.le_of_ble_eq_true rfl) (dcq dc_X2_leastValue_0 7 rfl)
  · skip
    have hm := h_1
    refine J_iconst F (dcq dc_X2_leastValue_0 4 rfl) ic_1 ?_
    refine J_goto F 14 (dcq dc_X2_leastValue_0 5 rfl) (by decide) ?_
    exact J_iret F ⟨nI 1, rfl, rfl, by first | exact (if_pos hm).symm | exact (if_neg hm).symm⟩ (Nat.le_of_ble_eq_true rfl) (Nat.le_of_ble_eq_true rfl) (dcq dc_X2_leastValue_0 7 rfl)

abbrev po_X2_seasonOf (G : Gt) (q qv qg qd P M R n : Nat) (t : Nat) : Option Value → va_W → Prop := fun (v9 : Option Value) (w9 : va_W) => v9 = some (.int (nI (t % P))) ∧ w9 = [oB 2 q [.int (nI P), .int (nI M), .int (nI R), .int (nI n), .ref qv, .ref qg, .ref qd]]
set_option maxHeartbeats 4000000 in
set_option maxRecDepth 100000 in
theorem c_X2_seasonOf (l : Launch) (hl : l.stackTraces = false) (G : Gt) (q qv qg qd P M R n : Nat) (t : Nat) (hP : 0 < P) (hP12 : P ≤ 12) (ht : t < 1000) : Con l G yX2_seasonOf cX2_seasonOf 2 (some .int) 0 0 0 0 [.ref q, .int (nI t)] [oB 2 q [.int (nI P), .int (nI M), .int (nI R), .int (nI n), .ref qv, .ref qg, .ref qd]] (po_X2_seasonOf G q qv qg qd P M R n t) := by
  refine Con.of hl cd_X2_seasonOf (Nat.le_of_ble_eq_true rfl) ?_
  intro p e s m args below meth c A F hin9
  change Fx p l s m args meth c G A "SeasonalAdjuster$Series" cX2_seasonOf 2 (some .int) at F
  change J p l e (cRm 0 0 0 0) s m args below meth c G A 2 (JQ below G A (po_X2_seasonOf G q qv qg qd P M R n t) args s 0 0) 0 0 0 [(0, .ref q), (1, .int (nI t))] [] [oB 2 q [.int (nI P), .int (nI M), .int (nI R), .int (nI n), .ref qv, .ref qg, .ref qd]]
  refine J_aload_n F 0 (dcq dc_X2_seasonOf_0 0 rfl) rfl rfl ?_
  refine J_get F fcX2 0 0 rfl (Nat.le_of_ble_eq_true rfl) tw_1_27 rfl rfl (dcq dc_X2_seasonOf_0 1 rfl) ?_
  refine J_nif_le F 16 (by omega) (dcq dc_X2_seasonOf_0 2 rfl) (by decide) (fun h_1 => ?_) (fun h_1 => ?_)
  · exact absurd h_1 (by omega)
  · skip
    refine J_iload_n F 1 (dcq dc_X2_seasonOf_0 3 rfl) rfl rfl ?_
    refine J_aload_n F 0 (dcq dc_X2_seasonOf_0 4 rfl) rfl rfl ?_
    refine J_get F fcX2 0 0 rfl (Nat.le_of_ble_eq_true rfl) tw_1_27 rfl rfl (dcq dc_X2_seasonOf_0 5 rfl) ?_
    refine J_irem F (v := nI (t % P)) (dcq dc_X2_seasonOf_0 6 rfl) (nI_ne0 (by omega) (by omega)) (pk_rem (by omega) (by omega) (by omega)) ?_
    refine J_goto F 17 (dcq dc_X2_seasonOf_0 7 rfl) (by decide) ?_
    exact J_iret F ⟨rfl, rfl⟩ (Nat.le_of_ble_eq_true rfl) (Nat.le_of_ble_eq_true rfl) (dcq dc_X2_seasonOf_0 9 rfl)

abbrev po_X2_half (G : Gt) (q qv qg qd P M R n : Nat) : Option Value → va_W → Prop := fun (v9 : Option Value) (w9 : va_W) => v9 = some (.int (nI (P / 2))) ∧ w9 = [oB 2 q [.int (nI P), .int (nI M), .int (nI R), .int (nI n), .ref qv, .ref qg, .ref qd]]
set_option maxHeartbeats 4000000 in
set_option maxRecDepth 100000 in
theorem c_X2_half (l : Launch) (hl : l.stackTraces = false) (G : Gt) (q qv qg qd P M R n : Nat) (hP : P ≤ 12) : Con l G yX2_half cX2_half 1 (some .int) 0 0 0 0 [.ref q] [oB 2 q [.int (nI P), .int (nI M), .int (nI R), .int (nI n), .ref qv, .ref qg, .ref qd]] (po_X2_half G q qv qg qd P M R n) := by
  refine Con.of hl cd_X2_half (Nat.le_of_ble_eq_true rfl) ?_
  intro p e s m args below meth c A F hin9
  change Fx p l s m args meth c G A "SeasonalAdjuster$Series" cX2_half 1 (some .int) at F
  change J p l e (cRm 0 0 0 0) s m args below meth c G A 1 (JQ below G A (po_X2_half G q qv qg qd P M R n) args s 0 0) 0 0 0 [(0, .ref q)] [] [oB 2 q [.int (nI P), .int (nI M), .int (nI R), .int (nI n), .ref qv, .ref qg, .ref qd]]
  refine J_aload_n F 0 (dcq dc_X2_half_0 0 rfl) rfl rfl ?_
  refine J_get F fcX2 0 0 rfl (Nat.le_of_ble_eq_true rfl) tw_1_27 rfl rfl (dcq dc_X2_half_0 1 rfl) ?_
  refine J_iconst F (dcq dc_X2_half_0 2 rfl) ic_2 ?_
  refine J_idiv F (v := nI (P / 2)) (dcq dc_X2_half_0 3 rfl) (nI_ne0 (by omega) (by omega)) (pk_div (by omega) (by omega) (by omega)) ?_
  exact J_iret F ⟨rfl, rfl⟩ (Nat.le_of_ble_eq_true rfl) (Nat.le_of_ble_eq_true rfl) (dcq dc_X2_half_0 4 rfl)

abbrev po_X2_hasValueBelowOne (G : Gt) (q qv qg qd P M R n : Nat) (v g d : Nat → Int32) : Option Value → va_W → Prop := fun (v9 : Option Value) (w9 : va_W) => ∃ (r : Nat), v9 = some (.int (nI r)) ∧ w9 = [oB 2 q [.int (nI P), .int (nI M), .int (nI R), .int (nI n), .ref qv, .ref qg, .ref qd], aI G qv 72 v, aZ G qg 72 g, aI G qd 72 d] ∧ (r ≤ 1) ∧ (r = 1 ↔ low n v g)
set_option maxHeartbeats 4000000 in
set_option maxRecDepth 100000 in
theorem c_X2_hasValueBelowOne (l : Launch) (hl : l.stackTraces = false) (G : Gt) (q qv qg qd P M R n : Nat) (v g d : Nat → Int32) (hn : n ≤ 72) : Con l G yX2_hasValueBelowOne cX2_hasValueBelowOne 2 (some .boolean) 0 0 0 0 [.ref q] [oB 2 q [.int (nI P), .int (nI M), .int (nI R), .int (nI n), .ref qv, .ref qg, .ref qd], aI G qv 72 v, aZ G qg 72 g, aI G qd 72 d] (po_X2_hasValueBelowOne G q qv qg qd P M R n v g d) := by
  refine Con.of hl cd_X2_hasValueBelowOne (Nat.le_of_ble_eq_true rfl) ?_
  intro p e s m args below meth c A F hin9
  change Fx p l s m args meth c G A "SeasonalAdjuster$Series" cX2_hasValueBelowOne 2 (some .boolean) at F
  change J p l e (cRm 0 0 0 0) s m args below meth c G A 2 (JQ below G A (po_X2_hasValueBelowOne G q qv qg qd P M R n v g d) args s 0 0) 0 0 0 [(0, .ref q)] [] [oB 2 q [.int (nI P), .int (nI M), .int (nI R), .int (nI n), .ref qv, .ref qg, .ref qd], aI G qv 72 v, aZ G qg 72 g, aI G qd 72 d]
  refine J_iconst F (dcq dc_X2_hasValueBelowOne_0 0 rfl) ic_0 ?_
  refine J_istore_n F (lv2 := [(1, .int (nI 0)), (0, .ref q)]) (dcq dc_X2_hasValueBelowOne_0 1 rfl) rfl (Nat.le_of_ble_eq_true rfl) rfl ?_
  have L2 : ∀ (fu2 : Nat), ∀ (t : Nat), (t ≤ n) → (∀ j, j < t → ¬ (g j = 0 ∧ ¬ nI 1 ≤ v j)) → n - t < fu2 → J p l e (cRm 0 0 0 0) s m args below meth c G A 2 (JQ below G A (po_X2_hasValueBelowOne G q qv qg qd P M R n v g d) args s 0 0) 0 0 2 [(0, .ref q), (1, .int (nI t))] [] [oB 2 q [.int (nI P), .int (nI M), .int (nI R), .int (nI n), .ref qv, .ref qg, .ref qd], aI G qv 72 v, aZ G qg 72 g, aI G qd 72 d] := by
    intro fu2
    induction fu2 with
    | zero => intro t ht iv hm2; exact absurd hm2 (Nat.not_lt_zero _)
    | succ fu2 ih2 =>
      intro t ht iv hm2
      refine J_iload_n F 1 (dcq dc_X2_hasValueBelowOne_0 2 rfl) rfl rfl ?_
      refine J_aload_n F 0 (dcq dc_X2_hasValueBelowOne_0 3 rfl) rfl rfl ?_
      refine J_get F fcX2 0 3 rfl (Nat.le_of_ble_eq_true rfl) tw_1_36 rfl rfl (dcq dc_X2_hasValueBelowOne_0 4 rfl) ?_
      refine J_ncmp_ge F 37 (by omega) (by omega) (dcq dc_X2_hasValueBelowOne_0 5 rfl) (by decide) (fun h_1 => ?_) (fun h_1 => ?_)
      · skip
        refine J_iconst F (dcq dc_X2_hasValueBelowOne_0 21 rfl) ic_0 ?_
        exact J_zret F (by decide) ⟨0, rfl, rfl, by omega, ⟨fun h => absurd h (by decide), fun ⟨j, h1, h2, h3⟩ => absurd ⟨h2, h3⟩ (iv j (by omega))⟩⟩ (Nat.le_of_ble_eq_true rfl) (Nat.le_of_ble_eq_true rfl) (dcq dc_X2_hasValueBelowOne_0 22 rfl)
      · skip
        refine J_aload_n F 0 (dcq dc_X2_hasValueBelowOne_0 6 rfl) rfl rfl ?_
        refine J_get F fcX2 0 5 rfl (Nat.le_of_ble_eq_true rfl) tw_1_42 rfl rfl (dcq dc_X2_hasValueBelowOne_0 7 rfl) ?_
        refine J_iload_n F 1 (dcq dc_X2_hasValueBelowOne_0 8 rfl) rfl rfl ?_
        refine J_zald F 2 rfl (by omega) (Nat.le_of_ble_eq_true rfl) (dcq dc_X2_hasValueBelowOne_0 9 rfl) ?_
        refine J_if_ne F 31 (dcq dc_X2_hasValueBelowOne_0 10 rfl) (by decide) (fun h_2 => ?_) (fun h_2 => ?_)
        · skip
          have hg := h_2
          refine J_iinc F (lv2 := [(1, .int (nI (t + 1))), (0, .ref q)]) (v := nI (t + 1)) 1 (dcq dc_X2_hasValueBelowOne_0 19 rfl) rfl (nI_inc _) (Nat.le_of_ble_eq_true rfl) rfl ?_
          refine J_goto F 2 (dcq dc_X2_hasValueBelowOne_0 20 rfl) (by decide) ?_
          refine J_locs [1, 0] rfl ?_
          exact ih2 (t + 1) (by omega) (lt_s iv (fun z => by first | exact hg z.1 | exact z.2 hv)) (by omega)
        · skip
          have hg := h_2
          refine J_aload_n F 0 (dcq dc_X2_hasValueBelowOne_0 11 rfl) rfl rfl ?_
          refine J_get F fcX2 0 4 rfl (Nat.le_of_ble_eq_true rfl) tw_1_39 rfl rfl (dcq dc_X2_hasValueBelowOne_0 12 rfl) ?_
          refine J_iload_n F 1 (dcq dc_X2_hasValueBelowOne_0 13 rfl) rfl rfl ?_
          refine J_iald F 1 rfl (by omega) (Nat.le_of_ble_eq_true rfl) (dcq dc_X2_hasValueBelowOne_0 14 rfl) ?_
          refine J_iconst F (dcq dc_X2_hasValueBelowOne_0 15 rfl) ic_1 ?_
          refine J_icmp_ge F 31 (dcq dc_X2_hasValueBelowOne_0 16 rfl) (by decide) (fun h_3 => ?_) (fun h_3 => ?_)
          · skip
            have hv := h_3
            refine J_iinc F (lv2 := [(1, .int (nI (t + 1))), (0, .ref q)]) (v := nI (t + 1)) 1 (dcq dc_X2_hasValueBelowOne_0 19 rfl) rfl (nI_inc _) (Nat.le_of_ble_eq_true rfl) rfl ?_
            refine J_goto F 2 (dcq dc_X2_hasValueBelowOne_0 20 rfl) (by decide) ?_
            refine J_locs [1, 0] rfl ?_
            exact ih2 (t + 1) (by omega) (lt_s iv (fun z => by first | exact hg z.1 | exact z.2 hv)) (by omega)
          · skip
            have hv := h_3
            refine J_iconst F (dcq dc_X2_hasValueBelowOne_0 17 rfl) ic_1 ?_
            exact J_zret F (by decide) ⟨1, rfl, rfl, by omega, ⟨fun _ => ⟨t, by omega, hg, hv⟩, fun _ => rfl⟩⟩ (Nat.le_of_ble_eq_true rfl) (Nat.le_of_ble_eq_true rfl) (dcq dc_X2_hasValueBelowOne_0 18 rfl)
  refine J_locs [1, 0] rfl ?_
  exact L2 (n - 0 + 1) 0 (by omega) (fun j h => absurd h (Nat.not_lt_zero _)) (Nat.lt_succ_self _)

abbrev po_X2_countGaps (G : Gt) (q qv qg qd P M R n : Nat) (v g d : Nat → Int32) : Option Value → va_W → Prop := fun (v9 : Option Value) (w9 : va_W) => ∃ (r : Nat), v9 = some (.int (nI r)) ∧ w9 = [oB 2 q [.int (nI P), .int (nI M), .int (nI R), .int (nI n), .ref qv, .ref qg, .ref qd], aI G qv 72 v, aZ G qg 72 g, aI G qd 72 d] ∧ (r = cg g n)
set_option maxHeartbeats 4000000 in
set_option maxRecDepth 100000 in
theorem c_X2_countGaps (l : Launch) (hl : l.stackTraces = false) (G : Gt) (q qv qg qd P M R n : Nat) (v g d : Nat → Int32) (hn : n ≤ 72) : Con l G yX2_countGaps cX2_countGaps 3 (some .int) 0 0 0 0 [.ref q] [oB 2 q [.int (nI P), .int (nI M), .int (nI R), .int (nI n), .ref qv, .ref qg, .ref qd], aI G qv 72 v, aZ G qg 72 g, aI G qd 72 d] (po_X2_countGaps G q qv qg qd P M R n v g d) := by
  refine Con.of hl cd_X2_countGaps (Nat.le_of_ble_eq_true rfl) ?_
  intro p e s m args below meth c A F hin9
  change Fx p l s m args meth c G A "SeasonalAdjuster$Series" cX2_countGaps 3 (some .int) at F
  change J p l e (cRm 0 0 0 0) s m args below meth c G A 3 (JQ below G A (po_X2_countGaps G q qv qg qd P M R n v g d) args s 0 0) 0 0 0 [(0, .ref q)] [] [oB 2 q [.int (nI P), .int (nI M), .int (nI R), .int (nI n), .ref qv, .ref qg, .ref qd], aI G qv 72 v, aZ G qg 72 g, aI G qd 72 d]
  refine J_iconst F (dcq dc_X2_countGaps_0 0 rfl) ic_0 ?_
  refine J_istore_n F (lv2 := [(1, .int (nI 0)), (0, .ref q)]) (dcq dc_X2_countGaps_0 1 rfl) rfl (Nat.le_of_ble_eq_true rfl) rfl ?_
  refine J_iconst F (dcq dc_X2_countGaps_0 2 rfl) ic_0 ?_
  refine J_istore_n F (lv2 := [(2, .int (nI 0)), (1, .int (nI 0)), (0, .ref q)]) (dcq dc_X2_countGaps_0 3 rfl) rfl (Nat.le_of_ble_eq_true rfl) rfl ?_
  have L4 : ∀ (fu4 : Nat), ∀ (t k : Nat), (t ≤ n) → (k = cg g t) → (k ≤ t) → n - t < fu4 → J p l e (cRm 0 0 0 0) s m args below meth c G A 3 (JQ below G A (po_X2_countGaps G q qv qg qd P M R n v g d) args s 0 0) 0 0 4 [(0, .ref q), (1, .int (nI k)), (2, .int (nI t))] [] [oB 2 q [.int (nI P), .int (nI M), .int (nI R), .int (nI n), .ref qv, .ref qg, .ref qd], aI G qv 72 v, aZ G qg 72 g, aI G qd 72 d] := by
    intro fu4
    induction fu4 with
    | zero => intro t k ht hk hk2 hm4; exact absurd hm4 (Nat.not_lt_zero _)
    | succ fu4 ih4 =>
      intro t k ht hk hk2 hm4
      have hcg := cg_le g t
      refine J_iload_n F 2 (dcq dc_X2_countGaps_0 4 rfl) rfl rfl ?_
      refine J_aload_n F 0 (dcq dc_X2_countGaps_0 5 rfl) rfl rfl ?_
      refine J_get F fcX2 0 3 rfl (Nat.le_of_ble_eq_true rfl) tw_1_36 rfl rfl (dcq dc_X2_countGaps_0 6 rfl) ?_
      refine J_ncmp_ge F 30 (by omega) (by omega) (dcq dc_X2_countGaps_0 7 rfl) (by decide) (fun h_1 => ?_) (fun h_1 => ?_)
      · skip
        refine J_iload_n F 1 (dcq dc_X2_countGaps_0 16 rfl) rfl rfl ?_
        exact J_iret F ⟨k, rfl, rfl, by rw [hk, show t = n by omega]⟩ (Nat.le_of_ble_eq_true rfl) (Nat.le_of_ble_eq_true rfl) (dcq dc_X2_countGaps_0 17 rfl)
      · skip
        refine J_aload_n F 0 (dcq dc_X2_countGaps_0 8 rfl) rfl rfl ?_
        refine J_get F fcX2 0 5 rfl (Nat.le_of_ble_eq_true rfl) tw_1_42 rfl rfl (dcq dc_X2_countGaps_0 9 rfl) ?_
        refine J_iload_n F 2 (dcq dc_X2_countGaps_0 10 rfl) rfl rfl ?_
        refine J_zald F 2 rfl (by omega) (Nat.le_of_ble_eq_true rfl) (dcq dc_X2_countGaps_0 11 rfl) ?_
        refine J_if_eq F 24 (dcq dc_X2_countGaps_0 12 rfl) (by decide) (fun h_2 => ?_) (fun h_2 => ?_)
        · skip
          refine J_iinc F (lv2 := [(2, .int (nI (t + 1))), (0, .ref q), (1, .int (nI k))]) (v := nI (t + 1)) 2 (dcq dc_X2_countGaps_0 14 rfl) rfl (nI_inc _) (Nat.le_of_ble_eq_true rfl) rfl ?_
          refine J_goto F 4 (dcq dc_X2_countGaps_0 15 rfl) (by decide) ?_
          refine J_locs [1, 2, 0] rfl ?_
          exact ih4 (t + 1) k (by omega) (by simp only [cg]; split <;> first | omega | contradiction) (by omega) (by omega)
        · skip
          refine J_iinc F (lv2 := [(1, .int (nI (k + 1))), (0, .ref q), (2, .int (nI t))]) (v := nI (k + 1)) 1 (dcq dc_X2_countGaps_0 13 rfl) rfl (nI_inc _) (Nat.le_of_ble_eq_true rfl) rfl ?_
          refine J_iinc F (lv2 := [(2, .int (nI (t + 1))), (1, .int (nI (k + 1))), (0, .ref q)]) (v := nI (t + 1)) 2 (dcq dc_X2_countGaps_0 14 rfl) rfl (nI_inc _) (Nat.le_of_ble_eq_true rfl) rfl ?_
          refine J_goto F 4 (dcq dc_X2_countGaps_0 15 rfl) (by decide) ?_
          refine J_locs [2, 1, 0] rfl ?_
          exact ih4 (t + 1) (k + 1) (by omega) (by simp only [cg]; split <;> first | omega | contradiction) (by omega) (by omega)
  refine J_locs [2, 1, 0] rfl ?_
  exact L4 (n - 0 + 1) 0 0 (by omega) (rfl) (by omega) (Nat.lt_succ_self _)

abbrev po_X2_isDecomposable (G : Gt) (q qv qg qd P M R n : Nat) (v g d : Nat → Int32) : Option Value → va_W → Prop := fun (v9 : Option Value) (w9 : va_W) => ∃ (r : Nat), v9 = some (.int (nI r)) ∧ w9 = [oB 2 q [.int (nI P), .int (nI M), .int (nI R), .int (nI n), .ref qv, .ref qg, .ref qd], aI G qv 72 v, aZ G qg 72 g, aI G qd 72 d] ∧ (r ≤ 1) ∧ (r = 1 ↔ dcm P n g)
set_option maxHeartbeats 4000000 in
set_option maxRecDepth 100000 in
theorem c_X2_isDecomposable (l : Launch) (hl : l.stackTraces = false) (G : Gt) (q qv qg qd P M R n : Nat) (v g d : Nat → Int32) (hn : n ≤ 72) (hP : P ≤ 12) : Con l G yX2_isDecomposable cX2_isDecomposable 1 (some .boolean) 1 22 0 0 [.ref q] [oB 2 q [.int (nI P), .int (nI M), .int (nI R), .int (nI n), .ref qv, .ref qg, .ref qd], aI G qv 72 v, aZ G qg 72 g, aI G qd 72 d] (po_X2_isDecomposable G q qv qg qd P M R n v g d) := by
  refine Con.of hl cd_X2_isDecomposable (Nat.le_of_ble_eq_true rfl) ?_
  intro p e s m args below meth c A F hin9
  change Fx p l s m args meth c G A "SeasonalAdjuster$Series" cX2_isDecomposable 1 (some .boolean) at F
  change J p l e (cRm 1 22 0 0) s m args below meth c G A 1 (JQ below G A (po_X2_isDecomposable G q qv qg qd P M R n v g d) args s 0 0) 0 0 0 [(0, .ref q)] [] [oB 2 q [.int (nI P), .int (nI M), .int (nI R), .int (nI n), .ref qv, .ref qg, .ref qd], aI G qv 72 v, aZ G qg 72 g, aI G qd 72 d]
  refine J_aload_n F 0 (dcq dc_X2_isDecomposable_0 0 rfl) rfl rfl ?_
  refine J_get F fcX2 0 3 rfl (Nat.le_of_ble_eq_true rfl) tw_1_36 rfl rfl (dcq dc_X2_isDecomposable_0 1 rfl) ?_
  refine J_iconst F (dcq dc_X2_isDecomposable_0 2 rfl) ic_5 ?_
  refine J_ncmp_lt F 37 (by omega) (by omega) (dcq dc_X2_isDecomposable_0 3 rfl) (by decide) (fun h_1 => ?_) (fun h_1 => ?_)
  · skip
    have h5 := h_1
    refine J_iconst F (dcq dc_X2_isDecomposable_0 19 rfl) ic_0 ?_
    exact J_zret F (by decide) ⟨0, rfl, rfl, by omega, by unfold dcm; constructor <;> intro h <;> omega⟩ (Nat.le_of_ble_eq_true rfl) (Nat.le_of_ble_eq_true rfl) (dcq dc_X2_isDecomposable_0 20 rfl)
  · skip
    have h5 := h_1
    refine J_aload_n F 0 (dcq dc_X2_isDecomposable_0 4 rfl) rfl rfl ?_
    refine J_get F fcX2 0 3 rfl (Nat.le_of_ble_eq_true rfl) tw_1_36 rfl rfl (dcq dc_X2_isDecomposable_0 5 rfl) ?_
    refine J_aload_n F 0 (dcq dc_X2_isDecomposable_0 6 rfl) rfl rfl ?_
    refine J_get F fcX2 0 0 rfl (Nat.le_of_ble_eq_true rfl) tw_1_27 rfl rfl (dcq dc_X2_isDecomposable_0 7 rfl) ?_
    refine J_iconst F (dcq dc_X2_isDecomposable_0 8 rfl) ic_2 ?_
    refine J_aload_n F 0 (dcq dc_X2_isDecomposable_0 9 rfl) rfl rfl ?_
    refine J_callV F (wc := [oB 2 q [.int (nI P), .int (nI M), .int (nI R), .int (nI n), .ref qv, .ref qg, .ref qd]]) (wr := [aI G qv 72 v, aZ G qg 72 g, aI G qd 72 d]) (rest := [.int (nI 2), .int (nI P), .int (nI n)]) (qc := 0) (c_X2_half l hl G q qv qg qd P M R n (by first | assumption | omega)) cd_X2_half cv_X2_half rfl rfl rfl tw_1_171 [0] [1, 2, 3] rfl rfl rfl rfl (by decide) rfl ⟨(Nat.le_of_ble_eq_true rfl), (Nat.le_of_ble_eq_true rfl), (Nat.le_of_ble_eq_true rfl), (Nat.le_of_ble_eq_true rfl)⟩ (Nat.le_of_ble_eq_true rfl) rfl (dcq dc_X2_isDecomposable_0 10 rfl) ?_
    rintro _ _ ⟨rfl, rfl⟩
    change J p l e (cRm 1 22 0 0) s m args below meth c G A 1 (JQ below G A (po_X2_isDecomposable G q qv qg qd P M R n v g d) args s 0 0) 0 0 21 [(0, .ref q)] [.int (nI (P / 2)), .int (nI 2), .int (nI P), .int (nI n)] [aI G qv 72 v, aZ G qg 72 g, aI G qd 72 d, oB 2 q [.int (nI P), .int (nI M), .int (nI R), .int (nI n), .ref qv, .ref qg, .ref qd]]
    refine J_world (ws2 := [oB 2 q [.int (nI P), .int (nI M), .int (nI R), .int (nI n), .ref qv, .ref qg, .ref qd], aI G qv 72 v, aZ G qg 72 g, aI G qd 72 d]) [3, 0, 1, 2] rfl rfl ?_
    refine J_imul F (v := nI (2 * (P / 2))) (dcq dc_X2_isDecomposable_0 11 rfl) (pk_mul _ _) ?_
    refine J_iadd F (v := nI (P + (2 * (P / 2)))) (dcq dc_X2_isDecomposable_0 12 rfl) (nI_add _ _) ?_
    refine J_ncmp_lt F 37 (by omega) (by omega) (dcq dc_X2_isDecomposable_0 13 rfl) (by decide) (fun h_2 => ?_) (fun h_2 => ?_)
    · skip
      have h6 := h_2
      refine J_iconst F (dcq dc_X2_isDecomposable_0 19 rfl) ic_0 ?_
      exact J_zret F (by decide) ⟨0, rfl, rfl, by omega, by unfold dcm; constructor <;> intro h <;> omega⟩ (Nat.le_of_ble_eq_true rfl) (Nat.le_of_ble_eq_true rfl) (dcq dc_X2_isDecomposable_0 20 rfl)
    · skip
      have h6 := h_2
      refine J_aload_n F 0 (dcq dc_X2_isDecomposable_0 14 rfl) rfl rfl ?_
      refine J_callV F (wc := [oB 2 q [.int (nI P), .int (nI M), .int (nI R), .int (nI n), .ref qv, .ref qg, .ref qd], aI G qv 72 v, aZ G qg 72 g, aI G qd 72 d]) (wr := []) (rest := []) (qc := 0) (c_X2_countGaps l hl G q qv qg qd P M R n v g d (by first | assumption | omega)) cd_X2_countGaps cv_X2_countGaps rfl rfl rfl tw_1_175 [0, 1, 2, 3] [] rfl rfl rfl rfl (by decide) rfl ⟨(Nat.le_of_ble_eq_true rfl), (Nat.le_of_ble_eq_true rfl), (Nat.le_of_ble_eq_true rfl), (Nat.le_of_ble_eq_true rfl)⟩ (Nat.le_of_ble_eq_true rfl) rfl (dcq dc_X2_isDecomposable_0 15 rfl) ?_
      rintro _ _ ⟨k, rfl, rfl, hk⟩
      change J p l e (cRm 1 22 0 0) s m args below meth c G A 1 (JQ below G A (po_X2_isDecomposable G q qv qg qd P M R n v g d) args s 0 0) 0 0 30 [(0, .ref q)] [.int (nI k)] [oB 2 q [.int (nI P), .int (nI M), .int (nI R), .int (nI n), .ref qv, .ref qg, .ref qd], aI G qv 72 v, aZ G qg 72 g, aI G qd 72 d]
      have hk : k = cg g n := hk
      have hkl := cg_le g n
      refine J_nif_ne F 37 (by omega) (dcq dc_X2_isDecomposable_0 16 rfl) (by decide) (fun h_3 => ?_) (fun h_3 => ?_)
      · skip
        have h7 := h_3
        refine J_iconst F (dcq dc_X2_isDecomposable_0 19 rfl) ic_0 ?_
        exact J_zret F (by decide) ⟨0, rfl, rfl, by omega, by unfold dcm; constructor <;> intro h <;> omega⟩ (Nat.le_of_ble_eq_true rfl) (Nat.le_of_ble_eq_true rfl) (dcq dc_X2_isDecomposable_0 20 rfl)
      · skip
        have h7 := h_3
        refine J_iconst F (dcq dc_X2_isDecomposable_0 17 rfl) ic_1 ?_
        refine J_goto F 38 (dcq dc_X2_isDecomposable_0 18 rfl) (by decide) ?_
        exact J_zret F (by decide) ⟨1, rfl, rfl, by omega, by unfold dcm; constructor <;> intro h <;> omega⟩ (Nat.le_of_ble_eq_true rfl) (Nat.le_of_ble_eq_true rfl) (dcq dc_X2_isDecomposable_0 20 rfl)

abbrev po_X2_neighbour_d (G : Gt) (q qv qg qd P M R n : Nat) (v g d : Nat → Int32) (t : Nat) : Option Value → va_W → Prop := fun (v9 : Option Value) (w9 : va_W) => ∃ (r : Int32), v9 = some (.int r) ∧ w9 = [oB 2 q [.int (nI P), .int (nI M), .int (nI R), .int (nI n), .ref qv, .ref qg, .ref qd], aI G qv 72 v, aZ G qg 72 g, aI G qd 72 d] ∧ (r = oI (dnb P g t))
set_option maxHeartbeats 4000000 in
set_option maxRecDepth 100000 in
theorem c_X2_neighbour_d (l : Launch) (hl : l.stackTraces = false) (G : Gt) (q qv qg qd P M R n : Nat) (v g d : Nat → Int32) (t : Nat) (hn : n ≤ 72) (hP : 2 ≤ P) (hP12 : P ≤ 12) (ht : t < n) : Con l G yX2_neighbour cX2_neighbour 6 (some .int) 1 23 0 0 [.ref q, .int (nI t), .int (-1)] [oB 2 q [.int (nI P), .int (nI M), .int (nI R), .int (nI n), .ref qv, .ref qg, .ref qd], aI G qv 72 v, aZ G qg 72 g, aI G qd 72 d] (po_X2_neighbour_d G q qv qg qd P M R n v g d t) := by
  refine Con.of hl cd_X2_neighbour (Nat.le_of_ble_eq_true rfl) ?_
  intro p e s m args below meth c A F hin9
  change Fx p l s m args meth c G A "SeasonalAdjuster$Series" cX2_neighbour 6 (some .int) at F
  change J p l e (cRm 1 23 0 0) s m args below meth c G A 6 (JQ below G A (po_X2_neighbour_d G q qv qg qd P M R n v g d t) args s 0 0) 0 0 0 [(0, .ref q), (1, .int (nI t)), (2, .int (-1))] [] [oB 2 q [.int (nI P), .int (nI M), .int (nI R), .int (nI n), .ref qv, .ref qg, .ref qd], aI G qv 72 v, aZ G qg 72 g, aI G qd 72 d]
  refine J_aload_n F 0 (dcq dc_X2_neighbour_0 0 rfl) rfl rfl ?_
  refine J_get F fcX2 0 0 rfl (Nat.le_of_ble_eq_true rfl) tw_1_27 rfl rfl (dcq dc_X2_neighbour_0 1 rfl) ?_
  refine J_iconst F (dcq dc_X2_neighbour_0 2 rfl) ic_1 ?_
  refine J_mmaxi F (v := nI P) tw_3_41 tw_3_42 tw_1_12 tw_mmaxi ⟨(Nat.le_of_ble_eq_true rfl), (Nat.le_of_ble_eq_true rfl), (Nat.le_of_ble_eq_true rfl), (Nat.le_of_ble_eq_true rfl)⟩ (if_neg (nI_nlt (by omega) (by omega))) (dcq dc_X2_neighbour_0 3 rfl) ?_
  refine J_istore_n F (lv2 := [(3, .int (nI P)), (0, .ref q), (1, .int (nI t)), (2, .int (-1))]) (dcq dc_X2_neighbour_0 4 rfl) rfl (Nat.le_of_ble_eq_true rfl) rfl ?_
  refine J_iload_n F 0 (dcq dc_X2_neighbour_0 5 rfl) rfl rfl ?_
  refine J_istore F (lv2 := [(4, .int (nI P)), (3, .int (nI P)), (0, .ref q), (1, .int (nI t)), (2, .int (-1))]) (dcq dc_X2_neighbour_0 6 rfl) (Nat.le_of_ble_eq_true rfl) rfl ?_
  have L12 : ∀ (fu12 : Nat), ∀ (k0 k1 : Nat), (k1 = k0 + P) → (ivD P g t k0) → (k0 ≤ 90) → n - k0 < fu12 → J p l e (cRm 1 23 0 0) s m args below meth c G A 6 (JQ below G A (po_X2_neighbour_d G q qv qg qd P M R n v g d t) args s 0 0) 0 0 12 [(0, .ref q), (1, .int (nI t)), (2, .int (-1)), (3, .int (nI P)), (4, .int (nI k1))] [] [oB 2 q [.int (nI P), .int (nI M), .int (nI R), .int (nI n), .ref qv, .ref qg, .ref qd], aI G qv 72 v, aZ G qg 72 g, aI G qd 72 d] := by
    intro fu12
    induction fu12 with
    | zero => intro k0 k1 he iv hk hm12; exact absurd hm12 (Nat.not_lt_zero _)
    | succ fu12 ih12 =>
      intro k0 k1 he iv hk hm12
      refine J_iload F 4 (dcq dc_X2_neighbour_0 7 rfl) rfl ?_
      refine J_aload_n F 0 (dcq dc_X2_neighbour_0 8 rfl) rfl rfl ?_
      refine J_get F fcX2 0 3 rfl (Nat.le_of_ble_eq_true rfl) tw_1_36 rfl rfl (dcq dc_X2_neighbour_0 9 rfl) ?_
      refine J_ncmp_ge F 65 (by omega) (by omega) (dcq dc_X2_neighbour_0 10 rfl) (by decide) (fun h_1 => ?_) (fun h_1 => ?_)
      · skip
        have hex := h_1
        refine J_iconst F (dcq dc_X2_neighbour_0 35 rfl) ic_m1 ?_
        exact J_iret F ⟨(-1), rfl, rfl, by rw [ivD_end iv (by omega)]; rfl⟩ (Nat.le_of_ble_eq_true rfl) (Nat.le_of_ble_eq_true rfl) (dcq dc_X2_neighbour_0 36 rfl)
      · skip
        have hex := h_1
        rcases Nat.lt_or_ge t k1 with hlt | hge
        · skip
          refine J_iload_n F 1 (dcq dc_X2_neighbour_0 11 rfl) rfl rfl ?_
          refine J_iload_n F 2 (dcq dc_X2_neighbour_0 12 rfl) rfl rfl ?_
          refine J_iload F 4 (dcq dc_X2_neighbour_0 13 rfl) rfl ?_
          refine J_imul F (v := (-1) * (nI k1)) (dcq dc_X2_neighbour_0 14 rfl) rfl ?_
          refine J_iadd F (v := nI t + (-1) * nI k1) (dcq dc_X2_neighbour_0 15 rfl) rfl ?_
          refine J_istore F (lv2 := [(5, .int (nI t + (-1) * nI k1)), (0, .ref q), (1, .int (nI t)), (2, .int (-1)), (3, .int (nI P)), (4, .int (nI k1))]) (dcq dc_X2_neighbour_0 16 rfl) (Nat.le_of_ble_eq_true rfl) rfl ?_
          refine J_iload F 0 (dcq dc_X2_neighbour_0 17 rfl) rfl ?_
          refine J_if_lt F 56 (dcq dc_X2_neighbour_0 18 rfl) (by decide) (fun h_2 => ?_) (fun h_2 => ?_)
          · skip
            refine J_iload F 5 (dcq dc_X2_neighbour_0 30 rfl) rfl ?_
            refine J_iload_n F 4 (dcq dc_X2_neighbour_0 31 rfl) rfl rfl ?_
            refine J_iadd F (v := nI (k1 + P)) (dcq dc_X2_neighbour_0 32 rfl) (nI_add _ _) ?_
            refine J_istore F (lv2 := [(4, .int (nI (k1 + P))), (5, .int (nI t + (-1) * nI k1)), (0, .ref q), (1, .int (nI t)), (2, .int (-1)), (3, .int (nI P))]) (dcq dc_X2_neighbour_0 33 rfl) (Nat.le_of_ble_eq_true rfl) rfl ?_
            refine J_goto F 12 (dcq dc_X2_neighbour_0 34 rfl) (by decide) ?_
            refine J_locs [2, 3, 4, 5, 0] rfl ?_
            exact ih12 (k0 + P) (k1 + P) (by omega) (by first | exact ivD_miss iv (by omega) | exact ivD_gap (by omega) iv (by omega) (by rw [← he]; exact hg)) (by omega) (by omega)
          · exact absurd (nI_negm hlt (by omega)) h_2
        · skip
          refine J_iload_n F 1 (dcq dc_X2_neighbour_0 11 rfl) rfl rfl ?_
          refine J_iload_n F 2 (dcq dc_X2_neighbour_0 12 rfl) rfl rfl ?_
          refine J_iload F 4 (dcq dc_X2_neighbour_0 13 rfl) rfl ?_
          refine J_imul F (v := (-1) * (nI k1)) (dcq dc_X2_neighbour_0 14 rfl) rfl ?_
          refine J_iadd F (v := nI (t - k1)) (dcq dc_X2_neighbour_0 15 rfl) (nI_subm hge) ?_
          refine J_istore F (lv2 := [(5, .int (nI (t - k1))), (0, .ref q), (1, .int (nI t)), (2, .int (-1)), (3, .int (nI P)), (4, .int (nI k1))]) (dcq dc_X2_neighbour_0 16 rfl) (Nat.le_of_ble_eq_true rfl) rfl ?_
          refine J_iload F 0 (dcq dc_X2_neighbour_0 17 rfl) rfl ?_
          refine J_nif_lt F (by omega) 56 (dcq dc_X2_neighbour_0 18 rfl) (by decide) ?_
          refine J_iload F 0 (dcq dc_X2_neighbour_0 19 rfl) rfl ?_
          refine J_aload_n F 1 (dcq dc_X2_neighbour_0 20 rfl) rfl rfl ?_
          refine J_get F fcX2 0 3 rfl (Nat.le_of_ble_eq_true rfl) tw_1_36 rfl rfl (dcq dc_X2_neighbour_0 21 rfl) ?_
          refine J_ncmp_ge F 56 (by omega) (by omega) (dcq dc_X2_neighbour_0 22 rfl) (by decide) (fun h_4 => ?_) (fun h_4 => ?_)
          · exact absurd h_4 (by omega)
          · skip
            refine J_aload_n F 1 (dcq dc_X2_neighbour_0 23 rfl) rfl rfl ?_
            refine J_get F fcX2 0 5 rfl (Nat.le_of_ble_eq_true rfl) tw_1_42 rfl rfl (dcq dc_X2_neighbour_0 24 rfl) ?_
            refine J_iload F 0 (dcq dc_X2_neighbour_0 25 rfl) rfl ?_
            refine J_zald F 2 rfl (by omega) (Nat.le_of_ble_eq_true rfl) (dcq dc_X2_neighbour_0 26 rfl) ?_
            refine J_if_ne F 56 (dcq dc_X2_neighbour_0 27 rfl) (by decide) (fun h_5 => ?_) (fun h_5 => ?_)
            · skip
              have hg := h_5
              refine J_iload F 5 (dcq dc_X2_neighbour_0 30 rfl) rfl ?_
              refine J_iload_n F 4 (dcq dc_X2_neighbour_0 31 rfl) rfl rfl ?_
              refine J_iadd F (v := nI (k1 + P)) (dcq dc_X2_neighbour_0 32 rfl) (nI_add _ _) ?_
              refine J_istore F (lv2 := [(4, .int (nI (k1 + P))), (5, .int (nI (t - k1))), (0, .ref q), (1, .int (nI t)), (2, .int (-1)), (3, .int (nI P))]) (dcq dc_X2_neighbour_0 33 rfl) (Nat.le_of_ble_eq_true rfl) rfl ?_
              refine J_goto F 12 (dcq dc_X2_neighbour_0 34 rfl) (by decide) ?_
              refine J_locs [2, 3, 4, 5, 0] rfl ?_
              exact ih12 (k0 + P) (k1 + P) (by omega) (by first | exact ivD_miss iv (by omega) | exact ivD_gap (by omega) iv (by omega) (by rw [← he]; exact hg)) (by omega) (by omega)
            · skip
              have hg := h_5
              refine J_iload F 0 (dcq dc_X2_neighbour_0 28 rfl) rfl ?_
              exact J_iret F ⟨nI (t - k1), rfl, rfl, by rw [ivD_hit (by omega) iv (by omega) (by rw [← he]; exact hg), ← he]; rfl⟩ (Nat.le_of_ble_eq_true rfl) (Nat.le_of_ble_eq_true rfl) (dcq dc_X2_neighbour_0 29 rfl)
  refine J_locs [2, 3, 4, 1, 0] rfl ?_
  exact L12 (n - 0 + 1) 0 P (by omega) (ivD_0 P g t) (by omega) (Nat.lt_succ_self _)

abbrev po_X2_neighbour_u (G : Gt) (q qv qg qd P M R n : Nat) (v g d : Nat → Int32) (t : Nat) : Option Value → va_W → Prop := fun (v9 : Option Value) (w9 : va_W) => ∃ (r : Int32), v9 = some (.int r) ∧ w9 = [oB 2 q [.int (nI P), .int (nI M), .int (nI R), .int (nI n), .ref qv, .ref qg, .ref qd], aI G qv 72 v, aZ G qg 72 g, aI G qd 72 d] ∧ (r = oI (unb P n g t))
set_option maxHeartbeats 4000000 in
set_option maxRecDepth 100000 in
theorem c_X2_neighbour_u (l : Launch) (hl : l.stackTraces = false) (G : Gt) (q qv qg qd P M R n : Nat) (v g d : Nat → Int32) (t : Nat) (hn : n ≤ 72) (hP : 2 ≤ P) (hP12 : P ≤ 12) (ht : t < n) : Con l G yX2_neighbour cX2_neighbour 6 (some .int) 1 23 0 0 [.ref q, .int (nI t), .int (nI 1)] [oB 2 q [.int (nI P), .int (nI M), .int (nI R), .int (nI n), .ref qv, .ref qg, .ref qd], aI G qv 72 v, aZ G qg 72 g, aI G qd 72 d] (po_X2_neighbour_u G q qv qg qd P M R n v g d t) := by
  refine Con.of hl cd_X2_neighbour (Nat.le_of_ble_eq_true rfl) ?_
  intro p e s m args below meth c A F hin9
  change Fx p l s m args meth c G A "SeasonalAdjuster$Series" cX2_neighbour 6 (some .int) at F
  change J p l e (cRm 1 23 0 0) s m args below meth c G A 6 (JQ below G A (po_X2_neighbour_u G q qv qg qd P M R n v g d t) args s 0 0) 0 0 0 [(0, .ref q), (1, .int (nI t)), (2, .int (nI 1))] [] [oB 2 q [.int (nI P), .int (nI M), .int (nI R), .int (nI n), .ref qv, .ref qg, .ref qd], aI G qv 72 v, aZ G qg 72 g, aI G qd 72 d]
  refine J_aload_n F 0 (dcq dc_X2_neighbour_0 0 rfl) rfl rfl ?_
  refine J_get F fcX2 0 0 rfl (Nat.le_of_ble_eq_true rfl) tw_1_27 rfl rfl (dcq dc_X2_neighbour_0 1 rfl) ?_
  refine J_iconst F (dcq dc_X2_neighbour_0 2 rfl) ic_1 ?_
  refine J_mmaxi F (v := nI P) tw_3_41 tw_3_42 tw_1_12 tw_mmaxi ⟨(Nat.le_of_ble_eq_true rfl), (Nat.le_of_ble_eq_true rfl), (Nat.le_of_ble_eq_true rfl), (Nat.le_of_ble_eq_true rfl)⟩ (if_neg (nI_nlt (by omega) (by omega))) (dcq dc_X2_neighbour_0 3 rfl) ?_
  refine J_istore_n F (lv2 := [(3, .int (nI P)), (0, .ref q), (1, .int (nI t)), (2, .int (nI 1))]) (dcq dc_X2_neighbour_0 4 rfl) rfl (Nat.le_of_ble_eq_true rfl) rfl ?_
  refine J_iload_n F 0 (dcq dc_X2_neighbour_0 5 rfl) rfl rfl ?_
  refine J_istore F (lv2 := [(4, .int (nI P)), (3, .int (nI P)), (0, .ref q), (1, .int (nI t)), (2, .int (nI 1))]) (dcq dc_X2_neighbour_0 6 rfl) (Nat.le_of_ble_eq_true rfl) rfl ?_
  have L12 : ∀ (fu12 : Nat), ∀ (k0 k1 : Nat), (k1 = k0 + P) → (ivU P n g t k0) → (k0 ≤ 90) → n - k0 < fu12 → J p l e (cRm 1 23 0 0) s m args below meth c G A 6 (JQ below G A (po_X2_neighbour_u G q qv qg qd P M R n v g d t) args s 0 0) 0 0 12 [(0, .ref q), (1, .int (nI t)), (2, .int (nI 1)), (3, .int (nI P)), (4, .int (nI k1))] [] [oB 2 q [.int (nI P), .int (nI M), .int (nI R), .int (nI n), .ref qv, .ref qg, .ref qd], aI G qv 72 v, aZ G qg 72 g, aI G qd 72 d] := by
    intro fu12
    induction fu12 with
    | zero => intro k0 k1 he iv hk hm12; exact absurd hm12 (Nat.not_lt_zero _)
    | succ fu12 ih12 =>
      intro k0 k1 he iv hk hm12
      refine J_iload F 4 (dcq dc_X2_neighbour_0 7 rfl) rfl ?_
      refine J_aload_n F 0 (dcq dc_X2_neighbour_0 8 rfl) rfl rfl ?_
      refine J_get F fcX2 0 3 rfl (Nat.le_of_ble_eq_true rfl) tw_1_36 rfl rfl (dcq dc_X2_neighbour_0 9 rfl) ?_
      refine J_ncmp_ge F 65 (by omega) (by omega) (dcq dc_X2_neighbour_0 10 rfl) (by decide) (fun h_1 => ?_) (fun h_1 => ?_)
      · skip
        have hex := h_1
        refine J_iconst F (dcq dc_X2_neighbour_0 35 rfl) ic_m1 ?_
        exact J_iret F ⟨(-1), rfl, rfl, by rw [ivU_end iv (by omega)]; rfl⟩ (Nat.le_of_ble_eq_true rfl) (Nat.le_of_ble_eq_true rfl) (dcq dc_X2_neighbour_0 36 rfl)
      · skip
        have hex := h_1
        refine J_iload_n F 1 (dcq dc_X2_neighbour_0 11 rfl) rfl rfl ?_
        refine J_iload_n F 2 (dcq dc_X2_neighbour_0 12 rfl) rfl rfl ?_
        refine J_iload F 4 (dcq dc_X2_neighbour_0 13 rfl) rfl ?_
        refine J_imul F (v := nI (1 * k1)) (dcq dc_X2_neighbour_0 14 rfl) (pk_mul _ _) ?_
        refine J_iadd F (v := nI (t + (1 * k1))) (dcq dc_X2_neighbour_0 15 rfl) (nI_add _ _) ?_
        refine J_istore F (lv2 := [(5, .int (nI (t + (1 * k1)))), (0, .ref q), (1, .int (nI t)), (2, .int (nI 1)), (3, .int (nI P)), (4, .int (nI k1))]) (dcq dc_X2_neighbour_0 16 rfl) (Nat.le_of_ble_eq_true rfl) rfl ?_
        refine J_iload F 0 (dcq dc_X2_neighbour_0 17 rfl) rfl ?_
        refine J_nif_lt F (by omega) 56 (dcq dc_X2_neighbour_0 18 rfl) (by decide) ?_
        refine J_iload F 0 (dcq dc_X2_neighbour_0 19 rfl) rfl ?_
        refine J_aload_n F 1 (dcq dc_X2_neighbour_0 20 rfl) rfl rfl ?_
        refine J_get F fcX2 0 3 rfl (Nat.le_of_ble_eq_true rfl) tw_1_36 rfl rfl (dcq dc_X2_neighbour_0 21 rfl) ?_
        refine J_ncmp_ge F 56 (by omega) (by omega) (dcq dc_X2_neighbour_0 22 rfl) (by decide) (fun h_3 => ?_) (fun h_3 => ?_)
        · skip
          refine J_iload F 5 (dcq dc_X2_neighbour_0 30 rfl) rfl ?_
          refine J_iload_n F 4 (dcq dc_X2_neighbour_0 31 rfl) rfl rfl ?_
          refine J_iadd F (v := nI (k1 + P)) (dcq dc_X2_neighbour_0 32 rfl) (nI_add _ _) ?_
          refine J_istore F (lv2 := [(4, .int (nI (k1 + P))), (5, .int (nI (t + (1 * k1)))), (0, .ref q), (1, .int (nI t)), (2, .int (nI 1)), (3, .int (nI P))]) (dcq dc_X2_neighbour_0 33 rfl) (Nat.le_of_ble_eq_true rfl) rfl ?_
          refine J_goto F 12 (dcq dc_X2_neighbour_0 34 rfl) (by decide) ?_
          refine J_locs [2, 3, 4, 5, 0] rfl ?_
          exact ih12 (k0 + P) (k1 + P) (by omega) (by first | exact ivU_miss iv (by omega) | exact ivU_gap (by omega) iv (by omega) (by rw [← he]; rw [Nat.one_mul] at hg; exact hg)) (by omega) (by omega)
        · skip
          refine J_aload_n F 1 (dcq dc_X2_neighbour_0 23 rfl) rfl rfl ?_
          refine J_get F fcX2 0 5 rfl (Nat.le_of_ble_eq_true rfl) tw_1_42 rfl rfl (dcq dc_X2_neighbour_0 24 rfl) ?_
          refine J_iload F 0 (dcq dc_X2_neighbour_0 25 rfl) rfl ?_
          refine J_zald F 2 rfl (by omega) (Nat.le_of_ble_eq_true rfl) (dcq dc_X2_neighbour_0 26 rfl) ?_
          refine J_if_ne F 56 (dcq dc_X2_neighbour_0 27 rfl) (by decide) (fun h_4 => ?_) (fun h_4 => ?_)
          · skip
            have hg := h_4
            refine J_iload F 5 (dcq dc_X2_neighbour_0 30 rfl) rfl ?_
            refine J_iload_n F 4 (dcq dc_X2_neighbour_0 31 rfl) rfl rfl ?_
            refine J_iadd F (v := nI (k1 + P)) (dcq dc_X2_neighbour_0 32 rfl) (nI_add _ _) ?_
            refine J_istore F (lv2 := [(4, .int (nI (k1 + P))), (5, .int (nI (t + (1 * k1)))), (0, .ref q), (1, .int (nI t)), (2, .int (nI 1)), (3, .int (nI P))]) (dcq dc_X2_neighbour_0 33 rfl) (Nat.le_of_ble_eq_true rfl) rfl ?_
            refine J_goto F 12 (dcq dc_X2_neighbour_0 34 rfl) (by decide) ?_
            refine J_locs [2, 3, 4, 5, 0] rfl ?_
            exact ih12 (k0 + P) (k1 + P) (by omega) (by first | exact ivU_miss iv (by omega) | exact ivU_gap (by omega) iv (by omega) (by rw [← he]; rw [Nat.one_mul] at hg; exact hg)) (by omega) (by omega)
          · skip
            have hg := h_4
            refine J_iload F 0 (dcq dc_X2_neighbour_0 28 rfl) rfl ?_
            exact J_iret F ⟨nI (t + (1 * k1)), rfl, rfl, by rw [Nat.one_mul] at hg ⊢; rw [ivU_hit (by omega) iv (by omega) (by rw [← he]; exact hg), ← he]; rfl⟩ (Nat.le_of_ble_eq_true rfl) (Nat.le_of_ble_eq_true rfl) (dcq dc_X2_neighbour_0 29 rfl)
  refine J_locs [2, 3, 4, 1, 0] rfl ?_
  exact L12 (n - 0 + 1) 0 P (by omega) (ivU_0 g ht) (by omega) (Nat.lt_succ_self _)

abbrev po_X2_hasUnfillableGap (G : Gt) (q qv qg qd P M R n : Nat) (v g d : Nat → Int32) : Option Value → va_W → Prop := fun (v9 : Option Value) (w9 : va_W) => ∃ (r : Nat), v9 = some (.int (nI r)) ∧ w9 = [oB 2 q [.int (nI P), .int (nI M), .int (nI R), .int (nI n), .ref qv, .ref qg, .ref qd], aI G qv 72 v, aZ G qg 72 g, aI G qd 72 d] ∧ (r ≤ 1) ∧ (r = 1 ↔ unf P n g)
set_option maxHeartbeats 4000000 in
set_option maxRecDepth 100000 in
theorem c_X2_hasUnfillableGap (l : Launch) (hl : l.stackTraces = false) (G : Gt) (q qv qg qd P M R n : Nat) (v g d : Nat → Int32) (hn : n ≤ 72) (hP : 2 ≤ P) (hP12 : P ≤ 12) : Con l G yX2_hasUnfillableGap cX2_hasUnfillableGap 2 (some .boolean) 2 48 0 0 [.ref q] [oB 2 q [.int (nI P), .int (nI M), .int (nI R), .int (nI n), .ref qv, .ref qg, .ref qd], aI G qv 72 v, aZ G qg 72 g, aI G qd 72 d] (po_X2_hasUnfillableGap G q qv qg qd P M R n v g d) := by
  refine Con.of hl cd_X2_hasUnfillableGap (Nat.le_of_ble_eq_true rfl) ?_
  intro p e s m args below meth c A F hin9
  change Fx p l s m args meth c G A "SeasonalAdjuster$Series" cX2_hasUnfillableGap 2 (some .boolean) at F
  change J p l e (cRm 2 48 0 0) s m args below meth c G A 2 (JQ below G A (po_X2_hasUnfillableGap G q qv qg qd P M R n v g d) args s 0 0) 0 0 0 [(0, .ref q)] [] [oB 2 q [.int (nI P), .int (nI M), .int (nI R), .int (nI n), .ref qv, .ref qg, .ref qd], aI G qv 72 v, aZ G qg 72 g, aI G qd 72 d]
  refine J_iconst F (dcq dc_X2_hasUnfillableGap_0 0 rfl) ic_0 ?_
  refine J_istore_n F (lv2 := [(1, .int (nI 0)), (0, .ref q)]) (dcq dc_X2_hasUnfillableGap_0 1 rfl) rfl (Nat.le_of_ble_eq_true rfl) rfl ?_
  have L2 : ∀ (fu2 : Nat), ∀ (t : Nat), (t ≤ n) → (∀ j, j < t → ¬ (g j ≠ 0 ∧ dnb P g j = none ∧ unb P n g j = none)) → n - t < fu2 → J p l e (cRm 2 48 0 0) s m args below meth c G A 2 (JQ below G A (po_X2_hasUnfillableGap G q qv qg qd P M R n v g d) args s 0 0) 0 0 2 [(0, .ref q), (1, .int (nI t))] [] [oB 2 q [.int (nI P), .int (nI M), .int (nI R), .int (nI n), .ref qv, .ref qg, .ref qd], aI G qv 72 v, aZ G qg 72 g, aI G qd 72 d] := by
    intro fu2
    induction fu2 with
    | zero => intro t ht iv hm2; exact absurd hm2 (Nat.not_lt_zero _)
    | succ fu2 ih2 =>
      intro t ht iv hm2
      refine J_iload_n F 1 (dcq dc_X2_hasUnfillableGap_0 2 rfl) rfl rfl ?_
      refine J_aload_n F 0 (dcq dc_X2_hasUnfillableGap_0 3 rfl) rfl rfl ?_
      refine J_get F fcX2 0 3 rfl (Nat.le_of_ble_eq_true rfl) tw_1_36 rfl rfl (dcq dc_X2_hasUnfillableGap_0 4 rfl) ?_
      refine J_ncmp_ge F 47 (by omega) (by omega) (dcq dc_X2_hasUnfillableGap_0 5 rfl) (by decide) (fun h_1 => ?_) (fun h_1 => ?_)
      · skip
        refine J_iconst F (dcq dc_X2_hasUnfillableGap_0 27 rfl) ic_0 ?_
        exact J_zret F (by decide) ⟨0, rfl, rfl, by omega, ⟨fun h => absurd h (by decide), fun ⟨j, h1, h2⟩ => absurd h2 (iv j (by omega))⟩⟩ (Nat.le_of_ble_eq_true rfl) (Nat.le_of_ble_eq_true rfl) (dcq dc_X2_hasUnfillableGap_0 28 rfl)
      · skip
        refine J_aload_n F 0 (dcq dc_X2_hasUnfillableGap_0 6 rfl) rfl rfl ?_
        refine J_get F fcX2 0 5 rfl (Nat.le_of_ble_eq_true rfl) tw_1_42 rfl rfl (dcq dc_X2_hasUnfillableGap_0 7 rfl) ?_
        refine J_iload_n F 1 (dcq dc_X2_hasUnfillableGap_0 8 rfl) rfl rfl ?_
        refine J_zald F 2 rfl (by omega) (Nat.le_of_ble_eq_true rfl) (dcq dc_X2_hasUnfillableGap_0 9 rfl) ?_
        refine J_if_eq F 41 (dcq dc_X2_hasUnfillableGap_0 10 rfl) (by decide) (fun h_2 => ?_) (fun h_2 => ?_)
        · skip
          have hg := h_2
          refine J_iinc F (lv2 := [(1, .int (nI (t + 1))), (0, .ref q)]) (v := nI (t + 1)) 1 (dcq dc_X2_hasUnfillableGap_0 25 rfl) rfl (nI_inc _) (Nat.le_of_ble_eq_true rfl) rfl ?_
          refine J_goto F 2 (dcq dc_X2_hasUnfillableGap_0 26 rfl) (by decide) ?_
          refine J_locs [1, 0] rfl ?_
          exact ih2 (t + 1) (by omega) (lt_s iv (fun z => by first | exact z.1 hg | exact hd (by rw [hrd]; exact (oI_m1 (fun a ha => by have := dnb_lt ha; omega)).mpr z.2.1) | exact hu (by rw [hru]; exact (oI_m1 (fun a ha => by have := unb_lt ha; omega)).mpr z.2.2))) (by omega)
        · skip
          have hg := h_2
          refine J_aload_n F 0 (dcq dc_X2_hasUnfillableGap_0 11 rfl) rfl rfl ?_
          refine J_iload_n F 1 (dcq dc_X2_hasUnfillableGap_0 12 rfl) rfl rfl ?_
          refine J_iconst F (dcq dc_X2_hasUnfillableGap_0 13 rfl) ic_m1 ?_
          refine J_callV F (wc := [oB 2 q [.int (nI P), .int (nI M), .int (nI R), .int (nI n), .ref qv, .ref qg, .ref qd], aI G qv 72 v, aZ G qg 72 g, aI G qd 72 d]) (wr := []) (rest := []) (qc := 0) (c_X2_neighbour_d l hl G q qv qg qd P M R n v g d t (by first | assumption | omega) (by first | assumption | omega) (by first | assumption | omega) (by first | assumption | omega)) cd_X2_neighbour cv_X2_neighbour rfl rfl rfl tw_3_37 [0, 1, 2, 3] [] rfl rfl rfl rfl (by decide) rfl ⟨(Nat.le_of_ble_eq_true rfl), (Nat.le_of_ble_eq_true rfl), (Nat.le_of_ble_eq_true rfl), (Nat.le_of_ble_eq_true rfl)⟩ (Nat.le_of_ble_eq_true rfl) rfl (dcq dc_X2_hasUnfillableGap_0 14 rfl) ?_
          rintro _ _ ⟨rd, rfl, rfl, hrd⟩
          change J p l e (cRm 2 48 0 0) s m args below meth c G A 2 (JQ below G A (po_X2_hasUnfillableGap G q qv qg qd P M R n v g d) args s 0 0) 0 0 25 [(0, .ref q), (1, .int (nI t))] [.int rd] [oB 2 q [.int (nI P), .int (nI M), .int (nI R), .int (nI n), .ref qv, .ref qg, .ref qd], aI G qv 72 v, aZ G qg 72 g, aI G qd 72 d]
          have hrd : rd = oI (dnb P g t) := hrd
          refine J_iconst F (dcq dc_X2_hasUnfillableGap_0 15 rfl) ic_m1 ?_
          refine J_icmp_ne F 41 (dcq dc_X2_hasUnfillableGap_0 16 rfl) (by decide) (fun h_3 => ?_) (fun h_3 => ?_)
          · skip
            have hd := h_3
            refine J_iinc F (lv2 := [(1, .int (nI (t + 1))), (0, .ref q)]) (v := nI (t + 1)) 1 (dcq dc_X2_hasUnfillableGap_0 25 rfl) rfl (nI_inc _) (Nat.le_of_ble_eq_true rfl) rfl ?_
            refine J_goto F 2 (dcq dc_X2_hasUnfillableGap_0 26 rfl) (by decide) ?_
            refine J_locs [1, 0] rfl ?_
            exact ih2 (t + 1) (by omega) (lt_s iv (fun z => by first | exact z.1 hg | exact hd (by rw [hrd]; exact (oI_m1 (fun a ha => by have := dnb_lt ha; omega)).mpr z.2.1) | exact hu (by rw [hru]; exact (oI_m1 (fun a ha => by have := unb_lt ha; omega)).mpr z.2.2))) (by omega)
          · skip
            have hd := h_3
            refine J_aload_n F 0 (dcq dc_X2_hasUnfillableGap_0 17 rfl) rfl rfl ?_
            refine J_iload_n F 1 (dcq dc_X2_hasUnfillableGap_0 18 rfl) rfl rfl ?_
            refine J_iconst F (dcq dc_X2_hasUnfillableGap_0 19 rfl) ic_1 ?_
            refine J_callV F (wc := [oB 2 q [.int (nI P), .int (nI M), .int (nI R), .int (nI n), .ref qv, .ref qg, .ref qd], aI G qv 72 v, aZ G qg 72 g, aI G qd 72 d]) (wr := []) (rest := []) (qc := 0) (c_X2_neighbour_u l hl G q qv qg qd P M R n v g d t (by first | assumption | omega) (by first | assumption | omega) (by first | assumption | omega) (by first | assumption | omega)) cd_X2_neighbour cv_X2_neighbour rfl rfl rfl tw_3_37 [0, 1, 2, 3] [] rfl rfl rfl rfl (by decide) rfl ⟨(Nat.le_of_ble_eq_true rfl), (Nat.le_of_ble_eq_true rfl), (Nat.le_of_ble_eq_true rfl), (Nat.le_of_ble_eq_true rfl)⟩ (Nat.le_of_ble_eq_true rfl) rfl (dcq dc_X2_hasUnfillableGap_0 20 rfl) ?_
            rintro _ _ ⟨ru, rfl, rfl, hru⟩
            change J p l e (cRm 2 48 0 0) s m args below meth c G A 2 (JQ below G A (po_X2_hasUnfillableGap G q qv qg qd P M R n v g d) args s 0 0) 0 0 35 [(0, .ref q), (1, .int (nI t))] [.int ru] [oB 2 q [.int (nI P), .int (nI M), .int (nI R), .int (nI n), .ref qv, .ref qg, .ref qd], aI G qv 72 v, aZ G qg 72 g, aI G qd 72 d]
            have hru : ru = oI (unb P n g t) := hru
            refine J_iconst F (dcq dc_X2_hasUnfillableGap_0 21 rfl) ic_m1 ?_
            refine J_icmp_ne F 41 (dcq dc_X2_hasUnfillableGap_0 22 rfl) (by decide) (fun h_4 => ?_) (fun h_4 => ?_)
            · skip
              have hu := h_4
              refine J_iinc F (lv2 := [(1, .int (nI (t + 1))), (0, .ref q)]) (v := nI (t + 1)) 1 (dcq dc_X2_hasUnfillableGap_0 25 rfl) rfl (nI_inc _) (Nat.le_of_ble_eq_true rfl) rfl ?_
              refine J_goto F 2 (dcq dc_X2_hasUnfillableGap_0 26 rfl) (by decide) ?_
              refine J_locs [1, 0] rfl ?_
              exact ih2 (t + 1) (by omega) (lt_s iv (fun z => by first | exact z.1 hg | exact hd (by rw [hrd]; exact (oI_m1 (fun a ha => by have := dnb_lt ha; omega)).mpr z.2.1) | exact hu (by rw [hru]; exact (oI_m1 (fun a ha => by have := unb_lt ha; omega)).mpr z.2.2))) (by omega)
            · skip
              have hu := h_4
              refine J_iconst F (dcq dc_X2_hasUnfillableGap_0 23 rfl) ic_1 ?_
              exact J_zret F (by decide) ⟨1, rfl, rfl, by omega, ⟨fun _ => ⟨t, by omega, hg, (oI_m1 (fun a ha => by have := dnb_lt ha; omega)).mp (by rw [← hrd]; exact hd), (oI_m1 (fun a ha => by have := unb_lt ha; omega)).mp (by rw [← hru]; exact hu)⟩, fun _ => rfl⟩⟩ (Nat.le_of_ble_eq_true rfl) (Nat.le_of_ble_eq_true rfl) (dcq dc_X2_hasUnfillableGap_0 24 rfl)
  refine J_locs [1, 0] rfl ?_
  exact L2 (n - 0 + 1) 0 (by omega) (fun j h => absurd h (Nat.not_lt_zero _)) (Nat.lt_succ_self _)

abbrev po_X2_fillingFor (G : Gt) (q qv qg qd P M R n : Nat) (v g d : Nat → Int32) (t : Nat) : Option Value → va_W → Prop := fun (v9 : Option Value) (w9 : va_W) => ∃ (r : Int32), v9 = some (.int r) ∧ w9 = [oB 2 q [.int (nI P), .int (nI M), .int (nI R), .int (nI n), .ref qv, .ref qg, .ref qd], aI G qv 72 v, aZ G qg 72 g, aI G qd 72 d] ∧ (r = filv P n v g t)
set_option maxHeartbeats 4000000 in
set_option maxRecDepth 100000 in
theorem c_X2_fillingFor (l : Launch) (hl : l.stackTraces = false) (G : Gt) (q qv qg qd P M R n : Nat) (v g d : Nat → Int32) (t : Nat) (hn : n ≤ 72) (hP : 2 ≤ P) (hP12 : P ≤ 12) (ht : t < n) : Con l G yX2_fillingFor cX2_fillingFor 4 (some .int) 2 48 0 0 [.ref q, .int (nI t)] [oB 2 q [.int (nI P), .int (nI M), .int (nI R), .int (nI n), .ref qv, .ref qg, .ref qd], aI G qv 72 v, aZ G qg 72 g, aI G qd 72 d] (po_X2_fillingFor G q qv qg qd P M R n v g d t) := by
  refine Con.of hl cd_X2_fillingFor (Nat.le_of_ble_eq_true rfl) ?_
  intro p e s m args below meth c A F hin9
  change Fx p l s m args meth c G A "SeasonalAdjuster$Series" cX2_fillingFor 4 (some .int) at F
  change J p l e (cRm 2 48 0 0) s m args below meth c G A 4 (JQ below G A (po_X2_fillingFor G q qv qg qd P M R n v g d t) args s 0 0) 0 0 0 [(0, .ref q), (1, .int (nI t))] [] [oB 2 q [.int (nI P), .int (nI M), .int (nI R), .int (nI n), .ref qv, .ref qg, .ref qd], aI G qv 72 v, aZ G qg 72 g, aI G qd 72 d]
  refine J_aload_n F 0 (dcq dc_X2_fillingFor_0 0 rfl) rfl rfl ?_
  refine J_iload_n F 1 (dcq dc_X2_fillingFor_0 1 rfl) rfl rfl ?_
  refine J_iconst F (dcq dc_X2_fillingFor_0 2 rfl) ic_m1 ?_
  refine J_callV F (wc := [oB 2 q [.int (nI P), .int (nI M), .int (nI R), .int (nI n), .ref qv, .ref qg, .ref qd], aI G qv 72 v, aZ G qg 72 g, aI G qd 72 d]) (wr := []) (rest := []) (qc := 0) (c_X2_neighbour_d l hl G q qv qg qd P M R n v g d t (by first | assumption | omega) (by first | assumption | omega) (by first | assumption | omega) (by first | assumption | omega)) cd_X2_neighbour cv_X2_neighbour rfl rfl rfl tw_3_37 [0, 1, 2, 3] [] rfl rfl rfl rfl (by decide) rfl ⟨(Nat.le_of_ble_eq_true rfl), (Nat.le_of_ble_eq_true rfl), (Nat.le_of_ble_eq_true rfl), (Nat.le_of_ble_eq_true rfl)⟩ (Nat.le_of_ble_eq_true rfl) rfl (dcq dc_X2_fillingFor_0 3 rfl) ?_
  rintro _ _ ⟨rd, rfl, rfl, hrd⟩
  change J p l e (cRm 2 48 0 0) s m args below meth c G A 4 (JQ below G A (po_X2_fillingFor G q qv qg qd P M R n v g d t) args s 0 0) 0 0 6 [(0, .ref q), (1, .int (nI t))] [.int rd] [oB 2 q [.int (nI P), .int (nI M), .int (nI R), .int (nI n), .ref qv, .ref qg, .ref qd], aI G qv 72 v, aZ G qg 72 g, aI G qd 72 d]
  have hrd : rd = oI (dnb P g t) := hrd
  refine J_istore_n F (lv2 := [(2, .int rd), (0, .ref q), (1, .int (nI t))]) (dcq dc_X2_fillingFor_0 4 rfl) rfl (Nat.le_of_ble_eq_true rfl) rfl ?_
  refine J_aload_n F 1 (dcq dc_X2_fillingFor_0 5 rfl) rfl rfl ?_
  refine J_iload_n F 2 (dcq dc_X2_fillingFor_0 6 rfl) rfl rfl ?_
  refine J_iconst F (dcq dc_X2_fillingFor_0 7 rfl) ic_1 ?_
  refine J_callV F (wc := [oB 2 q [.int (nI P), .int (nI M), .int (nI R), .int (nI n), .ref qv, .ref qg, .ref qd], aI G qv 72 v, aZ G qg 72 g, aI G qd 72 d]) (wr := []) (rest := []) (qc := 0) (c_X2_neighbour_u l hl G q qv qg qd P M R n v g d t (by first | assumption | omega) (by first | assumption | omega) (by first | assumption | omega) (by first | assumption | omega)) cd_X2_neighbour cv_X2_neighbour rfl rfl rfl tw_3_37 [0, 1, 2, 3] [] rfl rfl rfl rfl (by decide) rfl ⟨(Nat.le_of_ble_eq_true rfl), (Nat.le_of_ble_eq_true rfl), (Nat.le_of_ble_eq_true rfl), (Nat.le_of_ble_eq_true rfl)⟩ (Nat.le_of_ble_eq_true rfl) rfl (dcq dc_X2_fillingFor_0 8 rfl) ?_
  rintro _ _ ⟨ru, rfl, rfl, hru⟩
  change J p l e (cRm 2 48 0 0) s m args below meth c G A 4 (JQ below G A (po_X2_fillingFor G q qv qg qd P M R n v g d t) args s 0 0) 0 0 13 [(2, .int rd), (0, .ref q), (1, .int (nI t))] [.int ru] [oB 2 q [.int (nI P), .int (nI M), .int (nI R), .int (nI n), .ref qv, .ref qg, .ref qd], aI G qv 72 v, aZ G qg 72 g, aI G qd 72 d]
  have hru : ru = oI (unb P n g t) := hru
  refine J_istore_n F (lv2 := [(3, .int ru), (2, .int rd), (0, .ref q), (1, .int (nI t))]) (dcq dc_X2_fillingFor_0 9 rfl) rfl (Nat.le_of_ble_eq_true rfl) rfl ?_
  rcases hdq : dnb P g t with _ | a <;> rcases huq : unb P n g t with _ | b <;> rw [hdq] at hrd <;> rw [huq] at hru <;> simp only [oI] at hrd hru <;> subst hrd <;> subst hru
  · skip
    refine J_iload_n F 1 (dcq dc_X2_fillingFor_0 10 rfl) rfl rfl ?_
    refine J_iconst F (dcq dc_X2_fillingFor_0 11 rfl) ic_m1 ?_
    refine J_icmp_ne F 35 (dcq dc_X2_fillingFor_0 12 rfl) (by decide) (fun h_1 => ?_) (fun h_1 => ?_)
    · exact absurd rfl h_1
    · skip
      refine J_iload_n F 0 (dcq dc_X2_fillingFor_0 13 rfl) rfl rfl ?_
      refine J_iconst F (dcq dc_X2_fillingFor_0 14 rfl) ic_m1 ?_
      refine J_icmp_ne F 28 (dcq dc_X2_fillingFor_0 15 rfl) (by decide) (fun h_2 => ?_) (fun h_2 => ?_)
      · exact absurd rfl h_2
      · skip
        refine J_iconst F (dcq dc_X2_fillingFor_0 16 rfl) ic_0 ?_
        refine J_goto F 34 (dcq dc_X2_fillingFor_0 17 rfl) (by decide) ?_
        exact J_iret F ⟨nI 0, rfl, rfl, by simp only [filv, hdq, huq, nI_0]⟩ (Nat.le_of_ble_eq_true rfl) (Nat.le_of_ble_eq_true rfl) (dcq dc_X2_fillingFor_0 22 rfl)
  · skip
    refine J_iload_n F 1 (dcq dc_X2_fillingFor_0 10 rfl) rfl rfl ?_
    refine J_iconst F (dcq dc_X2_fillingFor_0 11 rfl) ic_m1 ?_
    refine J_icmp_ne F 35 (dcq dc_X2_fillingFor_0 12 rfl) (by decide) (fun h_3 => ?_) (fun h_3 => ?_)
    · exact absurd rfl h_3
    · skip
      refine J_iload_n F 0 (dcq dc_X2_fillingFor_0 13 rfl) rfl rfl ?_
      refine J_iconst F (dcq dc_X2_fillingFor_0 14 rfl) ic_m1 ?_
      refine J_icmp_ne F 28 (dcq dc_X2_fillingFor_0 15 rfl) (by decide) (fun h_4 => ?_) (fun h_4 => ?_)
      · skip
        refine J_aload_n F 2 (dcq dc_X2_fillingFor_0 18 rfl) rfl rfl ?_
        refine J_get F fcX2 0 4 rfl (Nat.le_of_ble_eq_true rfl) tw_1_39 rfl rfl (dcq dc_X2_fillingFor_0 19 rfl) ?_
        refine J_iload_n F 0 (dcq dc_X2_fillingFor_0 20 rfl) rfl rfl ?_
        refine J_iald F 1 rfl (by have := unb_lt huq; omega) (Nat.le_of_ble_eq_true rfl) (dcq dc_X2_fillingFor_0 21 rfl) ?_
        exact J_iret F ⟨v b, rfl, rfl, by simp only [filv, hdq, huq, nI_0]⟩ (Nat.le_of_ble_eq_true rfl) (Nat.le_of_ble_eq_true rfl) (dcq dc_X2_fillingFor_0 22 rfl)
      · exact absurd h_4 (nI_nm1 (by have := unb_lt huq; omega))
  · skip
    refine J_iload_n F 1 (dcq dc_X2_fillingFor_0 10 rfl) rfl rfl ?_
    refine J_iconst F (dcq dc_X2_fillingFor_0 11 rfl) ic_m1 ?_
    refine J_icmp_ne F 35 (dcq dc_X2_fillingFor_0 12 rfl) (by decide) (fun h_5 => ?_) (fun h_5 => ?_)
    · skip
      refine J_iload_n F 0 (dcq dc_X2_fillingFor_0 23 rfl) rfl rfl ?_
      refine J_iconst F (dcq dc_X2_fillingFor_0 24 rfl) ic_m1 ?_
      refine J_icmp_ne F 47 (dcq dc_X2_fillingFor_0 25 rfl) (by decide) (fun h_6 => ?_) (fun h_6 => ?_)
      · exact absurd rfl h_6
      · skip
        refine J_aload_n F 2 (dcq dc_X2_fillingFor_0 26 rfl) rfl rfl ?_
        refine J_get F fcX2 0 4 rfl (Nat.le_of_ble_eq_true rfl) tw_1_39 rfl rfl (dcq dc_X2_fillingFor_0 27 rfl) ?_
        refine J_iload_n F 1 (dcq dc_X2_fillingFor_0 28 rfl) rfl rfl ?_
        refine J_iald F 1 rfl (by have := dnb_lt hdq; omega) (Nat.le_of_ble_eq_true rfl) (dcq dc_X2_fillingFor_0 29 rfl) ?_
        exact J_iret F ⟨v a, rfl, rfl, by simp only [filv, hdq, huq, nI_0]⟩ (Nat.le_of_ble_eq_true rfl) (Nat.le_of_ble_eq_true rfl) (dcq dc_X2_fillingFor_0 30 rfl)
    · exact absurd h_5 (nI_nm1 (by have := dnb_lt hdq; omega))
  · skip
    refine J_iload_n F 1 (dcq dc_X2_fillingFor_0 10 rfl) rfl rfl ?_
    refine J_iconst F (dcq dc_X2_fillingFor_0 11 rfl) ic_m1 ?_
    refine J_icmp_ne F 35 (dcq dc_X2_fillingFor_0 12 rfl) (by decide) (fun h_7 => ?_) (fun h_7 => ?_)
    · skip
      refine J_iload_n F 0 (dcq dc_X2_fillingFor_0 23 rfl) rfl rfl ?_
      refine J_iconst F (dcq dc_X2_fillingFor_0 24 rfl) ic_m1 ?_
      refine J_icmp_ne F 47 (dcq dc_X2_fillingFor_0 25 rfl) (by decide) (fun h_8 => ?_) (fun h_8 => ?_)
      · skip
        refine J_aload_n F 2 (dcq dc_X2_fillingFor_0 31 rfl) rfl rfl ?_
        refine J_get F fcX2 0 4 rfl (Nat.le_of_ble_eq_true rfl) tw_1_39 rfl rfl (dcq dc_X2_fillingFor_0 32 rfl) ?_
        refine J_iload_n F 1 (dcq dc_X2_fillingFor_0 33 rfl) rfl rfl ?_
        refine J_iald F 1 rfl (by have := dnb_lt hdq; omega) (Nat.le_of_ble_eq_true rfl) (dcq dc_X2_fillingFor_0 34 rfl) ?_
        refine J_i2l F (v := (v a).toInt64) (dcq dc_X2_fillingFor_0 35 rfl) rfl ?_
        refine J_aload_n F 2 (dcq dc_X2_fillingFor_0 36 rfl) rfl rfl ?_
        refine J_get F fcX2 0 4 rfl (Nat.le_of_ble_eq_true rfl) tw_1_39 rfl rfl (dcq dc_X2_fillingFor_0 37 rfl) ?_
        refine J_iload_n F 0 (dcq dc_X2_fillingFor_0 38 rfl) rfl rfl ?_
        refine J_iald F 1 rfl (by have := unb_lt huq; omega) (Nat.le_of_ble_eq_true rfl) (dcq dc_X2_fillingFor_0 39 rfl) ?_
        refine J_i2l F (v := (v b).toInt64) (dcq dc_X2_fillingFor_0 40 rfl) rfl ?_
        refine J_ladd F (v := ((v a).toInt64) + ((v b).toInt64)) (dcq dc_X2_fillingFor_0 41 rfl) rfl ?_
        refine J_ldc2 F (v2 := (2)) tw_3_53 rfl (dcq dc_X2_fillingFor_0 42 rfl) ?_
        refine J_callSN F (wc := []) (wr := [oB 2 q [.int (nI P), .int (nI M), .int (nI R), .int (nI n), .ref qv, .ref qg, .ref qd], aI G qv 72 v, aZ G qg 72 g, aI G qd 72 d]) (rest := []) (c_X3_quotient l hl G (((v a).toInt64) + ((v b).toInt64)) 2) cd_X3_quotient tw_2_27 nt_Series_58 [] [0, 1, 2, 3] rfl rfl rfl rfl (by decide) rfl ⟨(Nat.le_of_ble_eq_true rfl), (Nat.le_of_ble_eq_true rfl), (Nat.le_of_ble_eq_true rfl), (Nat.le_of_ble_eq_true rfl)⟩ (Nat.le_of_ble_eq_true rfl) rfl (dcq dc_X2_fillingFor_0 43 rfl) ?_
        rintro _ _ ⟨rq, rfl, rfl, hq⟩
        change J p l e (cRm 2 48 0 0) s m args below meth c G A 4 (JQ below G A (po_X2_fillingFor G q qv qg qd P M R n v g d t) args s 0 0) 0 0 68 [(3, .int (nI b)), (2, .int (nI a)), (0, .ref q), (1, .int (nI t))] [.long rq] [oB 2 q [.int (nI P), .int (nI M), .int (nI R), .int (nI n), .ref qv, .ref qg, .ref qd], aI G qv 72 v, aZ G qg 72 g, aI G qd 72 d]
        have hq : rq = quo (((v a).toInt64) + ((v b).toInt64)) 2 := hq
        refine J_l2i F (v := rq.toInt32) (dcq dc_X2_fillingFor_0 44 rfl) rfl ?_
        exact J_iret F ⟨rq.toInt32, rfl, rfl, by simp only [filv, hdq, huq, xv]; rw [hq]⟩ (Nat.le_of_ble_eq_true rfl) (Nat.le_of_ble_eq_true rfl) (dcq dc_X2_fillingFor_0 45 rfl)
      · exact absurd h_8 (nI_nm1 (by have := unb_lt huq; omega))
    · exact absurd h_7 (nI_nm1 (by have := dnb_lt hdq; omega))

abbrev po_X2_fillGaps (G : Gt) (q qv qg qd P M R n : Nat) (v g d : Nat → Int32) : Option Value → va_W → Prop := fun (v9 : Option Value) (w9 : va_W) => ∃ (r : Nat), ∃ (v2 g2 : Nat → Int32), v9 = some (.int (nI r)) ∧ w9 = [oB 2 q [.int (nI P), .int (nI M), .int (nI R), .int (nI n), .ref qv, .ref qg, .ref qd], aI G qv 72 v2, aZ G qg 72 g2, aI G qd 72 d] ∧ (r = cg g n) ∧ (∀ t, t < n → v2 t = if g t = 0 then v t else filv P n v g t) ∧ (∀ t, t < n → g2 t = 0)
set_option maxHeartbeats 4000000 in
set_option maxRecDepth 100000 in
theorem c_X2_fillGaps (l : Launch) (hl : l.stackTraces = false) (G : Gt) (q qv qg qd P M R n : Nat) (v g d : Nat → Int32) (hn : n ≤ 72) (hP : 2 ≤ P) (hP12 : P ≤ 12) (hgb : gb n g) : Con l G yX2_fillGaps cX2_fillGaps 3 (some .int) 3 71 0 0 [.ref q] [oB 2 q [.int (nI P), .int (nI M), .int (nI R), .int (nI n), .ref qv, .ref qg, .ref qd], aI G qv 72 v, aZ G qg 72 g, aI G qd 72 d] (po_X2_fillGaps G q qv qg qd P M R n v g d) := by
  refine Con.of hl cd_X2_fillGaps (Nat.le_of_ble_eq_true rfl) ?_
  intro p e s m args below meth c A F hin9
  change Fx p l s m args meth c G A "SeasonalAdjuster$Series" cX2_fillGaps 3 (some .int) at F
  change J p l e (cRm 3 71 0 0) s m args below meth c G A 3 (JQ below G A (po_X2_fillGaps G q qv qg qd P M R n v g d) args s 0 0) 0 0 0 [(0, .ref q)] [] [oB 2 q [.int (nI P), .int (nI M), .int (nI R), .int (nI n), .ref qv, .ref qg, .ref qd], aI G qv 72 v, aZ G qg 72 g, aI G qd 72 d]
  refine J_iconst F (dcq dc_X2_fillGaps_0 0 rfl) ic_0 ?_
  refine J_istore_n F (lv2 := [(1, .int (nI 0)), (0, .ref q)]) (dcq dc_X2_fillGaps_0 1 rfl) rfl (Nat.le_of_ble_eq_true rfl) rfl ?_
  have L2 : ∀ (fu2 : Nat), ∀ (t : Nat) (va : Nat → Int32), (t ≤ n) → (∀ j, 0 ≤ j → j < t → va j = if g j = 0 then v j else filv P n v g j) → (∀ j, t ≤ j → va j = v j) → n - t < fu2 → J p l e (cRm 3 71 0 0) s m args below meth c G A 3 (JQ below G A (po_X2_fillGaps G q qv qg qd P M R n v g d) args s 0 0) 0 0 2 [(0, .ref q), (1, .int (nI t))] [] [oB 2 q [.int (nI P), .int (nI M), .int (nI R), .int (nI n), .ref qv, .ref qg, .ref qd], aI G qv 72 va, aZ G qg 72 g, aI G qd 72 d] := by
    intro fu2
    induction fu2 with
    | zero => intro t va ht iv iw hm2; exact absurd hm2 (Nat.not_lt_zero _)
    | succ fu2 ih2 =>
      intro t va ht iv iw hm2
      have hcon : ∀ j, j < n → g j = 0 → va j = v j := fun j h1 h2 => by
        rcases Nat.lt_or_ge j t with h3 | h3
        · rw [iv j (Nat.zero_le _) h3, if_pos h2]
        · exact iw j h3
      refine J_iload_n F 1 (dcq dc_X2_fillGaps_0 2 rfl) rfl rfl ?_
      refine J_aload_n F 0 (dcq dc_X2_fillGaps_0 3 rfl) rfl rfl ?_
      refine J_get F fcX2 0 3 rfl (Nat.le_of_ble_eq_true rfl) tw_1_36 rfl rfl (dcq dc_X2_fillGaps_0 4 rfl) ?_
      refine J_ncmp_ge F 36 (by omega) (by omega) (dcq dc_X2_fillGaps_0 5 rfl) (by decide) (fun h_1 => ?_) (fun h_1 => ?_)
      · skip
        refine J_aload_n F 0 (dcq dc_X2_fillGaps_0 20 rfl) rfl rfl ?_
        refine J_callV F (wc := [oB 2 q [.int (nI P), .int (nI M), .int (nI R), .int (nI n), .ref qv, .ref qg, .ref qd], aI G qv 72 va, aZ G qg 72 g, aI G qd 72 d]) (wr := []) (rest := []) (qc := 0) (c_X2_countGaps l hl G q qv qg qd P M R n va g d (by first | assumption | omega)) cd_X2_countGaps cv_X2_countGaps rfl rfl rfl tw_1_175 [0, 1, 2, 3] [] rfl rfl rfl rfl (by decide) rfl ⟨(Nat.le_of_ble_eq_true rfl), (Nat.le_of_ble_eq_true rfl), (Nat.le_of_ble_eq_true rfl), (Nat.le_of_ble_eq_true rfl)⟩ (Nat.le_of_ble_eq_true rfl) rfl (dcq dc_X2_fillGaps_0 21 rfl) ?_
        rintro _ _ ⟨k, rfl, rfl, hk⟩
        change J p l e (cRm 3 71 0 0) s m args below meth c G A 3 (JQ below G A (po_X2_fillGaps G q qv qg qd P M R n v g d) args s 0 0) 0 0 40 [(0, .ref q), (1, .int (nI t))] [.int (nI k)] [oB 2 q [.int (nI P), .int (nI M), .int (nI R), .int (nI n), .ref qv, .ref qg, .ref qd], aI G qv 72 va, aZ G qg 72 g, aI G qd 72 d]
        have hk : k = cg g n := hk
        refine J_istore_n F (lv2 := [(1, .int (nI k)), (0, .ref q)]) (dcq dc_X2_fillGaps_0 22 rfl) rfl (Nat.le_of_ble_eq_true rfl) rfl ?_
        refine J_iconst F (dcq dc_X2_fillGaps_0 23 rfl) ic_0 ?_
        refine J_istore_n F (lv2 := [(2, .int (nI 0)), (1, .int (nI k)), (0, .ref q)]) (dcq dc_X2_fillGaps_0 24 rfl) rfl (Nat.le_of_ble_eq_true rfl) rfl ?_
        have L43 : ∀ (fu43 : Nat), ∀ (t : Nat) (ga : Nat → Int32), (t ≤ n) → (∀ j, 0 ≤ j → j < t → ga j = 0) → n - t < fu43 → J p l e (cRm 3 71 0 0) s m args below meth c G A 3 (JQ below G A (po_X2_fillGaps G q qv qg qd P M R n v g d) args s 0 0) 0 0 43 [(0, .ref q), (1, .int (nI k)), (2, .int (nI t))] [] [oB 2 q [.int (nI P), .int (nI M), .int (nI R), .int (nI n), .ref qv, .ref qg, .ref qd], aI G qv 72 va, aZ G qg 72 ga, aI G qd 72 d] := by
          intro fu43
          induction fu43 with
          | zero => intro t ga ht2 ig hm43; exact absurd hm43 (Nat.not_lt_zero _)
          | succ fu43 ih43 =>
            intro t ga ht2 ig hm43
            refine J_iload_n F 2 (dcq dc_X2_fillGaps_0 25 rfl) rfl rfl ?_
            refine J_aload_n F 0 (dcq dc_X2_fillGaps_0 26 rfl) rfl rfl ?_
            refine J_get F fcX2 0 3 rfl (Nat.le_of_ble_eq_true rfl) tw_1_36 rfl rfl (dcq dc_X2_fillGaps_0 27 rfl) ?_
            refine J_ncmp_ge F 64 (by omega) (by omega) (dcq dc_X2_fillGaps_0 28 rfl) (by decide) (fun h_2 => ?_) (fun h_2 => ?_)
            · skip
              refine J_iload_n F 1 (dcq dc_X2_fillGaps_0 36 rfl) rfl rfl ?_
              exact J_iret F ⟨k, va, ga, rfl, rfl, hk, fun j h => iv j (Nat.zero_le _) (by omega), fun j h => ig j (Nat.zero_le _) (by omega)⟩ (Nat.le_of_ble_eq_true rfl) (Nat.le_of_ble_eq_true rfl) (dcq dc_X2_fillGaps_0 37 rfl)
            · skip
              refine J_aload_n F 0 (dcq dc_X2_fillGaps_0 29 rfl) rfl rfl ?_
              refine J_get F fcX2 0 5 rfl (Nat.le_of_ble_eq_true rfl) tw_1_42 rfl rfl (dcq dc_X2_fillGaps_0 30 rfl) ?_
              refine J_iload_n F 2 (dcq dc_X2_fillGaps_0 31 rfl) rfl rfl ?_
              refine J_iconst F (dcq dc_X2_fillGaps_0 32 rfl) ic_0 ?_
              refine J_zast F (ws2 := [oB 2 q [.int (nI P), .int (nI M), .int (nI R), .int (nI n), .ref qv, .ref qg, .ref qd], aI G qv 72 va, aZ G qg 72 (upd ga t (nI 0)), aI G qd 72 d]) 2 rfl (by omega) (Nat.le_of_ble_eq_true rfl) (by decide) rfl (dcq dc_X2_fillGaps_0 33 rfl) ?_
              refine J_iinc F (lv2 := [(2, .int (nI (t + 1))), (0, .ref q), (1, .int (nI k))]) (v := nI (t + 1)) 2 (dcq dc_X2_fillGaps_0 34 rfl) rfl (nI_inc _) (Nat.le_of_ble_eq_true rfl) rfl ?_
              refine J_goto F 43 (dcq dc_X2_fillGaps_0 35 rfl) (by decide) ?_
              refine J_locs [1, 2, 0] rfl ?_
              exact ih43 (t + 1) (upd ga t (nI 0)) (by omega) (up_i (s := fun _ => 0) ig nI_0) (by omega)
        refine J_locs [2, 1, 0] rfl ?_
        exact L43 (n - 0 + 1) 0 g (by omega) (fun j _ h => absurd h (Nat.not_lt_zero _)) (Nat.lt_succ_self _)
      · skip
        refine J_aload_n F 0 (dcq dc_X2_fillGaps_0 6 rfl) rfl rfl ?_
        refine J_get F fcX2 0 5 rfl (Nat.le_of_ble_eq_true rfl) tw_1_42 rfl rfl (dcq dc_X2_fillGaps_0 7 rfl) ?_
        refine J_iload_n F 1 (dcq dc_X2_fillGaps_0 8 rfl) rfl rfl ?_
        refine J_zald F 2 rfl (by omega) (Nat.le_of_ble_eq_true rfl) (dcq dc_X2_fillGaps_0 9 rfl) ?_
        refine J_if_eq F 30 (dcq dc_X2_fillGaps_0 10 rfl) (by decide) (fun h_3 => ?_) (fun h_3 => ?_)
        · skip
          have hgt := h_3
          refine J_iinc F (lv2 := [(1, .int (nI (t + 1))), (0, .ref q)]) (v := nI (t + 1)) 1 (dcq dc_X2_fillGaps_0 18 rfl) rfl (nI_inc _) (Nat.le_of_ble_eq_true rfl) rfl ?_
          refine J_goto F 2 (dcq dc_X2_fillGaps_0 19 rfl) (by decide) ?_
          refine J_locs [1, 0] rfl ?_
          exact ih2 (t + 1) va (by omega) (by first | exact up_i iv (by rw [if_neg hgt]; rw [hf]; exact filv_congr (by omega) hcon) | exact up_lt iv (fun _ _ => rfl) (by rw [if_pos hgt]; exact iw t (Nat.le_refl _))) (fun j h => by first | (rw [pk_un (by omega)]; exact iw j (by omega)) | exact iw j (by omega)) (by omega)
        · skip
          have hgt := h_3
          refine J_aload_n F 0 (dcq dc_X2_fillGaps_0 11 rfl) rfl rfl ?_
          refine J_get F fcX2 0 4 rfl (Nat.le_of_ble_eq_true rfl) tw_1_39 rfl rfl (dcq dc_X2_fillGaps_0 12 rfl) ?_
          refine J_iload_n F 1 (dcq dc_X2_fillGaps_0 13 rfl) rfl rfl ?_
          refine J_aload_n F 0 (dcq dc_X2_fillGaps_0 14 rfl) rfl rfl ?_
          refine J_iload_n F 1 (dcq dc_X2_fillGaps_0 15 rfl) rfl rfl ?_
          refine J_callV F (wc := [oB 2 q [.int (nI P), .int (nI M), .int (nI R), .int (nI n), .ref qv, .ref qg, .ref qd], aI G qv 72 va, aZ G qg 72 g, aI G qd 72 d]) (wr := []) (rest := [.int (nI t), .ref qv]) (qc := 0) (c_X2_fillingFor l hl G q qv qg qd P M R n va g d t (by first | assumption | omega) (by first | assumption | omega) (by first | assumption | omega) (by first | assumption | omega)) cd_X2_fillingFor cv_X2_fillingFor rfl rfl rfl tw_3_49 [0, 1, 2, 3] [] rfl rfl rfl rfl (by decide) rfl ⟨(Nat.le_of_ble_eq_true rfl), (Nat.le_of_ble_eq_true rfl), (Nat.le_of_ble_eq_true rfl), (Nat.le_of_ble_eq_true rfl)⟩ (Nat.le_of_ble_eq_true rfl) rfl (dcq dc_X2_fillGaps_0 16 rfl) ?_
          rintro _ _ ⟨rf, rfl, rfl, hf⟩
          change J p l e (cRm 3 71 0 0) s m args below meth c G A 3 (JQ below G A (po_X2_fillGaps G q qv qg qd P M R n v g d) args s 0 0) 0 0 29 [(0, .ref q), (1, .int (nI t))] [.int rf, .int (nI t), .ref qv] [oB 2 q [.int (nI P), .int (nI M), .int (nI R), .int (nI n), .ref qv, .ref qg, .ref qd], aI G qv 72 va, aZ G qg 72 g, aI G qd 72 d]
          have hf : rf = filv P n va g t := hf
          refine J_iast F (ws2 := [oB 2 q [.int (nI P), .int (nI M), .int (nI R), .int (nI n), .ref qv, .ref qg, .ref qd], aI G qv 72 (upd va t rf), aZ G qg 72 g, aI G qd 72 d]) 1 rfl (by omega) (Nat.le_of_ble_eq_true rfl) rfl (dcq dc_X2_fillGaps_0 17 rfl) ?_
          refine J_iinc F (lv2 := [(1, .int (nI (t + 1))), (0, .ref q)]) (v := nI (t + 1)) 1 (dcq dc_X2_fillGaps_0 18 rfl) rfl (nI_inc _) (Nat.le_of_ble_eq_true rfl) rfl ?_
          refine J_goto F 2 (dcq dc_X2_fillGaps_0 19 rfl) (by decide) ?_
          refine J_locs [1, 0] rfl ?_
          exact ih2 (t + 1) (upd va t rf) (by omega) (by first | exact up_i iv (by rw [if_neg hgt]; rw [hf]; exact filv_congr (by omega) hcon) | exact up_lt iv (fun _ _ => rfl) (by rw [if_pos hgt]; exact iw t (Nat.le_refl _))) (fun j h => by first | (rw [pk_un (by omega)]; exact iw j (by omega)) | exact iw j (by omega)) (by omega)
  refine J_locs [1, 0] rfl ?_
  exact L2 (n - 0 + 1) 0 v (by omega) (fun j _ h => absurd h (Nat.not_lt_zero _)) (fun _ _ => rfl) (Nat.lt_succ_self _)

abbrev po_X2_sumOfDays (G : Gt) (q qv qg qd P M R n : Nat) (v g d : Nat → Int32) : Option Value → va_W → Prop := fun (v9 : Option Value) (w9 : va_W) => ∃ (r : Int64), v9 = some (.long r) ∧ w9 = [oB 2 q [.int (nI P), .int (nI M), .int (nI R), .int (nI n), .ref qv, .ref qg, .ref qd], aI G qv 72 v, aZ G qg 72 g, aI G qd 72 d] ∧ (r = sm (xv d) 0 n)
set_option maxHeartbeats 4000000 in
set_option maxRecDepth 100000 in
theorem c_X2_sumOfDays (l : Launch) (hl : l.stackTraces = false) (G : Gt) (q qv qg qd P M R n : Nat) (v g d : Nat → Int32) (hn : n ≤ 72) : Con l G yX2_sumOfDays cX2_sumOfDays 4 (some .long) 0 0 0 0 [.ref q] [oB 2 q [.int (nI P), .int (nI M), .int (nI R), .int (nI n), .ref qv, .ref qg, .ref qd], aI G qv 72 v, aZ G qg 72 g, aI G qd 72 d] (po_X2_sumOfDays G q qv qg qd P M R n v g d) := by
  refine Con.of hl cd_X2_sumOfDays (Nat.le_of_ble_eq_true rfl) ?_
  intro p e s m args below meth c A F hin9
  change Fx p l s m args meth c G A "SeasonalAdjuster$Series" cX2_sumOfDays 4 (some .long) at F
  change J p l e (cRm 0 0 0 0) s m args below meth c G A 4 (JQ below G A (po_X2_sumOfDays G q qv qg qd P M R n v g d) args s 0 0) 0 0 0 [(0, .ref q)] [] [oB 2 q [.int (nI P), .int (nI M), .int (nI R), .int (nI n), .ref qv, .ref qg, .ref qd], aI G qv 72 v, aZ G qg 72 g, aI G qd 72 d]
  refine J_lconst F (dcq dc_X2_sumOfDays_0 0 rfl) lc_0 ?_
  refine J_lstore_n F (lv2 := [(1, .long 0), (0, .ref q)]) (dcq dc_X2_sumOfDays_0 1 rfl) rfl (Nat.le_of_ble_eq_true rfl) rfl ?_
  refine J_iconst F (dcq dc_X2_sumOfDays_0 2 rfl) ic_0 ?_
  refine J_istore_n F (lv2 := [(3, .int (nI 0)), (1, .long 0), (0, .ref q)]) (dcq dc_X2_sumOfDays_0 3 rfl) rfl (Nat.le_of_ble_eq_true rfl) rfl ?_
  have L4 : ∀ (fu4 : Nat), ∀ (t : Nat) (x : Int64), (t ≤ n) → (x = sm (xv d) 0 t) → n - t < fu4 → J p l e (cRm 0 0 0 0) s m args below meth c G A 4 (JQ below G A (po_X2_sumOfDays G q qv qg qd P M R n v g d) args s 0 0) 0 0 4 [(0, .ref q), (1, .long x), (3, .int (nI t))] [] [oB 2 q [.int (nI P), .int (nI M), .int (nI R), .int (nI n), .ref qv, .ref qg, .ref qd], aI G qv 72 v, aZ G qg 72 g, aI G qd 72 d] := by
    intro fu4
    induction fu4 with
    | zero => intro t x ht iv hm4; exact absurd hm4 (Nat.not_lt_zero _)
    | succ fu4 ih4 =>
      intro t x ht iv hm4
      refine J_iload_n F 2 (dcq dc_X2_sumOfDays_0 4 rfl) rfl rfl ?_
      refine J_aload_n F 0 (dcq dc_X2_sumOfDays_0 5 rfl) rfl rfl ?_
      refine J_get F fcX2 0 3 rfl (Nat.le_of_ble_eq_true rfl) tw_1_36 rfl rfl (dcq dc_X2_sumOfDays_0 6 rfl) ?_
      refine J_ncmp_ge F 28 (by omega) (by omega) (dcq dc_X2_sumOfDays_0 7 rfl) (by decide) (fun h_1 => ?_) (fun h_1 => ?_)
      · skip
        refine J_lload_n F 1 (dcq dc_X2_sumOfDays_0 18 rfl) rfl rfl ?_
        exact J_lret F ⟨x, rfl, rfl, by rw [iv, show t = n by omega]⟩ (Nat.le_of_ble_eq_true rfl) (Nat.le_of_ble_eq_true rfl) (dcq dc_X2_sumOfDays_0 19 rfl)
      · skip
        refine J_lload_n F 1 (dcq dc_X2_sumOfDays_0 8 rfl) rfl rfl ?_
        refine J_aload_n F 0 (dcq dc_X2_sumOfDays_0 9 rfl) rfl rfl ?_
        refine J_get F fcX2 0 6 rfl (Nat.le_of_ble_eq_true rfl) tw_1_44 rfl rfl (dcq dc_X2_sumOfDays_0 10 rfl) ?_
        refine J_iload_n F 2 (dcq dc_X2_sumOfDays_0 11 rfl) rfl rfl ?_
        refine J_iald F 3 rfl (by omega) (Nat.le_of_ble_eq_true rfl) (dcq dc_X2_sumOfDays_0 12 rfl) ?_
        refine J_i2l F (v := (d t).toInt64) (dcq dc_X2_sumOfDays_0 13 rfl) rfl ?_
        refine J_ladd F (v := x + ((d t).toInt64)) (dcq dc_X2_sumOfDays_0 14 rfl) rfl ?_
        refine J_lstore_n F (lv2 := [(1, .long (x + ((d t).toInt64))), (0, .ref q), (3, .int (nI t))]) (dcq dc_X2_sumOfDays_0 15 rfl) rfl (Nat.le_of_ble_eq_true rfl) rfl ?_
        refine J_iinc F (lv2 := [(3, .int (nI (t + 1))), (1, .long (x + ((d t).toInt64))), (0, .ref q)]) (v := nI (t + 1)) 2 (dcq dc_X2_sumOfDays_0 16 rfl) rfl (nI_inc _) (Nat.le_of_ble_eq_true rfl) rfl ?_
        refine J_goto F 4 (dcq dc_X2_sumOfDays_0 17 rfl) (by decide) ?_
        refine J_locs [2, 1, 0] rfl ?_
        exact ih4 (t + 1) (x + ((d t).toInt64)) (by omega) (by simp only [sm, xv, Nat.zero_add]; rw [iv]) (by omega)
  refine J_locs [2, 1, 0] rfl ?_
  exact L4 (n - 0 + 1) 0 0 (by omega) (rfl) (Nat.lt_succ_self _)

abbrev po_X2_excessDays (G : Gt) (q qv qg qd P M R n : Nat) (v g d : Nat → Int32) (t : Nat) (x : Int64) : Option Value → va_W → Prop := fun (v9 : Option Value) (w9 : va_W) => ∃ (r : Int64), v9 = some (.long r) ∧ w9 = [oB 2 q [.int (nI P), .int (nI M), .int (nI R), .int (nI n), .ref qv, .ref qg, .ref qd], aI G qv 72 v, aZ G qg 72 g, aI G qd 72 d] ∧ (r = exd n d x t)
set_option maxHeartbeats 4000000 in
set_option maxRecDepth 100000 in
theorem c_X2_excessDays (l : Launch) (hl : l.stackTraces = false) (G : Gt) (q qv qg qd P M R n : Nat) (v g d : Nat → Int32) (t : Nat) (x : Int64) (hn : n ≤ 72) (ht : t < n) : Con l G yX2_excessDays cX2_excessDays 4 (some .long) 0 0 0 0 [.ref q, .int (nI t), .long x] [oB 2 q [.int (nI P), .int (nI M), .int (nI R), .int (nI n), .ref qv, .ref qg, .ref qd], aI G qv 72 v, aZ G qg 72 g, aI G qd 72 d] (po_X2_excessDays G q qv qg qd P M R n v g d t x) := by
  refine Con.of hl cd_X2_excessDays (Nat.le_of_ble_eq_true rfl) ?_
  intro p e s m args below meth c A F hin9
  change Fx p l s m args meth c G A "SeasonalAdjuster$Series" cX2_excessDays 4 (some .long) at F
  change J p l e (cRm 0 0 0 0) s m args below meth c G A 4 (JQ below G A (po_X2_excessDays G q qv qg qd P M R n v g d t x) args s 0 0) 0 0 0 [(0, .ref q), (1, .int (nI t)), (2, .long x)] [] [oB 2 q [.int (nI P), .int (nI M), .int (nI R), .int (nI n), .ref qv, .ref qg, .ref qd], aI G qv 72 v, aZ G qg 72 g, aI G qd 72 d]
  refine J_aload_n F 0 (dcq dc_X2_excessDays_0 0 rfl) rfl rfl ?_
  refine J_get F fcX2 0 3 rfl (Nat.le_of_ble_eq_true rfl) tw_1_36 rfl rfl (dcq dc_X2_excessDays_0 1 rfl) ?_
  refine J_i2l F (v := lN n) (dcq dc_X2_excessDays_0 2 rfl) (nI_l (by omega)) ?_
  refine J_aload_n F 0 (dcq dc_X2_excessDays_0 3 rfl) rfl rfl ?_
  refine J_get F fcX2 0 6 rfl (Nat.le_of_ble_eq_true rfl) tw_1_44 rfl rfl (dcq dc_X2_excessDays_0 4 rfl) ?_
  refine J_iload_n F 1 (dcq dc_X2_excessDays_0 5 rfl) rfl rfl ?_
  refine J_iald F 3 rfl (by omega) (Nat.le_of_ble_eq_true rfl) (dcq dc_X2_excessDays_0 6 rfl) ?_
  refine J_i2l F (v := (d t).toInt64) (dcq dc_X2_excessDays_0 7 rfl) rfl ?_
  refine J_lmul F (v := (lN n) * ((d t).toInt64)) (dcq dc_X2_excessDays_0 8 rfl) rfl ?_
  refine J_lload_n F 2 (dcq dc_X2_excessDays_0 9 rfl) rfl rfl ?_
  refine J_lsub F (v := ((lN n) * ((d t).toInt64)) - x) (dcq dc_X2_excessDays_0 10 rfl) rfl ?_
  exact J_lret F ⟨((lN n) * ((d t).toInt64)) - x, rfl, rfl, rfl⟩ (Nat.le_of_ble_eq_true rfl) (Nat.le_of_ble_eq_true rfl) (dcq dc_X2_excessDays_0 11 rfl)

abbrev po_X2_subtractDays (G : Gt) (q qv qg qd P M R n : Nat) (v g d : Nat → Int32) (B : Int64) : Option Value → va_W → Prop := fun (v9 : Option Value) (w9 : va_W) => ∃ (r : Nat), ∃ (v2 : Nat → Int32), v9 = some (.int (nI r)) ∧ w9 = [oB 2 q [.int (nI P), .int (nI M), .int (nI R), .int (nI n), .ref qv, .ref qg, .ref qd], aI G qv 72 v2, aZ G qg 72 g, aI G qd 72 d] ∧ (r = chg n v d B (sm (xv d) 0 n) n) ∧ (∀ t, t < n → v2 t = (sdv n v d B (sm (xv d) 0 n) t).toInt32)
set_option maxHeartbeats 4000000 in
set_option maxRecDepth 100000 in
theorem c_X2_subtractDays (l : Launch) (hl : l.stackTraces = false) (G : Gt) (q qv qg qd P M R n : Nat) (v g d : Nat → Int32) (B : Int64) (hn : n ≤ 72) : Con l G yX2_subtractDays cX2_subtractDays 11 (some .int) 1 29 0 0 [.ref q, .long B] [oB 2 q [.int (nI P), .int (nI M), .int (nI R), .int (nI n), .ref qv, .ref qg, .ref qd], aI G qv 72 v, aZ G qg 72 g, aI G qd 72 d] (po_X2_subtractDays G q qv qg qd P M R n v g d B) := by
  refine Con.of hl cd_X2_subtractDays (Nat.le_of_ble_eq_true rfl) ?_
  intro p e s m args below meth c A F hin9
  change Fx p l s m args meth c G A "SeasonalAdjuster$Series" cX2_subtractDays 11 (some .int) at F
  change J p l e (cRm 1 29 0 0) s m args below meth c G A 11 (JQ below G A (po_X2_subtractDays G q qv qg qd P M R n v g d B) args s 0 0) 0 0 0 [(0, .ref q), (1, .long B)] [] [oB 2 q [.int (nI P), .int (nI M), .int (nI R), .int (nI n), .ref qv, .ref qg, .ref qd], aI G qv 72 v, aZ G qg 72 g, aI G qd 72 d]
  refine J_aload_n F 0 (dcq dc_X2_subtractDays_0 0 rfl) rfl rfl ?_
  refine J_callV F (wc := [oB 2 q [.int (nI P), .int (nI M), .int (nI R), .int (nI n), .ref qv, .ref qg, .ref qd], aI G qv 72 v, aZ G qg 72 g, aI G qd 72 d]) (wr := []) (rest := []) (qc := 0) (c_X2_sumOfDays l hl G q qv qg qd P M R n v g d (by first | assumption | omega)) cd_X2_sumOfDays cv_X2_sumOfDays rfl rfl rfl tw_3_196 [0, 1, 2, 3] [] rfl rfl rfl rfl (by decide) rfl ⟨(Nat.le_of_ble_eq_true rfl), (Nat.le_of_ble_eq_true rfl), (Nat.le_of_ble_eq_true rfl), (Nat.le_of_ble_eq_true rfl)⟩ (Nat.le_of_ble_eq_true rfl) rfl (dcq dc_X2_subtractDays_0 1 rfl) ?_
  rintro _ _ ⟨tot, rfl, rfl, htot⟩
  change J p l e (cRm 1 29 0 0) s m args below meth c G A 11 (JQ below G A (po_X2_subtractDays G q qv qg qd P M R n v g d B) args s 0 0) 0 0 4 [(0, .ref q), (1, .long B)] [.long tot] [oB 2 q [.int (nI P), .int (nI M), .int (nI R), .int (nI n), .ref qv, .ref qg, .ref qd], aI G qv 72 v, aZ G qg 72 g, aI G qd 72 d]
  have htot : tot = sm (xv d) 0 n := htot
  refine J_lstore_n F (lv2 := [(3, .long tot), (0, .ref q), (1, .long B)]) (dcq dc_X2_subtractDays_0 2 rfl) rfl (Nat.le_of_ble_eq_true rfl) rfl ?_
  refine J_iconst F (dcq dc_X2_subtractDays_0 3 rfl) ic_0 ?_
  refine J_istore F (lv2 := [(5, .int (nI 0)), (3, .long tot), (0, .ref q), (1, .long B)]) (dcq dc_X2_subtractDays_0 4 rfl) (Nat.le_of_ble_eq_true rfl) rfl ?_
  refine J_iconst F (dcq dc_X2_subtractDays_0 5 rfl) ic_0 ?_
  refine J_istore F (lv2 := [(6, .int (nI 0)), (5, .int (nI 0)), (3, .long tot), (0, .ref q), (1, .long B)]) (dcq dc_X2_subtractDays_0 6 rfl) (Nat.le_of_ble_eq_true rfl) rfl ?_
  have L11 : ∀ (fu11 : Nat), ∀ (t k : Nat) (va : Nat → Int32), (t ≤ n) → (k = chg n v d B tot t) → (∀ j, 0 ≤ j → j < t → va j = (sdv n v d B tot j).toInt32) → (∀ j, t ≤ j → va j = v j) → n - t < fu11 → J p l e (cRm 1 29 0 0) s m args below meth c G A 11 (JQ below G A (po_X2_subtractDays G q qv qg qd P M R n v g d B) args s 0 0) 0 0 11 [(0, .ref q), (1, .long B), (3, .long tot), (5, .int (nI k)), (6, .int (nI t))] [] [oB 2 q [.int (nI P), .int (nI M), .int (nI R), .int (nI n), .ref qv, .ref qg, .ref qd], aI G qv 72 va, aZ G qg 72 g, aI G qd 72 d] := by
    intro fu11
    induction fu11 with
    | zero => intro t k va ht ik iv iw hm11; exact absurd hm11 (Nat.not_lt_zero _)
    | succ fu11 ih11 =>
      intro t k va ht ik iv iw hm11
      have hck := chg_le n v d B tot t
      refine J_iload F 4 (dcq dc_X2_subtractDays_0 7 rfl) rfl ?_
      refine J_aload_n F 0 (dcq dc_X2_subtractDays_0 8 rfl) rfl rfl ?_
      refine J_get F fcX2 0 3 rfl (Nat.le_of_ble_eq_true rfl) tw_1_36 rfl rfl (dcq dc_X2_subtractDays_0 9 rfl) ?_
      refine J_ncmp_ge F 101 (by omega) (by omega) (dcq dc_X2_subtractDays_0 10 rfl) (by decide) (fun h_1 => ?_) (fun h_1 => ?_)
      · skip
        refine J_iload F 3 (dcq dc_X2_subtractDays_1 5 rfl) rfl ?_
        exact J_iret F ⟨k, va, rfl, rfl, by rw [ik, htot, show t = n by omega], fun j h => by rw [← htot]; exact iv j (Nat.zero_le _) (by omega)⟩ (Nat.le_of_ble_eq_true rfl) (Nat.le_of_ble_eq_true rfl) (dcq dc_X2_subtractDays_1 6 rfl)
      · skip
        refine J_lload_n F 1 (dcq dc_X2_subtractDays_0 11 rfl) rfl rfl ?_
        refine J_aload_n F 0 (dcq dc_X2_subtractDays_0 12 rfl) rfl rfl ?_
        refine J_iload F 4 (dcq dc_X2_subtractDays_0 13 rfl) rfl ?_
        refine J_lload_n F 2 (dcq dc_X2_subtractDays_0 14 rfl) rfl rfl ?_
        refine J_callV F (wc := [oB 2 q [.int (nI P), .int (nI M), .int (nI R), .int (nI n), .ref qv, .ref qg, .ref qd], aI G qv 72 va, aZ G qg 72 g, aI G qd 72 d]) (wr := []) (rest := [.long B]) (qc := 0) (c_X2_excessDays l hl G q qv qg qd P M R n va g d t tot (by first | assumption | omega) (by first | assumption | omega)) cd_X2_excessDays cv_X2_excessDays rfl rfl rfl tw_3_197 [0, 1, 2, 3] [] rfl rfl rfl rfl (by decide) rfl ⟨(Nat.le_of_ble_eq_true rfl), (Nat.le_of_ble_eq_true rfl), (Nat.le_of_ble_eq_true rfl), (Nat.le_of_ble_eq_true rfl)⟩ (Nat.le_of_ble_eq_true rfl) rfl (dcq dc_X2_subtractDays_0 15 rfl) ?_
        rintro _ _ ⟨xe, rfl, rfl, hxe⟩
        change J p l e (cRm 1 29 0 0) s m args below meth c G A 11 (JQ below G A (po_X2_subtractDays G q qv qg qd P M R n v g d B) args s 0 0) 0 0 28 [(0, .ref q), (1, .long B), (3, .long tot), (5, .int (nI k)), (6, .int (nI t))] [.long xe, .long B] [oB 2 q [.int (nI P), .int (nI M), .int (nI R), .int (nI n), .ref qv, .ref qg, .ref qd], aI G qv 72 va, aZ G qg 72 g, aI G qd 72 d]
        have hxe : xe = exd n d tot t := hxe
        refine J_lmul F (v := B * xe) (dcq dc_X2_subtractDays_0 16 rfl) rfl ?_
        refine J_ldc2 F (v2 := (1000)) tw_3_198 rfl (dcq dc_X2_subtractDays_0 17 rfl) ?_
        refine J_aload_n F 0 (dcq dc_X2_subtractDays_0 18 rfl) rfl rfl ?_
        refine J_get F fcX2 0 3 rfl (Nat.le_of_ble_eq_true rfl) tw_1_36 rfl rfl (dcq dc_X2_subtractDays_0 19 rfl) ?_
        refine J_i2l F (v := lN n) (dcq dc_X2_subtractDays_0 20 rfl) (nI_l (by omega)) ?_
        refine J_lmul F (v := 1000 * (lN n)) (dcq dc_X2_subtractDays_0 21 rfl) rfl ?_
        refine J_callSN F (wc := []) (wr := [oB 2 q [.int (nI P), .int (nI M), .int (nI R), .int (nI n), .ref qv, .ref qg, .ref qd], aI G qv 72 va, aZ G qg 72 g, aI G qd 72 d]) (rest := []) (c_X3_quotient l hl G (B * xe) (1000 * (lN n))) cd_X3_quotient tw_2_27 nt_Series_58 [] [0, 1, 2, 3] rfl rfl rfl rfl (by decide) rfl ⟨(Nat.le_of_ble_eq_true rfl), (Nat.le_of_ble_eq_true rfl), (Nat.le_of_ble_eq_true rfl), (Nat.le_of_ble_eq_true rfl)⟩ (Nat.le_of_ble_eq_true rfl) rfl (dcq dc_X2_subtractDays_0 22 rfl) ?_
        rintro _ _ ⟨xq, rfl, rfl, hxq⟩
        change J p l e (cRm 1 29 0 0) s m args below meth c G A 11 (JQ below G A (po_X2_subtractDays G q qv qg qd P M R n v g d B) args s 0 0) 0 0 41 [(0, .ref q), (1, .long B), (3, .long tot), (5, .int (nI k)), (6, .int (nI t))] [.long xq] [oB 2 q [.int (nI P), .int (nI M), .int (nI R), .int (nI n), .ref qv, .ref qg, .ref qd], aI G qv 72 va, aZ G qg 72 g, aI G qd 72 d]
        have hxq : xq = quo (B * xe) (1000 * (lN n)) := hxq
        have hva := iw t (Nat.le_refl t)
        refine J_lstore F (lv2 := [(7, .long xq), (0, .ref q), (1, .long B), (3, .long tot), (5, .int (nI k)), (6, .int (nI t))]) (dcq dc_X2_subtractDays_0 23 rfl) (Nat.le_of_ble_eq_true rfl) rfl ?_
        refine J_ldc2 F (v2 := (-1000000)) tw_3_199 rfl (dcq dc_X2_subtractDays_0 24 rfl) ?_
        refine J_ldc2 F (v2 := (1000000)) tw_3_200 rfl (dcq dc_X2_subtractDays_0 25 rfl) ?_
        refine J_aload_n F 1 (dcq dc_X2_subtractDays_0 26 rfl) rfl rfl ?_
        refine J_get F fcX2 0 4 rfl (Nat.le_of_ble_eq_true rfl) tw_1_39 rfl rfl (dcq dc_X2_subtractDays_0 27 rfl) ?_
        refine J_iload F 5 (dcq dc_X2_subtractDays_0 28 rfl) rfl ?_
        refine J_iald F 1 rfl (by omega) (Nat.le_of_ble_eq_true rfl) (dcq dc_X2_subtractDays_0 29 rfl) ?_
        refine J_i2l F (v := (va t).toInt64) (dcq dc_X2_subtractDays_0 30 rfl) rfl ?_
        refine J_lload F 0 (dcq dc_X2_subtractDays_0 31 rfl) rfl ?_
        refine J_lsub F (v := ((va t).toInt64) - xq) (dcq dc_X2_subtractDays_0 32 rfl) rfl ?_
        refine J_mminl F (v := if ((va t).toInt64) - xq < 1000000 then ((va t).toInt64) - xq else 1000000) tw_3_201 tw_3_202 tw_1_12 tw_mminl ⟨(Nat.le_of_ble_eq_true rfl), (Nat.le_of_ble_eq_true rfl), (Nat.le_of_ble_eq_true rfl), (Nat.le_of_ble_eq_true rfl)⟩ rfl (dcq dc_X2_subtractDays_0 33 rfl) ?_
        refine J_mmaxl F (v := if (if ((va t).toInt64) - xq < 1000000 then ((va t).toInt64) - xq else 1000000) < (-1000000) then (-1000000) else (if ((va t).toInt64) - xq < 1000000 then ((va t).toInt64) - xq else 1000000)) tw_3_204 tw_2_56 tw_1_12 tw_mmaxl ⟨(Nat.le_of_ble_eq_true rfl), (Nat.le_of_ble_eq_true rfl), (Nat.le_of_ble_eq_true rfl), (Nat.le_of_ble_eq_true rfl)⟩ rfl (dcq dc_X2_subtractDays_0 34 rfl) ?_
        have hsd : (if (if (va t).toInt64 - xq < 1000000 then (va t).toInt64 - xq else 1000000) < (-1000000) then (-1000000) else (if (va t).toInt64 - xq < 1000000 then (va t).toInt64 - xq else 1000000)) = sdv n v d B tot t := by
          rw [hva, hxq, hxe]; rfl
        refine J_lstore F (lv2 := [(9, .long (if (if ((va t).toInt64) - xq < 1000000 then ((va t).toInt64) - xq else 1000000) < (-1000000) then (-1000000) else (if ((va t).toInt64) - xq < 1000000 then ((va t).toInt64) - xq else 1000000))), (7, .long xq), (0, .ref q), (1, .long B), (3, .long tot), (5, .int (nI k)), (6, .int (nI t))]) (dcq dc_X2_subtractDays_0 35 rfl) (Nat.le_of_ble_eq_true rfl) rfl ?_
        refine J_lload F 0 (dcq dc_X2_subtractDays_0 36 rfl) rfl ?_
        refine J_aload_n F 2 (dcq dc_X2_subtractDays_0 37 rfl) rfl rfl ?_
        refine J_get F fcX2 0 4 rfl (Nat.le_of_ble_eq_true rfl) tw_1_39 rfl rfl (dcq dc_X2_subtractDays_0 38 rfl) ?_
        refine J_iload F 6 (dcq dc_X2_subtractDays_0 39 rfl) rfl ?_
        refine J_iald F 1 rfl (by omega) (Nat.le_of_ble_eq_true rfl) (dcq dc_X2_subtractDays_0 40 rfl) ?_
        refine J_i2l F (v := (va t).toInt64) (dcq dc_X2_subtractDays_0 41 rfl) rfl ?_
        refine J_lcmp_eq F 85 (dcq dc_X2_subtractDays_0 42 rfl) (dcq dc_X2_subtractDays_0 43 rfl) (by decide) (fun h_2 => ?_) (fun h_2 => ?_)
        · skip
          have hcmp : (if (if (va t).toInt64 - xq < 1000000 then (va t).toInt64 - xq else 1000000) < (-1000000) then (-1000000) else (if (va t).toInt64 - xq < 1000000 then (va t).toInt64 - xq else 1000000)) = xv v t := by rw [h_2, hva]; rfl
          refine J_aload_n F 2 (dcq dc_X2_subtractDays_0 45 rfl) rfl rfl ?_
          refine J_get F fcX2 0 4 rfl (Nat.le_of_ble_eq_true rfl) tw_1_39 rfl rfl (dcq dc_X2_subtractDays_0 46 rfl) ?_
          refine J_iload F 6 (dcq dc_X2_subtractDays_0 47 rfl) rfl ?_
          refine J_lload F 0 (dcq dc_X2_subtractDays_1 0 rfl) rfl ?_
          refine J_l2i F (v := (if (if ((va t).toInt64) - xq < 1000000 then ((va t).toInt64) - xq else 1000000) < (-1000000) then (-1000000) else (if ((va t).toInt64) - xq < 1000000 then ((va t).toInt64) - xq else 1000000)).toInt32) (dcq dc_X2_subtractDays_1 1 rfl) rfl ?_
          refine J_iast F (ws2 := [oB 2 q [.int (nI P), .int (nI M), .int (nI R), .int (nI n), .ref qv, .ref qg, .ref qd], aI G qv 72 (upd va t ((if (if ((va t).toInt64) - xq < 1000000 then ((va t).toInt64) - xq else 1000000) < (-1000000) then (-1000000) else (if ((va t).toInt64) - xq < 1000000 then ((va t).toInt64) - xq else 1000000)).toInt32)), aZ G qg 72 g, aI G qd 72 d]) 1 rfl (by omega) (Nat.le_of_ble_eq_true rfl) rfl (dcq dc_X2_subtractDays_1 2 rfl) ?_
          refine J_iinc F (lv2 := [(6, .int (nI (t + 1))), (9, .long (if (if ((va t).toInt64) - xq < 1000000 then ((va t).toInt64) - xq else 1000000) < (-1000000) then (-1000000) else (if ((va t).toInt64) - xq < 1000000 then ((va t).toInt64) - xq else 1000000))), (7, .long xq), (0, .ref q), (1, .long B), (3, .long tot), (5, .int (nI k))]) (v := nI (t + 1)) 6 (dcq dc_X2_subtractDays_1 3 rfl) rfl (nI_inc _) (Nat.le_of_ble_eq_true rfl) rfl ?_
          refine J_goto F 11 (dcq dc_X2_subtractDays_1 4 rfl) (by decide) ?_
          refine J_locs [3, 4, 5, 6, 0] rfl ?_
          exact ih11 (t + 1) k (upd va t ((if (if ((va t).toInt64) - xq < 1000000 then ((va t).toInt64) - xq else 1000000) < (-1000000) then (-1000000) else (if ((va t).toInt64) - xq < 1000000 then ((va t).toInt64) - xq else 1000000)).toInt32)) (by omega) (by simp only [chg]; first | rw [if_pos (hsd.symm.trans hcmp), Nat.add_zero, ik] | rw [if_neg (fun e => hcmp (hsd.trans e)), ik]) (up_i iv (by rw [hsd])) (fun j h => by rw [pk_un (by omega)]; exact iw j (by omega)) (by omega)
        · skip
          have hcmp : ¬ (if (if (va t).toInt64 - xq < 1000000 then (va t).toInt64 - xq else 1000000) < (-1000000) then (-1000000) else (if (va t).toInt64 - xq < 1000000 then (va t).toInt64 - xq else 1000000)) = xv v t := fun e => h_2 (by rw [e, hva]; rfl)
          refine J_iinc F (lv2 := [(5, .int (nI (k + 1))), (9, .long (if (if ((va t).toInt64) - xq < 1000000 then ((va t).toInt64) - xq else 1000000) < (-1000000) then (-1000000) else (if ((va t).toInt64) - xq < 1000000 then ((va t).toInt64) - xq else 1000000))), (7, .long xq), (0, .ref q), (1, .long B), (3, .long tot), (6, .int (nI t))]) (v := nI (k + 1)) 5 (dcq dc_X2_subtractDays_0 44 rfl) rfl (nI_inc _) (Nat.le_of_ble_eq_true rfl) rfl ?_
          refine J_aload_n F 3 (dcq dc_X2_subtractDays_0 45 rfl) rfl rfl ?_
          refine J_get F fcX2 0 4 rfl (Nat.le_of_ble_eq_true rfl) tw_1_39 rfl rfl (dcq dc_X2_subtractDays_0 46 rfl) ?_
          refine J_iload F 6 (dcq dc_X2_subtractDays_0 47 rfl) rfl ?_
          refine J_lload F 1 (dcq dc_X2_subtractDays_1 0 rfl) rfl ?_
          refine J_l2i F (v := (if (if ((va t).toInt64) - xq < 1000000 then ((va t).toInt64) - xq else 1000000) < (-1000000) then (-1000000) else (if ((va t).toInt64) - xq < 1000000 then ((va t).toInt64) - xq else 1000000)).toInt32) (dcq dc_X2_subtractDays_1 1 rfl) rfl ?_
          refine J_iast F (ws2 := [oB 2 q [.int (nI P), .int (nI M), .int (nI R), .int (nI n), .ref qv, .ref qg, .ref qd], aI G qv 72 (upd va t ((if (if ((va t).toInt64) - xq < 1000000 then ((va t).toInt64) - xq else 1000000) < (-1000000) then (-1000000) else (if ((va t).toInt64) - xq < 1000000 then ((va t).toInt64) - xq else 1000000)).toInt32)), aZ G qg 72 g, aI G qd 72 d]) 1 rfl (by omega) (Nat.le_of_ble_eq_true rfl) rfl (dcq dc_X2_subtractDays_1 2 rfl) ?_
          refine J_iinc F (lv2 := [(6, .int (nI (t + 1))), (5, .int (nI (k + 1))), (9, .long (if (if ((va t).toInt64) - xq < 1000000 then ((va t).toInt64) - xq else 1000000) < (-1000000) then (-1000000) else (if ((va t).toInt64) - xq < 1000000 then ((va t).toInt64) - xq else 1000000))), (7, .long xq), (0, .ref q), (1, .long B), (3, .long tot)]) (v := nI (t + 1)) 6 (dcq dc_X2_subtractDays_1 3 rfl) rfl (nI_inc _) (Nat.le_of_ble_eq_true rfl) rfl ?_
          refine J_goto F 11 (dcq dc_X2_subtractDays_1 4 rfl) (by decide) ?_
          refine J_locs [4, 5, 6, 1, 0] rfl ?_
          exact ih11 (t + 1) (k + 1) (upd va t ((if (if ((va t).toInt64) - xq < 1000000 then ((va t).toInt64) - xq else 1000000) < (-1000000) then (-1000000) else (if ((va t).toInt64) - xq < 1000000 then ((va t).toInt64) - xq else 1000000)).toInt32)) (by omega) (by simp only [chg]; first | rw [if_pos (hsd.symm.trans hcmp), Nat.add_zero, ik] | rw [if_neg (fun e => hcmp (hsd.trans e)), ik]) (up_i iv (by rw [hsd])) (fun j h => by rw [pk_un (by omega)]; exact iw j (by omega)) (by omega)
  refine J_locs [3, 4, 2, 1, 0] rfl ?_
  exact L11 (n - 0 + 1) 0 0 v (by omega) (rfl) (fun j _ h => absurd h (Nat.not_lt_zero _)) (fun _ _ => rfl) (Nat.lt_succ_self _)
