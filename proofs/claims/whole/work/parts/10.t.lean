def absL (a : Int64) : Int64 := if a < 0 then -a else a
def qt (a b : Int64) : Int64 := if a < 0 then -(if b - (absL a - absL a / b * b) ≤ absL a - absL a / b * b then absL a / b + 1 else absL a / b) else (if b - (absL a - absL a / b * b) ≤ absL a - absL a / b * b then absL a / b + 1 else absL a / b)
def quo (a b : Int64) : Int64 := if 0 < b then qt a b else 0
def cg (g : Nat → Int32) : Nat → Nat
  | 0 => 0
  | k + 1 => cg g k + (if g k = 0 then 0 else 1)
theorem cg_le (g : Nat → Int32) (k : Nat) : cg g k ≤ k := by
  induction k with
  | zero => exact Nat.le_refl 0
  | succ k ih => simp only [cg]; split <;> omega

abbrev po_X2_half (G : Gt) (q qv qg qd P M R n : Nat) (v g d : Nat → Int32) : Option Value → va_W → Prop := fun (v9 : Option Value) (w9 : va_W) => v9 = some (.int (nI (P / 2))) ∧ w9 = [oB 2 q [.int (nI P), .int (nI M), .int (nI R), .int (nI n), .ref qv, .ref qg, .ref qd], aI G qv 72 v, aZ G qg 72 g, aI G qd 72 d]
set_option maxHeartbeats 4000000 in
set_option maxRecDepth 100000 in
theorem c_X2_half (l : Launch) (hl : l.stackTraces = false) (G : Gt) (q qv qg qd P M R n : Nat) (v g d : Nat → Int32) (hP : P ≤ 12) : Con l G yX2_half cX2_half 1 (some .int) 0 0 0 0 [.ref q] [oB 2 q [.int (nI P), .int (nI M), .int (nI R), .int (nI n), .ref qv, .ref qg, .ref qd], aI G qv 72 v, aZ G qg 72 g, aI G qd 72 d] (po_X2_half G q qv qg qd P M R n v g d) := by
  refine Con.of hl cd_X2_half (Nat.le_of_ble_eq_true rfl) ?_
  intro p e s m args below meth c A F hin9
  change Fx p l s m args meth c G A "SeasonalAdjuster$Series" cX2_half 1 (some .int) at F
  change J p l e (cRm 0 0 0 0) s m args below meth c G A 1 (JQ below G A (po_X2_half G q qv qg qd P M R n v g d) args s 0 0) 0 0 0 [(0, .ref q)] [] [oB 2 q [.int (nI P), .int (nI M), .int (nI R), .int (nI n), .ref qv, .ref qg, .ref qd], aI G qv 72 v, aZ G qg 72 g, aI G qd 72 d]
  refine J_aload_n F 0 (dcq dc_X2_half_0 0 rfl) rfl rfl ?_
  refine J_get F fcX2 0 0 rfl (Nat.le_of_ble_eq_true rfl) tw_1_27 rfl rfl (dcq dc_X2_half_0 1 rfl) ?_
  refine J_iconst F (dcq dc_X2_half_0 2 rfl) ic_2 ?_
  refine J_idiv F (v := nI (P / 2)) (dcq dc_X2_half_0 3 rfl) (nI_ne0 (by omega) (by omega)) (pk_div (by omega) (by omega) (by omega)) ?_
  exact J_iret F ⟨rfl, rfl⟩ (Nat.le_of_ble_eq_true rfl) (Nat.le_of_ble_eq_true rfl) (dcq dc_X2_half_0 4 rfl)

abbrev po_X2_countGaps (G : Gt) (q qv qg qd P M R n : Nat) (v g d : Nat → Int32) : Option Value → va_W → Prop := fun (v9 : Option Value) (w9 : va_W) => ∃ (r : Nat), v9 = some (.int (nI r)) ∧ w9 = [oB 2 q [.int (nI P), .int (nI M), .int (nI R), .int (nI n), .ref qv, .ref qg, .ref qd], aI G qv 72 v, aZ G qg 72 g, aI G qd 72 d] ∧ (r = cg g n)
set_option maxHeartbeats 4000000 in
set_option maxRecDepth 100000 in
theorem c_X2_countGaps (l : Launch) (hl : l.stackTraces = false) (G : Gt) (q qv qg qd P M R n : Nat) (v g d : Nat → Int32) (hn : n ≤ 72) : Con l G yX2_countGaps cX2_countGaps 3 (some .int) 0 0 0 0 [.ref q] [oB 2 q [.int (nI P), .int (nI M), .int (nI R), .int (nI n), .ref qv, .ref qg, .ref qd], aI G qv 72 v, aZ G qg 72 g, aI G qd 72 d] (po_X2_countGaps G q qv qg qd P M R n v g d) := by
  refine Con.of hl cd_X2_countGaps (Nat.le_of_ble_eq_true rfl) ?_
  intro p e s m args below meth c A F hin9
  change Fx p l s m args meth c G A "SeasonalAdjuster$Series" cX2_countGaps 3 (some .int) at F
  change J p l e (cRm 0 0 0 0) s m args below meth c G A 3 (JQ below G A (po_X2_countGaps G q qv qg qd P M R n v g d) args s 0 0) 0 0 0 [(0, .ref q)] [] [oB 2 q [.int (nI P), .int (nI M), .int (nI R), .int (nI n), .ref qv, .ref qg, .ref qd], aI G qv 72 v, aZ G qg 72 g, aI G qd 72 d]
  refine J_iconst F (dcq dc_X2_countGaps_0 0 rfl) ic_0 ?_
  refine J_istore_n F (lv2 := [(1, .int (nI 0)), (0, .ref q)]) (dcq dc_X2_countGaps_0 1 rfl) rfl (Nat.le_of_ble_eq_true rfl) rfl ?_
  refine J_iconst F (dcq dc_X2_countGaps_0 2 rfl) ic_0 ?_
  refine J_istore_n F (lv2 := [(2, .int (nI 0)), (1, .int (nI 0)), (0, .ref q)]) (dcq dc_X2_countGaps_0 3 rfl) rfl (Nat.le_of_ble_eq_true rfl) rfl ?_
  have L4 : ∀ (fu4 : Nat), ∀ (t k : Nat), (t ≤ n) → (k = cg g t) → (k ≤ t) → n - t < fu4 → J p l e (cRm 0 0 0 0) s m args below meth c G A 3 (JQ below G A (po_X2_countGaps G q qv qg qd P M R n v g d) args s 0 0) 0 0 4 [(0, .ref q), (1, .int (nI k)), (2, .int (nI t))] [] [oB 2 q [.int (nI P), .int (nI M), .int (nI R), .int (nI n), .ref qv, .ref qg, .ref qd], aI G qv 72 v, aZ G qg 72 g, aI G qd 72 d] := by
    intro fu4
    induction fu4 with
    | zero => intro t k ht hk hk2 hm4; exact absurd hm4 (Nat.not_lt_zero _)
    | succ fu4 ih4 =>
      intro t k ht hk hk2 hm4
      have hcg := cg_le g t
      refine J_iload_n F 2 (dcq dc_X2_countGaps_0 4 rfl) rfl rfl ?_
      refine J_aload_n F 0 (dcq dc_X2_countGaps_0 5 rfl) rfl rfl ?_
      refine J_get F fcX2 0 3 rfl (Nat.le_of_ble_eq_true rfl) tw_1_36 rfl rfl (dcq dc_X2_countGaps_0 6 rfl) ?_
      refine J_ncmp_ge F 30 (by omega) (by omega) (dcq dc_X2_countGaps_0 7 rfl) (by decide) (fun h_1 => ?_) (fun h_1 => ?_)
      · skip
        refine J_iload_n F 1 (dcq dc_X2_countGaps_0 16 rfl) rfl rfl ?_
        exact J_iret F ⟨k, rfl, rfl, by rw [hk, show t = n by omega]⟩ (Nat.le_of_ble_eq_true rfl) (Nat.le_of_ble_eq_true rfl) (dcq dc_X2_countGaps_0 17 rfl)
      · skip
        refine J_aload_n F 0 (dcq dc_X2_countGaps_0 8 rfl) rfl rfl ?_
        refine J_get F fcX2 0 5 rfl (Nat.le_of_ble_eq_true rfl) tw_1_42 rfl rfl (dcq dc_X2_countGaps_0 9 rfl) ?_
        refine J_iload_n F 2 (dcq dc_X2_countGaps_0 10 rfl) rfl rfl ?_
        refine J_zald F 2 rfl (by omega) (Nat.le_of_ble_eq_true rfl) (dcq dc_X2_countGaps_0 11 rfl) ?_
        refine J_if_eq F 24 (dcq dc_X2_countGaps_0 12 rfl) (by decide) (fun h_2 => ?_) (fun h_2 => ?_)
        · skip
          refine J_iinc F (lv2 := [(2, .int (nI (t + 1))), (0, .ref q), (1, .int (nI k))]) (v := nI (t + 1)) 2 (dcq dc_X2_countGaps_0 14 rfl) rfl (nI_inc _) (Nat.le_of_ble_eq_true rfl) rfl ?_
          refine J_goto F 4 (dcq dc_X2_countGaps_0 15 rfl) (by decide) ?_
          refine J_locs [1, 2, 0] rfl ?_
          exact ih4 (t + 1) k (by omega) (by simp only [cg]; split <;> first | omega | contradiction) (by omega) (by omega)
        · skip
          refine J_iinc F (lv2 := [(1, .int (nI (k + 1))), (0, .ref q), (2, .int (nI t))]) (v := nI (k + 1)) 1 (dcq dc_X2_countGaps_0 13 rfl) rfl (nI_inc _) (Nat.le_of_ble_eq_true rfl) rfl ?_
          refine J_iinc F (lv2 := [(2, .int (nI (t + 1))), (1, .int (nI (k + 1))), (0, .ref q)]) (v := nI (t + 1)) 2 (dcq dc_X2_countGaps_0 14 rfl) rfl (nI_inc _) (Nat.le_of_ble_eq_true rfl) rfl ?_
          refine J_goto F 4 (dcq dc_X2_countGaps_0 15 rfl) (by decide) ?_
          refine J_locs [2, 1, 0] rfl ?_
          exact ih4 (t + 1) (k + 1) (by omega) (by simp only [cg]; split <;> first | omega | contradiction) (by omega) (by omega)
  refine J_locs [2, 1, 0] rfl ?_
  exact L4 (n - 0 + 1) 0 0 (by omega) (rfl) (by omega) (Nat.lt_succ_self _)
