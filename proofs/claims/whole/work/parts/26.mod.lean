theorem tre_eq {n : Nat} (h5 : 5 ≤ n) {a b : Nat → Int64} (hb : ∀ j, 2 ≤ j → j < n - 2 → b j = sm5 a j) {r1 r2 : Int64} (h1 : r1 = quo (a 0 + 2 * a 1 + a 2) 4) (h2 : r2 = quo (a (n - 3) + 2 * a (n - 2) + a (n - 1)) 4) : ∀ j, j < n → (vp_updL (vp_updL (vp_updL (vp_updL b 1 r1) (n - 2) r2) 0 (2 * (vp_updL (vp_updL b 1 r1) (n - 2) r2) 1 - (vp_updL (vp_updL b 1 r1) (n - 2) r2) 2)) (n - 1) (2 * (vp_updL (vp_updL (vp_updL b 1 r1) (n - 2) r2) 0 (2 * (vp_updL (vp_updL b 1 r1) (n - 2) r2) 1 - (vp_updL (vp_updL b 1 r1) (n - 2) r2) 2)) (n - 2) - (vp_updL (vp_updL (vp_updL b 1 r1) (n - 2) r2) 0 (2 * (vp_updL (vp_updL b 1 r1) (n - 2) r2) 1 - (vp_updL (vp_updL b 1 r1) (n - 2) r2) 2)) (n - 3))) j = smo n a j := by
  have e1 : r1 = sm3 (a 0) (a 1) (a 2) := h1
  have e2 : r2 = sm3 (a (n - 1)) (a (n - 2)) (a (n - 3)) := by rw [sm3_rev]; exact h2
  intro j hj
  unfold smo
  by_cases c0 : j = 0
  · rw [if_pos c0, c0, pk_uLn (by omega), pk_uLs, pk_uLn (by omega), pk_uLs, pk_uLn (by omega), pk_uLn (by omega), e1, hb 2 (by omega) (by omega)]
  · rw [if_neg c0]
    by_cases c1 : j = 1
    · rw [if_pos c1, c1, pk_uLn (by omega), pk_uLn (by omega), pk_uLn (by omega), pk_uLs, e1]
    · rw [if_neg c1]
      by_cases c2 : j + 2 < n
      · rw [if_pos c2, pk_uLn (by omega), pk_uLn (by omega), pk_uLn (by omega), pk_uLn (by omega), hb j (by omega) (by omega)]
      · rw [if_neg c2]
        by_cases c3 : j + 2 = n
        · rw [if_pos c3, pk_uLn (by omega), pk_uLn (by omega), show j = n - 2 by omega, pk_uLs, e2]
        · rw [if_neg c3, show j = n - 1 by omega, pk_uLs, pk_uLn (show n - 2 ≠ 0 by omega), pk_uLs, pk_uLn (show n - 3 ≠ 0 by omega), pk_uLn (show n - 3 ≠ n - 2 by omega), pk_uLn (show n - 3 ≠ 1 by omega), e2, hb (n - 3) (by omega) (by omega)]
/-- the reference's parts hold the decomposition -/
def MPT (P M R n : Nat) (v : Nat → Int32) (sp : Int64) (k4 k5 : Nat → Int64) (k6 : Nat → Int32) (k7 k8 k9 k10 k11 : Nat → Int64) : Prop :=
  (∀ t, P / 2 ≤ t → t + P / 2 < n → k4 t = ft P (P / 2) v t) ∧ (∀ t, P / 2 ≤ t → t + P / 2 < n → k5 t = dv P M (P / 2) v t) ∧ (∀ t, P / 2 ≤ t → t + P / 2 < n → k6 t = wR P M R n v t) ∧ (∀ t, P / 2 ≤ t → t + P / 2 < n → absL (k7 t) = dR P M R n v t) ∧ (∀ j, j < P → k8 j = fR P M R n v j) ∧
  (∀ t, t < n → k9 t = lR P M R n v t) ∧ (∀ t, t < n → k10 t = tR P M R n v t) ∧ (∀ t, t < n → k11 t = iR P M R n v t) ∧ sp = wid P M (P / 2) n v (wR P M R n v)

abbrev po_X4_findTrends (G : Gt) (qm m0 m1 m2 m3 m4 m5 m6 m7 m8 m9 m10 m11 hc rf : Nat) (sp ha : Int64) (nw : Nat → Int32) (P M R n : Nat) (v g d : Nat → Int32) (e8 : Nat → Int64) (e9 : Nat → Int64) (e10 : Nat → Int64) (e11 : Nat → Int64) (w : Nat → Int32) : Option Value → va_W → Prop := fun (v9 : Option Value) (w9 : va_W) => ∃ (k9 k10 k11 : Nat → Int64), v9 = none ∧ w9 = [oB 4 qm [.ref m0, .ref m1, .int (nI hc), .int (nI rf), .ref m2, .ref m3, .ref m4, .ref m5, .ref m6, .ref m7, .ref m8, .long sp, .ref m9, .ref m10, .ref m11, .long ha], aI G m0 220 nw, aJ G m8 12 e8, aJ G m9 72 k9, aJ G m10 72 k10, aJ G m11 72 k11] ∧ (∀ t, t < n → k9 t = lev P M (P / 2) n v w t) ∧ (∀ t, t < n → k10 t = smo n (lev P M (P / 2) n v w) t) ∧ (∀ t, t < n → k11 t = irr M (lev P M (P / 2) n v w t) (smo n (lev P M (P / 2) n v w) t))
set_option maxHeartbeats 4000000 in
set_option maxRecDepth 100000 in
theorem c_X4_findTrends (l : Launch) (hl : l.stackTraces = false) (G : Gt) (qm m0 m1 m2 m3 m4 m5 m6 m7 m8 m9 m10 m11 hc rf : Nat) (sp ha : Int64) (nw : Nat → Int32) (P M R n : Nat) (v g d : Nat → Int32) (e8 : Nat → Int64) (e9 : Nat → Int64) (e10 : Nat → Int64) (e11 : Nat → Int64) (w : Nat → Int32) (hRM : RM nw P M R n v g d) (hn : n ≤ 72) (hP : 2 ≤ P) (hP12 : P ≤ 12) (hM : M ≤ 1) (h5 : 5 ≤ n) (hf8 : ∀ j, j < P → e8 j = fac P M (P / 2) n v w j) : Con l G yX4_findTrends cX4_findTrends 5 none 1 31 0 0 [.ref qm] [oB 4 qm [.ref m0, .ref m1, .int (nI hc), .int (nI rf), .ref m2, .ref m3, .ref m4, .ref m5, .ref m6, .ref m7, .ref m8, .long sp, .ref m9, .ref m10, .ref m11, .long ha], aI G m0 220 nw, aJ G m8 12 e8, aJ G m9 72 e9, aJ G m10 72 e10, aJ G m11 72 e11] (po_X4_findTrends G qm m0 m1 m2 m3 m4 m5 m6 m7 m8 m9 m10 m11 hc rf sp ha nw P M R n v g d e8 e9 e10 e11 w) := by
  refine Con.of hl cd_X4_findTrends (Nat.le_of_ble_eq_true rfl) ?_
  intro p e s m args below meth c A F hin9
  change Fx p l s m args meth c G A "SeasonalAdjusterModel" cX4_findTrends 5 none at F
  change J p l e (cRm 1 31 0 0) s m args below meth c G A 5 (JQ below G A (po_X4_findTrends G qm m0 m1 m2 m3 m4 m5 m6 m7 m8 m9 m10 m11 hc rf sp ha nw P M R n v g d e8 e9 e10 e11 w) args s 0 0) 0 0 0 [(0, .ref qm)] [] [oB 4 qm [.ref m0, .ref m1, .int (nI hc), .int (nI rf), .ref m2, .ref m3, .ref m4, .ref m5, .ref m6, .ref m7, .ref m8, .long sp, .ref m9, .ref m10, .ref m11, .long ha], aI G m0 220 nw, aJ G m8 12 e8, aJ G m9 72 e9, aJ G m10 72 e10, aJ G m11 72 e11]
  refine J_aload_n F 0 (dcq dc_X4_findTrends_0 0 rfl) rfl rfl ?_
  refine J_get F fcX4 0 0 rfl (Nat.le_of_ble_eq_true rfl) tw_3_223 rfl rfl (dcq dc_X4_findTrends_0 1 rfl) ?_
  refine J_iconst F (dcq dc_X4_findTrends_0 2 rfl) ic_3 ?_
  refine J_iald F 1 rfl (by omega) (Nat.le_of_ble_eq_true rfl) (dcq dc_X4_findTrends_0 3 rfl) ?_
  refine J_cast rfl (st2 := [.int (nI n)]) (by rw [hRM.2.2.2.1]) rfl ?_
  refine J_istore_n F (lv2 := [(1, .int (nI n)), (0, .ref qm)]) (dcq dc_X4_findTrends_0 4 rfl) rfl (Nat.le_of_ble_eq_true rfl) rfl ?_
  refine J_iconst F (dcq dc_X4_findTrends_0 5 rfl) ic_0 ?_
  refine J_istore_n F (lv2 := [(2, .int (nI 0)), (1, .int (nI n)), (0, .ref qm)]) (dcq dc_X4_findTrends_0 6 rfl) rfl (Nat.le_of_ble_eq_true rfl) rfl ?_
  have L9 : ∀ (fu9 : Nat), ∀ (t : Nat) (ka : Nat → Int64), (t ≤ n) → (∀ j, 0 ≤ j → j < t → ka j = lev P M (P / 2) n v w j) → n - t < fu9 → J p l e (cRm 1 31 0 0) s m args below meth c G A 5 (JQ below G A (po_X4_findTrends G qm m0 m1 m2 m3 m4 m5 m6 m7 m8 m9 m10 m11 hc rf sp ha nw P M R n v g d e8 e9 e10 e11 w) args s 0 0) 0 0 9 [(0, .ref qm), (1, .int (nI n)), (2, .int (nI t))] [] [oB 4 qm [.ref m0, .ref m1, .int (nI hc), .int (nI rf), .ref m2, .ref m3, .ref m4, .ref m5, .ref m6, .ref m7, .ref m8, .long sp, .ref m9, .ref m10, .ref m11, .long ha], aI G m0 220 nw, aJ G m8 12 e8, aJ G m9 72 ka, aJ G m10 72 e10, aJ G m11 72 e11] := by
    intro fu9
    induction fu9 with
    | zero => intro t ka ht i9 hm9; exact absurd hm9 (Nat.not_lt_zero _)
    | succ fu9 ih9 =>
      intro t ka ht i9 hm9
      have hml9 := Nat.mod_lt t (show 0 < P by omega)
      refine J_iload_n F 2 (dcq dc_X4_findTrends_0 7 rfl) rfl rfl ?_
      refine J_iload_n F 1 (dcq dc_X4_findTrends_0 8 rfl) rfl rfl ?_
      refine J_ncmp_ge F 74 (by omega) (by omega) (dcq dc_X4_findTrends_0 9 rfl) (by decide) (fun h_1 => ?_) (fun h_1 => ?_)
      · skip
        refine J_iconst F (dcq dc_X4_findTrends_0 46 rfl) ic_2 ?_
        refine J_istore_n F (lv2 := [(2, .int (nI 2)), (0, .ref qm), (1, .int (nI n))]) (dcq dc_X4_findTrends_0 47 rfl) rfl (Nat.le_of_ble_eq_true rfl) rfl ?_
        have L76 : ∀ (fu76 : Nat), ∀ (t2 : Nat) (kb : Nat → Int64), (2 ≤ t2) → (t2 ≤ n - 2) → (∀ j, 2 ≤ j → j < t2 → kb j = sm5 ka j) → n - 2 - t2 < fu76 → J p l e (cRm 1 31 0 0) s m args below meth c G A 5 (JQ below G A (po_X4_findTrends G qm m0 m1 m2 m3 m4 m5 m6 m7 m8 m9 m10 m11 hc rf sp ha nw P M R n v g d e8 e9 e10 e11 w) args s 0 0) 0 0 76 [(0, .ref qm), (1, .int (nI n)), (2, .int (nI t2))] [] [oB 4 qm [.ref m0, .ref m1, .int (nI hc), .int (nI rf), .ref m2, .ref m3, .ref m4, .ref m5, .ref m6, .ref m7, .ref m8, .long sp, .ref m9, .ref m10, .ref m11, .long ha], aI G m0 220 nw, aJ G m8 12 e8, aJ G m9 72 ka, aJ G m10 72 kb, aJ G m11 72 e11] := by
          intro fu76
          induction fu76 with
          | zero => intro t2 kb hu1 hu2 i10 hm76; exact absurd hm76 (Nat.not_lt_zero _)
          | succ fu76 ih76 =>
            intro t2 kb hu1 hu2 i10 hm76
            refine J_iload_n F 2 (dcq dc_X4_findTrends_1 0 rfl) rfl rfl ?_
            refine J_iload_n F 1 (dcq dc_X4_findTrends_1 1 rfl) rfl rfl ?_
            refine J_iconst F (dcq dc_X4_findTrends_1 2 rfl) ic_2 ?_
            refine J_isub F (v := nI (n - 2)) (dcq dc_X4_findTrends_1 3 rfl) (pk_sub (by omega)) ?_
            refine J_ncmp_ge F 155 (by omega) (by omega) (dcq dc_X4_findTrends_1 4 rfl) (by decide) (fun h_2 => ?_) (fun h_2 => ?_)
            · skip
              refine J_aload_n F 0 (dcq dc_X4_findTrends_2 3 rfl) rfl rfl ?_
              refine J_get F fcX4 0 13 rfl (Nat.le_of_ble_eq_true rfl) tw_3_236 rfl rfl (dcq dc_X4_findTrends_2 4 rfl) ?_
              refine J_iconst F (dcq dc_X4_findTrends_2 5 rfl) ic_1 ?_
              refine J_aload_n F 0 (dcq dc_X4_findTrends_2 6 rfl) rfl rfl ?_
              refine J_get F fcX4 0 12 rfl (Nat.le_of_ble_eq_true rfl) tw_3_235 rfl rfl (dcq dc_X4_findTrends_2 7 rfl) ?_
              refine J_iconst F (dcq dc_X4_findTrends_2 8 rfl) ic_0 ?_
              refine J_lald F 3 rfl (by omega) (Nat.le_of_ble_eq_true rfl) (dcq dc_X4_findTrends_2 9 rfl) ?_
              refine J_ldc2 F (v2 := (2)) tw_4_48 rfl (dcq dc_X4_findTrends_2 10 rfl) ?_
              refine J_aload_n F 0 (dcq dc_X4_findTrends_2 11 rfl) rfl rfl ?_
              refine J_get F fcX4 0 12 rfl (Nat.le_of_ble_eq_true rfl) tw_3_235 rfl rfl (dcq dc_X4_findTrends_2 12 rfl) ?_
              refine J_iconst F (dcq dc_X4_findTrends_2 13 rfl) ic_1 ?_
              refine J_lald F 3 rfl (by omega) (Nat.le_of_ble_eq_true rfl) (dcq dc_X4_findTrends_2 14 rfl) ?_
              refine J_lmul F (v := 2 * (ka 1)) (dcq dc_X4_findTrends_2 15 rfl) rfl ?_
              refine J_ladd F (v := (ka 0) + (2 * (ka 1))) (dcq dc_X4_findTrends_2 16 rfl) rfl ?_
              refine J_aload_n F 0 (dcq dc_X4_findTrends_2 17 rfl) rfl rfl ?_
              refine J_get F fcX4 0 12 rfl (Nat.le_of_ble_eq_true rfl) tw_3_235 rfl rfl (dcq dc_X4_findTrends_2 18 rfl) ?_
              refine J_iconst F (dcq dc_X4_findTrends_2 19 rfl) ic_2 ?_
              refine J_lald F 3 rfl (by omega) (Nat.le_of_ble_eq_true rfl) (dcq dc_X4_findTrends_2 20 rfl) ?_
              refine J_ladd F (v := ((ka 0) + (2 * (ka 1))) + (ka 2)) (dcq dc_X4_findTrends_2 21 rfl) rfl ?_
              refine J_ldc2 F (v2 := (4)) tw_4_200 rfl (dcq dc_X4_findTrends_2 22 rfl) ?_
              refine J_callS F (wc := []) (wr := [oB 4 qm [.ref m0, .ref m1, .int (nI hc), .int (nI rf), .ref m2, .ref m3, .ref m4, .ref m5, .ref m6, .ref m7, .ref m8, .long sp, .ref m9, .ref m10, .ref m11, .long ha], aI G m0 220 nw, aJ G m8 12 e8, aJ G m9 72 ka, aJ G m10 72 kb, aJ G m11 72 e11]) (rest := [.int (nI 1), .ref m10]) (c_X4_over l hl G (((ka 0) + (2 * (ka 1))) + (ka 2)) 4 (by decide)) cd_X4_over tw_4_138 tw_4_137 [] [0, 1, 2, 3, 4, 5] rfl rfl rfl rfl (by decide) rfl ⟨(Nat.le_of_ble_eq_true rfl), (Nat.le_of_ble_eq_true rfl), (Nat.le_of_ble_eq_true rfl), (Nat.le_of_ble_eq_true rfl)⟩ (Nat.le_of_ble_eq_true rfl) rfl (dcq dc_X4_findTrends_2 23 rfl) ?_
              rintro _ _ ⟨r1, rfl, rfl, hq1⟩
              change J p l e (cRm 1 31 0 0) s m args below meth c G A 5 (JQ below G A (po_X4_findTrends G qm m0 m1 m2 m3 m4 m5 m6 m7 m8 m9 m10 m11 hc rf sp ha nw P M R n v g d e8 e9 e10 e11 w) args s 0 0) 0 0 190 [(0, .ref qm), (1, .int (nI n)), (2, .int (nI t2))] [.long r1, .int (nI 1), .ref m10] [oB 4 qm [.ref m0, .ref m1, .int (nI hc), .int (nI rf), .ref m2, .ref m3, .ref m4, .ref m5, .ref m6, .ref m7, .ref m8, .long sp, .ref m9, .ref m10, .ref m11, .long ha], aI G m0 220 nw, aJ G m8 12 e8, aJ G m9 72 ka, aJ G m10 72 kb, aJ G m11 72 e11]
              have hq1 : r1 = quo (((ka 0) + (2 * (ka 1))) + (ka 2)) 4 := hq1
              refine J_last F (ws2 := [oB 4 qm [.ref m0, .ref m1, .int (nI hc), .int (nI rf), .ref m2, .ref m3, .ref m4, .ref m5, .ref m6, .ref m7, .ref m8, .long sp, .ref m9, .ref m10, .ref m11, .long ha], aI G m0 220 nw, aJ G m8 12 e8, aJ G m9 72 ka, aJ G m10 72 (vp_updL kb 1 r1), aJ G m11 72 e11]) 4 rfl (by omega) (Nat.le_of_ble_eq_true rfl) rfl (dcq dc_X4_findTrends_2 24 rfl) ?_
              refine J_aload_n F 0 (dcq dc_X4_findTrends_2 25 rfl) rfl rfl ?_
              refine J_get F fcX4 0 13 rfl (Nat.le_of_ble_eq_true rfl) tw_3_236 rfl rfl (dcq dc_X4_findTrends_2 26 rfl) ?_
              refine J_iload_n F 1 (dcq dc_X4_findTrends_2 27 rfl) rfl rfl ?_
              refine J_iconst F (dcq dc_X4_findTrends_2 28 rfl) ic_2 ?_
              refine J_isub F (v := nI (n - 2)) (dcq dc_X4_findTrends_2 29 rfl) (pk_sub (by omega)) ?_
              refine J_aload_n F 0 (dcq dc_X4_findTrends_2 30 rfl) rfl rfl ?_
              refine J_get F fcX4 0 12 rfl (Nat.le_of_ble_eq_true rfl) tw_3_235 rfl rfl (dcq dc_X4_findTrends_2 31 rfl) ?_
              refine J_iload_n F 1 (dcq dc_X4_findTrends_2 32 rfl) rfl rfl ?_
              refine J_iconst F (dcq dc_X4_findTrends_2 33 rfl) ic_3 ?_
              refine J_isub F (v := nI (n - 3)) (dcq dc_X4_findTrends_2 34 rfl) (pk_sub (by omega)) ?_
              refine J_lald F 3 rfl (by omega) (Nat.le_of_ble_eq_true rfl) (dcq dc_X4_findTrends_2 35 rfl) ?_
              refine J_ldc2 F (v2 := (2)) tw_4_48 rfl (dcq dc_X4_findTrends_2 36 rfl) ?_
              refine J_aload_n F 0 (dcq dc_X4_findTrends_2 37 rfl) rfl rfl ?_
              refine J_get F fcX4 0 12 rfl (Nat.le_of_ble_eq_true rfl) tw_3_235 rfl rfl (dcq dc_X4_findTrends_2 38 rfl) ?_
              refine J_iload_n F 1 (dcq dc_X4_findTrends_2 39 rfl) rfl rfl ?_
              refine J_iconst F (dcq dc_X4_findTrends_2 40 rfl) ic_2 ?_
              refine J_isub F (v := nI (n - 2)) (dcq dc_X4_findTrends_2 41 rfl) (pk_sub (by omega)) ?_
              refine J_lald F 3 rfl (by omega) (Nat.le_of_ble_eq_true rfl) (dcq dc_X4_findTrends_2 42 rfl) ?_
              refine J_lmul F (v := 2 * (ka (n - 2))) (dcq dc_X4_findTrends_2 43 rfl) rfl ?_
              refine J_ladd F (v := (ka (n - 3)) + (2 * (ka (n - 2)))) (dcq dc_X4_findTrends_2 44 rfl) rfl ?_
              refine J_aload_n F 0 (dcq dc_X4_findTrends_2 45 rfl) rfl rfl ?_
              refine J_get F fcX4 0 12 rfl (Nat.le_of_ble_eq_true rfl) tw_3_235 rfl rfl (dcq dc_X4_findTrends_2 46 rfl) ?_
              refine J_iload_n F 1 (dcq dc_X4_findTrends_2 47 rfl) rfl rfl ?_
              refine J_iconst F (dcq dc_X4_findTrends_3 0 rfl) ic_1 ?_
              refine J_isub F (v := nI (n - 1)) (dcq dc_X4_findTrends_3 1 rfl) (pk_sub (by omega)) ?_
              refine J_lald F 3 rfl (by omega) (Nat.le_of_ble_eq_true rfl) (dcq dc_X4_findTrends_3 2 rfl) ?_
              refine J_ladd F (v := ((ka (n - 3)) + (2 * (ka (n - 2)))) + (ka (n - 1))) (dcq dc_X4_findTrends_3 3 rfl) rfl ?_
              refine J_ldc2 F (v2 := (4)) tw_4_200 rfl (dcq dc_X4_findTrends_3 4 rfl) ?_
              refine J_callS F (wc := []) (wr := [oB 4 qm [.ref m0, .ref m1, .int (nI hc), .int (nI rf), .ref m2, .ref m3, .ref m4, .ref m5, .ref m6, .ref m7, .ref m8, .long sp, .ref m9, .ref m10, .ref m11, .long ha], aI G m0 220 nw, aJ G m8 12 e8, aJ G m9 72 ka, aJ G m10 72 (vp_updL kb 1 r1), aJ G m11 72 e11]) (rest := [.int (nI (n - 2)), .ref m10]) (c_X4_over l hl G (((ka (n - 3)) + (2 * (ka (n - 2)))) + (ka (n - 1))) 4 (by decide)) cd_X4_over tw_4_138 tw_4_137 [] [0, 1, 2, 3, 4, 5] rfl rfl rfl rfl (by decide) rfl ⟨(Nat.le_of_ble_eq_true rfl), (Nat.le_of_ble_eq_true rfl), (Nat.le_of_ble_eq_true rfl), (Nat.le_of_ble_eq_true rfl)⟩ (Nat.le_of_ble_eq_true rfl) rfl (dcq dc_X4_findTrends_3 5 rfl) ?_
              rintro _ _ ⟨r2, rfl, rfl, hq2⟩
              change J p l e (cRm 1 31 0 0) s m args below meth c G A 5 (JQ below G A (po_X4_findTrends G qm m0 m1 m2 m3 m4 m5 m6 m7 m8 m9 m10 m11 hc rf sp ha nw P M R n v g d e8 e9 e10 e11 w) args s 0 0) 0 0 234 [(0, .ref qm), (1, .int (nI n)), (2, .int (nI t2))] [.long r2, .int (nI (n - 2)), .ref m10] [oB 4 qm [.ref m0, .ref m1, .int (nI hc), .int (nI rf), .ref m2, .ref m3, .ref m4, .ref m5, .ref m6, .ref m7, .ref m8, .long sp, .ref m9, .ref m10, .ref m11, .long ha], aI G m0 220 nw, aJ G m8 12 e8, aJ G m9 72 ka, aJ G m10 72 (vp_updL kb 1 r1), aJ G m11 72 e11]
              have hq2 : r2 = quo (((ka (n - 3)) + (2 * (ka (n - 2)))) + (ka (n - 1))) 4 := hq2
              refine J_last F (ws2 := [oB 4 qm [.ref m0, .ref m1, .int (nI hc), .int (nI rf), .ref m2, .ref m3, .ref m4, .ref m5, .ref m6, .ref m7, .ref m8, .long sp, .ref m9, .ref m10, .ref m11, .long ha], aI G m0 220 nw, aJ G m8 12 e8, aJ G m9 72 ka, aJ G m10 72 (vp_updL (vp_updL kb 1 r1) (n - 2) r2), aJ G m11 72 e11]) 4 rfl (by omega) (Nat.le_of_ble_eq_true rfl) rfl (dcq dc_X4_findTrends_3 6 rfl) ?_
              refine J_aload_n F 0 (dcq dc_X4_findTrends_3 7 rfl) rfl rfl ?_
              refine J_get F fcX4 0 13 rfl (Nat.le_of_ble_eq_true rfl) tw_3_236 rfl rfl (dcq dc_X4_findTrends_3 8 rfl) ?_
              refine J_iconst F (dcq dc_X4_findTrends_3 9 rfl) ic_0 ?_
              refine J_ldc2 F (v2 := (2)) tw_4_48 rfl (dcq dc_X4_findTrends_3 10 rfl) ?_
              refine J_aload_n F 0 (dcq dc_X4_findTrends_3 11 rfl) rfl rfl ?_
              refine J_get F fcX4 0 13 rfl (Nat.le_of_ble_eq_true rfl) tw_3_236 rfl rfl (dcq dc_X4_findTrends_3 12 rfl) ?_
              refine J_iconst F (dcq dc_X4_findTrends_3 13 rfl) ic_1 ?_
              refine J_lald F 4 rfl (by omega) (Nat.le_of_ble_eq_true rfl) (dcq dc_X4_findTrends_3 14 rfl) ?_
              refine J_lmul F (v := 2 * ((vp_updL (vp_updL kb 1 r1) (n - 2) r2) 1)) (dcq dc_X4_findTrends_3 15 rfl) rfl ?_
              refine J_aload_n F 0 (dcq dc_X4_findTrends_3 16 rfl) rfl rfl ?_
              refine J_get F fcX4 0 13 rfl (Nat.le_of_ble_eq_true rfl) tw_3_236 rfl rfl (dcq dc_X4_findTrends_3 17 rfl) ?_
              refine J_iconst F (dcq dc_X4_findTrends_3 18 rfl) ic_2 ?_
              refine J_lald F 4 rfl (by omega) (Nat.le_of_ble_eq_true rfl) (dcq dc_X4_findTrends_3 19 rfl) ?_
              refine J_lsub F (v := (2 * ((vp_updL (vp_updL kb 1 r1) (n - 2) r2) 1)) - ((vp_updL (vp_updL kb 1 r1) (n - 2) r2) 2)) (dcq dc_X4_findTrends_3 20 rfl) rfl ?_
              refine J_last F (ws2 := [oB 4 qm [.ref m0, .ref m1, .int (nI hc), .int (nI rf), .ref m2, .ref m3, .ref m4, .ref m5, .ref m6, .ref m7, .ref m8, .long sp, .ref m9, .ref m10, .ref m11, .long ha], aI G m0 220 nw, aJ G m8 12 e8, aJ G m9 72 ka, aJ G m10 72 (vp_updL (vp_updL (vp_updL kb 1 r1) (n - 2) r2) 0 ((2 * ((vp_updL (vp_updL kb 1 r1) (n - 2) r2) 1)) - ((vp_updL (vp_updL kb 1 r1) (n - 2) r2) 2))), aJ G m11 72 e11]) 4 rfl (by omega) (Nat.le_of_ble_eq_true rfl) rfl (dcq dc_X4_findTrends_3 21 rfl) ?_
              refine J_aload_n F 0 (dcq dc_X4_findTrends_3 22 rfl) rfl rfl ?_
              refine J_get F fcX4 0 13 rfl (Nat.le_of_ble_eq_true rfl) tw_3_236 rfl rfl (dcq dc_X4_findTrends_3 23 rfl) ?_
              refine J_iload_n F 1 (dcq dc_X4_findTrends_3 24 rfl) rfl rfl ?_
              refine J_iconst F (dcq dc_X4_findTrends_3 25 rfl) ic_1 ?_
              refine J_isub F (v := nI (n - 1)) (dcq dc_X4_findTrends_3 26 rfl) (pk_sub (by omega)) ?_
              refine J_ldc2 F (v2 := (2)) tw_4_48 rfl (dcq dc_X4_findTrends_3 27 rfl) ?_
              refine J_aload_n F 0 (dcq dc_X4_findTrends_3 28 rfl) rfl rfl ?_
              refine J_get F fcX4 0 13 rfl (Nat.le_of_ble_eq_true rfl) tw_3_236 rfl rfl (dcq dc_X4_findTrends_3 29 rfl) ?_
              refine J_iload_n F 1 (dcq dc_X4_findTrends_3 30 rfl) rfl rfl ?_
              refine J_iconst F (dcq dc_X4_findTrends_3 31 rfl) ic_2 ?_
              refine J_isub F (v := nI (n - 2)) (dcq dc_X4_findTrends_3 32 rfl) (pk_sub (by omega)) ?_
              refine J_lald F 4 rfl (by omega) (Nat.le_of_ble_eq_true rfl) (dcq dc_X4_findTrends_3 33 rfl) ?_
              refine J_lmul F (v := 2 * ((vp_updL (vp_updL (vp_updL kb 1 r1) (n - 2) r2) 0 ((2 * ((vp_updL (vp_updL kb 1 r1) (n - 2) r2) 1)) - ((vp_updL (vp_updL kb 1 r1) (n - 2) r2) 2))) (n - 2))) (dcq dc_X4_findTrends_3 34 rfl) rfl ?_
              refine J_aload_n F 0 (dcq dc_X4_findTrends_3 35 rfl) rfl rfl ?_
              refine J_get F fcX4 0 13 rfl (Nat.le_of_ble_eq_true rfl) tw_3_236 rfl rfl (dcq dc_X4_findTrends_3 36 rfl) ?_
              refine J_iload_n F 1 (dcq dc_X4_findTrends_3 37 rfl) rfl rfl ?_
              refine J_iconst F (dcq dc_X4_findTrends_3 38 rfl) ic_3 ?_
              refine J_isub F (v := nI (n - 3)) (dcq dc_X4_findTrends_3 39 rfl) (pk_sub (by omega)) ?_
              refine J_lald F 4 rfl (by omega) (Nat.le_of_ble_eq_true rfl) (dcq dc_X4_findTrends_3 40 rfl) ?_
              refine J_lsub F (v := (2 * ((vp_updL (vp_updL (vp_updL kb 1 r1) (n - 2) r2) 0 ((2 * ((vp_updL (vp_updL kb 1 r1) (n - 2) r2) 1)) - ((vp_updL (vp_updL kb 1 r1) (n - 2) r2) 2))) (n - 2))) - ((vp_updL (vp_updL (vp_updL kb 1 r1) (n - 2) r2) 0 ((2 * ((vp_updL (vp_updL kb 1 r1) (n - 2) r2) 1)) - ((vp_updL (vp_updL kb 1 r1) (n - 2) r2) 2))) (n - 3))) (dcq dc_X4_findTrends_3 41 rfl) rfl ?_
              refine J_last F (ws2 := [oB 4 qm [.ref m0, .ref m1, .int (nI hc), .int (nI rf), .ref m2, .ref m3, .ref m4, .ref m5, .ref m6, .ref m7, .ref m8, .long sp, .ref m9, .ref m10, .ref m11, .long ha], aI G m0 220 nw, aJ G m8 12 e8, aJ G m9 72 ka, aJ G m10 72 (vp_updL (vp_updL (vp_updL (vp_updL kb 1 r1) (n - 2) r2) 0 ((2 * ((vp_updL (vp_updL kb 1 r1) (n - 2) r2) 1)) - ((vp_updL (vp_updL kb 1 r1) (n - 2) r2) 2))) (n - 1) ((2 * ((vp_updL (vp_updL (vp_updL kb 1 r1) (n - 2) r2) 0 ((2 * ((vp_updL (vp_updL kb 1 r1) (n - 2) r2) 1)) - ((vp_updL (vp_updL kb 1 r1) (n - 2) r2) 2))) (n - 2))) - ((vp_updL (vp_updL (vp_updL kb 1 r1) (n - 2) r2) 0 ((2 * ((vp_updL (vp_updL kb 1 r1) (n - 2) r2) 1)) - ((vp_updL (vp_updL kb 1 r1) (n - 2) r2) 2))) (n - 3)))), aJ G m11 72 e11]) 4 rfl (by omega) (Nat.le_of_ble_eq_true rfl) rfl (dcq dc_X4_findTrends_3 42 rfl) ?_
              have htre := fun j hj => (tre_eq h5 (a := ka) (b := kb) (fun j g1 g2 => i10 j g1 (by omega)) hq1 hq2 j hj).trans (smo_congr h5 (fun j g1 => i9 j (Nat.zero_le _) (by omega)) hj)
              refine J_iconst F (dcq dc_X4_findTrends_3 43 rfl) ic_0 ?_
              refine J_istore_n F (lv2 := [(2, .int (nI 0)), (0, .ref qm), (1, .int (nI n))]) (dcq dc_X4_findTrends_3 44 rfl) rfl (Nat.le_of_ble_eq_true rfl) rfl ?_
              have L289 : ∀ (fu289 : Nat), ∀ (t3 : Nat) (kc9 : Nat → Int64), (t3 ≤ n) → (∀ j, 0 ≤ j → j < t3 → kc9 j = irr M (lev P M (P / 2) n v w j) (smo n (lev P M (P / 2) n v w) j)) → n - t3 < fu289 → J p l e (cRm 1 31 0 0) s m args below meth c G A 5 (JQ below G A (po_X4_findTrends G qm m0 m1 m2 m3 m4 m5 m6 m7 m8 m9 m10 m11 hc rf sp ha nw P M R n v g d e8 e9 e10 e11 w) args s 0 0) 0 0 289 [(0, .ref qm), (1, .int (nI n)), (2, .int (nI t3))] [] [oB 4 qm [.ref m0, .ref m1, .int (nI hc), .int (nI rf), .ref m2, .ref m3, .ref m4, .ref m5, .ref m6, .ref m7, .ref m8, .long sp, .ref m9, .ref m10, .ref m11, .long ha], aI G m0 220 nw, aJ G m8 12 e8, aJ G m9 72 ka, aJ G m10 72 (vp_updL (vp_updL (vp_updL (vp_updL kb 1 r1) (n - 2) r2) 0 ((2 * ((vp_updL (vp_updL kb 1 r1) (n - 2) r2) 1)) - ((vp_updL (vp_updL kb 1 r1) (n - 2) r2) 2))) (n - 1) ((2 * ((vp_updL (vp_updL (vp_updL kb 1 r1) (n - 2) r2) 0 ((2 * ((vp_updL (vp_updL kb 1 r1) (n - 2) r2) 1)) - ((vp_updL (vp_updL kb 1 r1) (n - 2) r2) 2))) (n - 2))) - ((vp_updL (vp_updL (vp_updL kb 1 r1) (n - 2) r2) 0 ((2 * ((vp_updL (vp_updL kb 1 r1) (n - 2) r2) 1)) - ((vp_updL (vp_updL kb 1 r1) (n - 2) r2) 2))) (n - 3)))), aJ G m11 72 kc9] := by
                intro fu289
                induction fu289 with
                | zero => intro t3 kc9 hu3 i11 hm289; exact absurd hm289 (Nat.not_lt_zero _)
                | succ fu289 ih289 =>
                  intro t3 kc9 hu3 i11 hm289
                  refine J_iload_n F 2 (dcq dc_X4_findTrends_3 45 rfl) rfl rfl ?_
                  refine J_iload_n F 1 (dcq dc_X4_findTrends_3 46 rfl) rfl rfl ?_
                  refine J_ncmp_ge F 367 (by omega) (by omega) (dcq dc_X4_findTrends_3 47 rfl) (by decide) (fun h_3 => ?_) (fun h_3 => ?_)
                  · skip
                    exact J_vret F ⟨ka, vp_updL (vp_updL (vp_updL (vp_updL kb 1 r1) (n - 2) r2) 0 ((2 * ((vp_updL (vp_updL kb 1 r1) (n - 2) r2) 1)) - ((vp_updL (vp_updL kb 1 r1) (n - 2) r2) 2))) (n - 1) ((2 * ((vp_updL (vp_updL (vp_updL kb 1 r1) (n - 2) r2) 0 ((2 * ((vp_updL (vp_updL kb 1 r1) (n - 2) r2) 1)) - ((vp_updL (vp_updL kb 1 r1) (n - 2) r2) 2))) (n - 2))) - ((vp_updL (vp_updL (vp_updL kb 1 r1) (n - 2) r2) 0 ((2 * ((vp_updL (vp_updL kb 1 r1) (n - 2) r2) 1)) - ((vp_updL (vp_updL kb 1 r1) (n - 2) r2) 2))) (n - 3))), kc9, rfl, rfl, fun j g => i9 j (Nat.zero_le _) (by omega), htre, fun j g => i11 j (Nat.zero_le _) (by omega)⟩ (Nat.le_of_ble_eq_true rfl) (Nat.le_of_ble_eq_true rfl) (dcq dc_X4_findTrends_4 41 rfl)
                  · skip
                    refine J_aload_n F 0 (dcq dc_X4_findTrends_4 0 rfl) rfl rfl ?_
                    refine J_get F fcX4 0 14 rfl (Nat.le_of_ble_eq_true rfl) tw_3_237 rfl rfl (dcq dc_X4_findTrends_4 1 rfl) ?_
                    refine J_iload_n F 2 (dcq dc_X4_findTrends_4 2 rfl) rfl rfl ?_
                    refine J_aload_n F 0 (dcq dc_X4_findTrends_4 3 rfl) rfl rfl ?_
                    refine J_get F fcX4 0 0 rfl (Nat.le_of_ble_eq_true rfl) tw_3_223 rfl rfl (dcq dc_X4_findTrends_4 4 rfl) ?_
                    refine J_iconst F (dcq dc_X4_findTrends_4 5 rfl) ic_1 ?_
                    refine J_iald F 1 rfl (by omega) (Nat.le_of_ble_eq_true rfl) (dcq dc_X4_findTrends_4 6 rfl) ?_
                    refine J_cast rfl (st2 := [.int (nI M), .int (nI t3), .ref m11]) (by rw [hRM.2.1]) rfl ?_
                    refine J_nif_ne F 324 (by omega) (dcq dc_X4_findTrends_4 7 rfl) (by decide) (fun h_4 => ?_) (fun h_4 => ?_)
                    · skip
                      have hm2 := h_4
                      refine J_aload_n F 0 (dcq dc_X4_findTrends_4 18 rfl) rfl rfl ?_
                      refine J_get F fcX4 0 13 rfl (Nat.le_of_ble_eq_true rfl) tw_3_236 rfl rfl (dcq dc_X4_findTrends_4 19 rfl) ?_
                      refine J_iload_n F 2 (dcq dc_X4_findTrends_4 20 rfl) rfl rfl ?_
                      refine J_lald F 4 rfl (by omega) (Nat.le_of_ble_eq_true rfl) (dcq dc_X4_findTrends_4 21 rfl) ?_
                      refine J_lconst F (dcq dc_X4_findTrends_4 22 rfl) lc_0 ?_
                      refine J_lcmp_le F 357 (dcq dc_X4_findTrends_4 23 rfl) (dcq dc_X4_findTrends_4 24 rfl) (by decide) (fun h_5 => ?_) (fun h_5 => ?_)
                      · skip
                        have hc9 := h_5
                        refine J_ldc2 F (v2 := (10000)) tw_4_180 rfl (dcq dc_X4_findTrends_4 37 rfl) ?_
                        refine J_last F (ws2 := [oB 4 qm [.ref m0, .ref m1, .int (nI hc), .int (nI rf), .ref m2, .ref m3, .ref m4, .ref m5, .ref m6, .ref m7, .ref m8, .long sp, .ref m9, .ref m10, .ref m11, .long ha], aI G m0 220 nw, aJ G m8 12 e8, aJ G m9 72 ka, aJ G m10 72 (vp_updL (vp_updL (vp_updL (vp_updL kb 1 r1) (n - 2) r2) 0 ((2 * ((vp_updL (vp_updL kb 1 r1) (n - 2) r2) 1)) - ((vp_updL (vp_updL kb 1 r1) (n - 2) r2) 2))) (n - 1) ((2 * ((vp_updL (vp_updL (vp_updL kb 1 r1) (n - 2) r2) 0 ((2 * ((vp_updL (vp_updL kb 1 r1) (n - 2) r2) 1)) - ((vp_updL (vp_updL kb 1 r1) (n - 2) r2) 2))) (n - 2))) - ((vp_updL (vp_updL (vp_updL kb 1 r1) (n - 2) r2) 0 ((2 * ((vp_updL (vp_updL kb 1 r1) (n - 2) r2) 1)) - ((vp_updL (vp_updL kb 1 r1) (n - 2) r2) 2))) (n - 3)))), aJ G m11 72 (vp_updL kc9 t3 10000)]) 5 rfl (by omega) (Nat.le_of_ble_eq_true rfl) rfl (dcq dc_X4_findTrends_4 38 rfl) ?_
                        refine J_iinc F (lv2 := [(2, .int (nI (t3 + 1))), (0, .ref qm), (1, .int (nI n))]) (v := nI (t3 + 1)) 2 (dcq dc_X4_findTrends_4 39 rfl) rfl (nI_inc _) (Nat.le_of_ble_eq_true rfl) rfl ?_
                        refine J_goto F 289 (dcq dc_X4_findTrends_4 40 rfl) (by decide) ?_
                        refine J_locs [1, 2, 0] rfl ?_
                        exact ih289 (t3 + 1) (vp_updL kc9 t3 10000) (by omega) (up_l i11 (by unfold irr; rw [← i9 t3 (Nat.zero_le _) (by omega), ← htre t3 (by omega)]; first | exact (if_pos hm2).symm | (rw [if_neg (by omega), if_pos (Int64.not_le.mp hc9), hqi]; done) | (rw [if_neg (by omega), if_neg (Int64.not_lt.mpr hc9)]; done))) (by omega)
                      · skip
                        have hc9 := h_5
                        refine J_ldc2 F (v2 := (10000)) tw_4_180 rfl (dcq dc_X4_findTrends_4 25 rfl) ?_
                        refine J_aload_n F 0 (dcq dc_X4_findTrends_4 26 rfl) rfl rfl ?_
                        refine J_get F fcX4 0 12 rfl (Nat.le_of_ble_eq_true rfl) tw_3_235 rfl rfl (dcq dc_X4_findTrends_4 27 rfl) ?_
                        refine J_iload_n F 2 (dcq dc_X4_findTrends_4 28 rfl) rfl rfl ?_
                        refine J_lald F 3 rfl (by omega) (Nat.le_of_ble_eq_true rfl) (dcq dc_X4_findTrends_4 29 rfl) ?_
                        refine J_lmul F (v := 10000 * (ka t3)) (dcq dc_X4_findTrends_4 30 rfl) rfl ?_
                        refine J_aload_n F 0 (dcq dc_X4_findTrends_4 31 rfl) rfl rfl ?_
                        refine J_get F fcX4 0 13 rfl (Nat.le_of_ble_eq_true rfl) tw_3_236 rfl rfl (dcq dc_X4_findTrends_4 32 rfl) ?_
                        refine J_iload_n F 2 (dcq dc_X4_findTrends_4 33 rfl) rfl rfl ?_
                        refine J_lald F 4 rfl (by omega) (Nat.le_of_ble_eq_true rfl) (dcq dc_X4_findTrends_4 34 rfl) ?_
                        refine J_callS F (wc := []) (wr := [oB 4 qm [.ref m0, .ref m1, .int (nI hc), .int (nI rf), .ref m2, .ref m3, .ref m4, .ref m5, .ref m6, .ref m7, .ref m8, .long sp, .ref m9, .ref m10, .ref m11, .long ha], aI G m0 220 nw, aJ G m8 12 e8, aJ G m9 72 ka, aJ G m10 72 (vp_updL (vp_updL (vp_updL (vp_updL kb 1 r1) (n - 2) r2) 0 ((2 * ((vp_updL (vp_updL kb 1 r1) (n - 2) r2) 1)) - ((vp_updL (vp_updL kb 1 r1) (n - 2) r2) 2))) (n - 1) ((2 * ((vp_updL (vp_updL (vp_updL kb 1 r1) (n - 2) r2) 0 ((2 * ((vp_updL (vp_updL kb 1 r1) (n - 2) r2) 1)) - ((vp_updL (vp_updL kb 1 r1) (n - 2) r2) 2))) (n - 2))) - ((vp_updL (vp_updL (vp_updL kb 1 r1) (n - 2) r2) 0 ((2 * ((vp_updL (vp_updL kb 1 r1) (n - 2) r2) 1)) - ((vp_updL (vp_updL kb 1 r1) (n - 2) r2) 2))) (n - 3)))), aJ G m11 72 kc9]) (rest := [.int (nI t3), .ref m11]) (c_X4_over l hl G (10000 * (ka t3)) ((vp_updL (vp_updL (vp_updL (vp_updL kb 1 r1) (n - 2) r2) 0 ((2 * ((vp_updL (vp_updL kb 1 r1) (n - 2) r2) 1)) - ((vp_updL (vp_updL kb 1 r1) (n - 2) r2) 2))) (n - 1) ((2 * ((vp_updL (vp_updL (vp_updL kb 1 r1) (n - 2) r2) 0 ((2 * ((vp_updL (vp_updL kb 1 r1) (n - 2) r2) 1)) - ((vp_updL (vp_updL kb 1 r1) (n - 2) r2) 2))) (n - 2))) - ((vp_updL (vp_updL (vp_updL kb 1 r1) (n - 2) r2) 0 ((2 * ((vp_updL (vp_updL kb 1 r1) (n - 2) r2) 1)) - ((vp_updL (vp_updL kb 1 r1) (n - 2) r2) 2))) (n - 3)))) t3) (Int64.not_le.mp hc9)) cd_X4_over tw_4_138 tw_4_137 [] [0, 1, 2, 3, 4, 5] rfl rfl rfl rfl (by decide) rfl ⟨(Nat.le_of_ble_eq_true rfl), (Nat.le_of_ble_eq_true rfl), (Nat.le_of_ble_eq_true rfl), (Nat.le_of_ble_eq_true rfl)⟩ (Nat.le_of_ble_eq_true rfl) rfl (dcq dc_X4_findTrends_4 35 rfl) ?_
                        rintro _ _ ⟨ri, rfl, rfl, hqi⟩
                        change J p l e (cRm 1 31 0 0) s m args below meth c G A 5 (JQ below G A (po_X4_findTrends G qm m0 m1 m2 m3 m4 m5 m6 m7 m8 m9 m10 m11 hc rf sp ha nw P M R n v g d e8 e9 e10 e11 w) args s 0 0) 0 0 354 [(0, .ref qm), (1, .int (nI n)), (2, .int (nI t3))] [.long ri, .int (nI t3), .ref m11] [oB 4 qm [.ref m0, .ref m1, .int (nI hc), .int (nI rf), .ref m2, .ref m3, .ref m4, .ref m5, .ref m6, .ref m7, .ref m8, .long sp, .ref m9, .ref m10, .ref m11, .long ha], aI G m0 220 nw, aJ G m8 12 e8, aJ G m9 72 ka, aJ G m10 72 (vp_updL (vp_updL (vp_updL (vp_updL kb 1 r1) (n - 2) r2) 0 ((2 * ((vp_updL (vp_updL kb 1 r1) (n - 2) r2) 1)) - ((vp_updL (vp_updL kb 1 r1) (n - 2) r2) 2))) (n - 1) ((2 * ((vp_updL (vp_updL (vp_updL kb 1 r1) (n - 2) r2) 0 ((2 * ((vp_updL (vp_updL kb 1 r1) (n - 2) r2) 1)) - ((vp_updL (vp_updL kb 1 r1) (n - 2) r2) 2))) (n - 2))) - ((vp_updL (vp_updL (vp_updL kb 1 r1) (n - 2) r2) 0 ((2 * ((vp_updL (vp_updL kb 1 r1) (n - 2) r2) 1)) - ((vp_updL (vp_updL kb 1 r1) (n - 2) r2) 2))) (n - 3)))), aJ G m11 72 kc9]
                        have hqi : ri = quo (10000 * (ka t3)) ((vp_updL (vp_updL (vp_updL (vp_updL kb 1 r1) (n - 2) r2) 0 ((2 * ((vp_updL (vp_updL kb 1 r1) (n - 2) r2) 1)) - ((vp_updL (vp_updL kb 1 r1) (n - 2) r2) 2))) (n - 1) ((2 * ((vp_updL (vp_updL (vp_updL kb 1 r1) (n - 2) r2) 0 ((2 * ((vp_updL (vp_updL kb 1 r1) (n - 2) r2) 1)) - ((vp_updL (vp_updL kb 1 r1) (n - 2) r2) 2))) (n - 2))) - ((vp_updL (vp_updL (vp_updL kb 1 r1) (n - 2) r2) 0 ((2 * ((vp_updL (vp_updL kb 1 r1) (n - 2) r2) 1)) - ((vp_updL (vp_updL kb 1 r1) (n - 2) r2) 2))) (n - 3)))) t3) := hqi
                        refine J_goto F 360 (dcq dc_X4_findTrends_4 36 rfl) (by decide) ?_
                        refine J_last F (ws2 := [oB 4 qm [.ref m0, .ref m1, .int (nI hc), .int (nI rf), .ref m2, .ref m3, .ref m4, .ref m5, .ref m6, .ref m7, .ref m8, .long sp, .ref m9, .ref m10, .ref m11, .long ha], aI G m0 220 nw, aJ G m8 12 e8, aJ G m9 72 ka, aJ G m10 72 (vp_updL (vp_updL (vp_updL (vp_updL kb 1 r1) (n - 2) r2) 0 ((2 * ((vp_updL (vp_updL kb 1 r1) (n - 2) r2) 1)) - ((vp_updL (vp_updL kb 1 r1) (n - 2) r2) 2))) (n - 1) ((2 * ((vp_updL (vp_updL (vp_updL kb 1 r1) (n - 2) r2) 0 ((2 * ((vp_updL (vp_updL kb 1 r1) (n - 2) r2) 1)) - ((vp_updL (vp_updL kb 1 r1) (n - 2) r2) 2))) (n - 2))) - ((vp_updL (vp_updL (vp_updL kb 1 r1) (n - 2) r2) 0 ((2 * ((vp_updL (vp_updL kb 1 r1) (n - 2) r2) 1)) - ((vp_updL (vp_updL kb 1 r1) (n - 2) r2) 2))) (n - 3)))), aJ G m11 72 (vp_updL kc9 t3 ri)]) 5 rfl (by omega) (Nat.le_of_ble_eq_true rfl) rfl (dcq dc_X4_findTrends_4 38 rfl) ?_
                        refine J_iinc F (lv2 := [(2, .int (nI (t3 + 1))), (0, .ref qm), (1, .int (nI n))]) (v := nI (t3 + 1)) 2 (dcq dc_X4_findTrends_4 39 rfl) rfl (nI_inc _) (Nat.le_of_ble_eq_true rfl) rfl ?_
                        refine J_goto F 289 (dcq dc_X4_findTrends_4 40 rfl) (by decide) ?_
                        refine J_locs [1, 2, 0] rfl ?_
                        exact ih289 (t3 + 1) (vp_updL kc9 t3 ri) (by omega) (up_l i11 (by unfold irr; rw [← i9 t3 (Nat.zero_le _) (by omega), ← htre t3 (by omega)]; first | exact (if_pos hm2).symm | (rw [if_neg (by omega), if_pos (Int64.not_le.mp hc9), hqi]; done) | (rw [if_neg (by omega), if_neg (Int64.not_lt.mpr hc9)]; done))) (by omega)
                    · skip
                      have hm2 := h_4
                      refine J_aload_n F 0 (dcq dc_X4_findTrends_4 8 rfl) rfl rfl ?_
                      refine J_get F fcX4 0 12 rfl (Nat.le_of_ble_eq_true rfl) tw_3_235 rfl rfl (dcq dc_X4_findTrends_4 9 rfl) ?_
                      refine J_iload_n F 2 (dcq dc_X4_findTrends_4 10 rfl) rfl rfl ?_
                      refine J_lald F 3 rfl (by omega) (Nat.le_of_ble_eq_true rfl) (dcq dc_X4_findTrends_4 11 rfl) ?_
                      refine J_aload_n F 0 (dcq dc_X4_findTrends_4 12 rfl) rfl rfl ?_
                      refine J_get F fcX4 0 13 rfl (Nat.le_of_ble_eq_true rfl) tw_3_236 rfl rfl (dcq dc_X4_findTrends_4 13 rfl) ?_
                      refine J_iload_n F 2 (dcq dc_X4_findTrends_4 14 rfl) rfl rfl ?_
                      refine J_lald F 4 rfl (by omega) (Nat.le_of_ble_eq_true rfl) (dcq dc_X4_findTrends_4 15 rfl) ?_
                      refine J_lsub F (v := (ka t3) - ((vp_updL (vp_updL (vp_updL (vp_updL kb 1 r1) (n - 2) r2) 0 ((2 * ((vp_updL (vp_updL kb 1 r1) (n - 2) r2) 1)) - ((vp_updL (vp_updL kb 1 r1) (n - 2) r2) 2))) (n - 1) ((2 * ((vp_updL (vp_updL (vp_updL kb 1 r1) (n - 2) r2) 0 ((2 * ((vp_updL (vp_updL kb 1 r1) (n - 2) r2) 1)) - ((vp_updL (vp_updL kb 1 r1) (n - 2) r2) 2))) (n - 2))) - ((vp_updL (vp_updL (vp_updL kb 1 r1) (n - 2) r2) 0 ((2 * ((vp_updL (vp_updL kb 1 r1) (n - 2) r2) 1)) - ((vp_updL (vp_updL kb 1 r1) (n - 2) r2) 2))) (n - 3)))) t3)) (dcq dc_X4_findTrends_4 16 rfl) rfl ?_
                      refine J_goto F 360 (dcq dc_X4_findTrends_4 17 rfl) (by decide) ?_
                      refine J_last F (ws2 := [oB 4 qm [.ref m0, .ref m1, .int (nI hc), .int (nI rf), .ref m2, .ref m3, .ref m4, .ref m5, .ref m6, .ref m7, .ref m8, .long sp, .ref m9, .ref m10, .ref m11, .long ha], aI G m0 220 nw, aJ G m8 12 e8, aJ G m9 72 ka, aJ G m10 72 (vp_updL (vp_updL (vp_updL (vp_updL kb 1 r1) (n - 2) r2) 0 ((2 * ((vp_updL (vp_updL kb 1 r1) (n - 2) r2) 1)) - ((vp_updL (vp_updL kb 1 r1) (n - 2) r2) 2))) (n - 1) ((2 * ((vp_updL (vp_updL (vp_updL kb 1 r1) (n - 2) r2) 0 ((2 * ((vp_updL (vp_updL kb 1 r1) (n - 2) r2) 1)) - ((vp_updL (vp_updL kb 1 r1) (n - 2) r2) 2))) (n - 2))) - ((vp_updL (vp_updL (vp_updL kb 1 r1) (n - 2) r2) 0 ((2 * ((vp_updL (vp_updL kb 1 r1) (n - 2) r2) 1)) - ((vp_updL (vp_updL kb 1 r1) (n - 2) r2) 2))) (n - 3)))), aJ G m11 72 (vp_updL kc9 t3 ((ka t3) - ((vp_updL (vp_updL (vp_updL (vp_updL kb 1 r1) (n - 2) r2) 0 ((2 * ((vp_updL (vp_updL kb 1 r1) (n - 2) r2) 1)) - ((vp_updL (vp_updL kb 1 r1) (n - 2) r2) 2))) (n - 1) ((2 * ((vp_updL (vp_updL (vp_updL kb 1 r1) (n - 2) r2) 0 ((2 * ((vp_updL (vp_updL kb 1 r1) (n - 2) r2) 1)) - ((vp_updL (vp_updL kb 1 r1) (n - 2) r2) 2))) (n - 2))) - ((vp_updL (vp_updL (vp_updL kb 1 r1) (n - 2) r2) 0 ((2 * ((vp_updL (vp_updL kb 1 r1) (n - 2) r2) 1)) - ((vp_updL (vp_updL kb 1 r1) (n - 2) r2) 2))) (n - 3)))) t3)))]) 5 rfl (by omega) (Nat.le_of_ble_eq_true rfl) rfl (dcq dc_X4_findTrends_4 38 rfl) ?_
                      refine J_iinc F (lv2 := [(2, .int (nI (t3 + 1))), (0, .ref qm), (1, .int (nI n))]) (v := nI (t3 + 1)) 2 (dcq dc_X4_findTrends_4 39 rfl) rfl (nI_inc _) (Nat.le_of_ble_eq_true rfl) rfl ?_
                      refine J_goto F 289 (dcq dc_X4_findTrends_4 40 rfl) (by decide) ?_
                      refine J_locs [1, 2, 0] rfl ?_
                      exact ih289 (t3 + 1) (vp_updL kc9 t3 ((ka t3) - ((vp_updL (vp_updL (vp_updL (vp_updL kb 1 r1) (n - 2) r2) 0 ((2 * ((vp_updL (vp_updL kb 1 r1) (n - 2) r2) 1)) - ((vp_updL (vp_updL kb 1 r1) (n - 2) r2) 2))) (n - 1) ((2 * ((vp_updL (vp_updL (vp_updL kb 1 r1) (n - 2) r2) 0 ((2 * ((vp_updL (vp_updL kb 1 r1) (n - 2) r2) 1)) - ((vp_updL (vp_updL kb 1 r1) (n - 2) r2) 2))) (n - 2))) - ((vp_updL (vp_updL (vp_updL kb 1 r1) (n - 2) r2) 0 ((2 * ((vp_updL (vp_updL kb 1 r1) (n - 2) r2) 1)) - ((vp_updL (vp_updL kb 1 r1) (n - 2) r2) 2))) (n - 3)))) t3))) (by omega) (up_l i11 (by unfold irr; rw [← i9 t3 (Nat.zero_le _) (by omega), ← htre t3 (by omega)]; first | exact (if_pos hm2).symm | (rw [if_neg (by omega), if_pos (Int64.not_le.mp hc9), hqi]; done) | (rw [if_neg (by omega), if_neg (Int64.not_lt.mpr hc9)]; done))) (by omega)
              refine J_locs [1, 2, 0] rfl ?_
              exact L289 (n - 0 + 1) 0 e11 (by omega) (fun j _ h => absurd h (Nat.not_lt_zero _)) (Nat.lt_succ_self _)
            · skip
              refine J_aload_n F 0 (dcq dc_X4_findTrends_1 5 rfl) rfl rfl ?_
              refine J_get F fcX4 0 13 rfl (Nat.le_of_ble_eq_true rfl) tw_3_236 rfl rfl (dcq dc_X4_findTrends_1 6 rfl) ?_
              refine J_iload_n F 2 (dcq dc_X4_findTrends_1 7 rfl) rfl rfl ?_
              refine J_ldc2 F (v2 := (558)) tw_4_211 rfl (dcq dc_X4_findTrends_1 8 rfl) ?_
              refine J_aload_n F 0 (dcq dc_X4_findTrends_1 9 rfl) rfl rfl ?_
              refine J_get F fcX4 0 12 rfl (Nat.le_of_ble_eq_true rfl) tw_3_235 rfl rfl (dcq dc_X4_findTrends_1 10 rfl) ?_
              refine J_iload_n F 2 (dcq dc_X4_findTrends_1 11 rfl) rfl rfl ?_
              refine J_lald F 3 rfl (by omega) (Nat.le_of_ble_eq_true rfl) (dcq dc_X4_findTrends_1 12 rfl) ?_
              refine J_lmul F (v := 558 * (ka t2)) (dcq dc_X4_findTrends_1 13 rfl) rfl ?_
              refine J_ldc2 F (v2 := (294)) tw_4_212 rfl (dcq dc_X4_findTrends_1 14 rfl) ?_
              refine J_aload_n F 0 (dcq dc_X4_findTrends_1 15 rfl) rfl rfl ?_
              refine J_get F fcX4 0 12 rfl (Nat.le_of_ble_eq_true rfl) tw_3_235 rfl rfl (dcq dc_X4_findTrends_1 16 rfl) ?_
              refine J_iload_n F 2 (dcq dc_X4_findTrends_1 17 rfl) rfl rfl ?_
              refine J_iconst F (dcq dc_X4_findTrends_1 18 rfl) ic_1 ?_
              refine J_isub F (v := nI (t2 - 1)) (dcq dc_X4_findTrends_1 19 rfl) (pk_sub (by omega)) ?_
              refine J_lald F 3 rfl (by omega) (Nat.le_of_ble_eq_true rfl) (dcq dc_X4_findTrends_1 20 rfl) ?_
              refine J_aload_n F 0 (dcq dc_X4_findTrends_1 21 rfl) rfl rfl ?_
              refine J_get F fcX4 0 12 rfl (Nat.le_of_ble_eq_true rfl) tw_3_235 rfl rfl (dcq dc_X4_findTrends_1 22 rfl) ?_
              refine J_iload_n F 2 (dcq dc_X4_findTrends_1 23 rfl) rfl rfl ?_
              refine J_iconst F (dcq dc_X4_findTrends_1 24 rfl) ic_1 ?_
              refine J_iadd F (v := nI (t2 + 1)) (dcq dc_X4_findTrends_1 25 rfl) (nI_add _ _) ?_
              refine J_lald F 3 rfl (by omega) (Nat.le_of_ble_eq_true rfl) (dcq dc_X4_findTrends_1 26 rfl) ?_
              refine J_ladd F (v := (ka (t2 - 1)) + (ka (t2 + 1))) (dcq dc_X4_findTrends_1 27 rfl) rfl ?_
              refine J_lmul F (v := 294 * ((ka (t2 - 1)) + (ka (t2 + 1)))) (dcq dc_X4_findTrends_1 28 rfl) rfl ?_
              refine J_ladd F (v := (558 * (ka t2)) + (294 * ((ka (t2 - 1)) + (ka (t2 + 1))))) (dcq dc_X4_findTrends_1 29 rfl) rfl ?_
              refine J_ldc2 F (v2 := (73)) tw_4_213 rfl (dcq dc_X4_findTrends_1 30 rfl) ?_
              refine J_aload_n F 0 (dcq dc_X4_findTrends_1 31 rfl) rfl rfl ?_
              refine J_get F fcX4 0 12 rfl (Nat.le_of_ble_eq_true rfl) tw_3_235 rfl rfl (dcq dc_X4_findTrends_1 32 rfl) ?_
              refine J_iload_n F 2 (dcq dc_X4_findTrends_1 33 rfl) rfl rfl ?_
              refine J_iconst F (dcq dc_X4_findTrends_1 34 rfl) ic_2 ?_
              refine J_isub F (v := nI (t2 - 2)) (dcq dc_X4_findTrends_1 35 rfl) (pk_sub (by omega)) ?_
              refine J_lald F 3 rfl (by omega) (Nat.le_of_ble_eq_true rfl) (dcq dc_X4_findTrends_1 36 rfl) ?_
              refine J_aload_n F 0 (dcq dc_X4_findTrends_1 37 rfl) rfl rfl ?_
              refine J_get F fcX4 0 12 rfl (Nat.le_of_ble_eq_true rfl) tw_3_235 rfl rfl (dcq dc_X4_findTrends_1 38 rfl) ?_
              refine J_iload_n F 2 (dcq dc_X4_findTrends_1 39 rfl) rfl rfl ?_
              refine J_iconst F (dcq dc_X4_findTrends_1 40 rfl) ic_2 ?_
              refine J_iadd F (v := nI (t2 + 2)) (dcq dc_X4_findTrends_1 41 rfl) (nI_add _ _) ?_
              refine J_lald F 3 rfl (by omega) (Nat.le_of_ble_eq_true rfl) (dcq dc_X4_findTrends_1 42 rfl) ?_
              refine J_ladd F (v := (ka (t2 - 2)) + (ka (t2 + 2))) (dcq dc_X4_findTrends_1 43 rfl) rfl ?_
              refine J_lmul F (v := 73 * ((ka (t2 - 2)) + (ka (t2 + 2)))) (dcq dc_X4_findTrends_1 44 rfl) rfl ?_
              refine J_lsub F (v := ((558 * (ka t2)) + (294 * ((ka (t2 - 1)) + (ka (t2 + 1))))) - (73 * ((ka (t2 - 2)) + (ka (t2 + 2))))) (dcq dc_X4_findTrends_1 45 rfl) rfl ?_
              refine J_ldc2 F (v2 := (1000)) tw_4_214 rfl (dcq dc_X4_findTrends_1 46 rfl) ?_
              refine J_callS F (wc := []) (wr := [oB 4 qm [.ref m0, .ref m1, .int (nI hc), .int (nI rf), .ref m2, .ref m3, .ref m4, .ref m5, .ref m6, .ref m7, .ref m8, .long sp, .ref m9, .ref m10, .ref m11, .long ha], aI G m0 220 nw, aJ G m8 12 e8, aJ G m9 72 ka, aJ G m10 72 kb, aJ G m11 72 e11]) (rest := [.int (nI t2), .ref m10]) (c_X4_over l hl G (((558 * (ka t2)) + (294 * ((ka (t2 - 1)) + (ka (t2 + 1))))) - (73 * ((ka (t2 - 2)) + (ka (t2 + 2))))) 1000 (by decide)) cd_X4_over tw_4_138 tw_4_137 [] [0, 1, 2, 3, 4, 5] rfl rfl rfl rfl (by decide) rfl ⟨(Nat.le_of_ble_eq_true rfl), (Nat.le_of_ble_eq_true rfl), (Nat.le_of_ble_eq_true rfl), (Nat.le_of_ble_eq_true rfl)⟩ (Nat.le_of_ble_eq_true rfl) rfl (dcq dc_X4_findTrends_1 47 rfl) ?_
              rintro _ _ ⟨rq5, rfl, rfl, hq5⟩
              change J p l e (cRm 1 31 0 0) s m args below meth c G A 5 (JQ below G A (po_X4_findTrends G qm m0 m1 m2 m3 m4 m5 m6 m7 m8 m9 m10 m11 hc rf sp ha nw P M R n v g d e8 e9 e10 e11 w) args s 0 0) 0 0 148 [(0, .ref qm), (1, .int (nI n)), (2, .int (nI t2))] [.long rq5, .int (nI t2), .ref m10] [oB 4 qm [.ref m0, .ref m1, .int (nI hc), .int (nI rf), .ref m2, .ref m3, .ref m4, .ref m5, .ref m6, .ref m7, .ref m8, .long sp, .ref m9, .ref m10, .ref m11, .long ha], aI G m0 220 nw, aJ G m8 12 e8, aJ G m9 72 ka, aJ G m10 72 kb, aJ G m11 72 e11]
              have hq5 : rq5 = quo (((558 * (ka t2)) + (294 * ((ka (t2 - 1)) + (ka (t2 + 1))))) - (73 * ((ka (t2 - 2)) + (ka (t2 + 2))))) 1000 := hq5
              refine J_last F (ws2 := [oB 4 qm [.ref m0, .ref m1, .int (nI hc), .int (nI rf), .ref m2, .ref m3, .ref m4, .ref m5, .ref m6, .ref m7, .ref m8, .long sp, .ref m9, .ref m10, .ref m11, .long ha], aI G m0 220 nw, aJ G m8 12 e8, aJ G m9 72 ka, aJ G m10 72 (vp_updL kb t2 rq5), aJ G m11 72 e11]) 4 rfl (by omega) (Nat.le_of_ble_eq_true rfl) rfl (dcq dc_X4_findTrends_2 0 rfl) ?_
              refine J_iinc F (lv2 := [(2, .int (nI (t2 + 1))), (0, .ref qm), (1, .int (nI n))]) (v := nI (t2 + 1)) 2 (dcq dc_X4_findTrends_2 1 rfl) rfl (nI_inc _) (Nat.le_of_ble_eq_true rfl) rfl ?_
              refine J_goto F 76 (dcq dc_X4_findTrends_2 2 rfl) (by decide) ?_
              refine J_locs [1, 2, 0] rfl ?_
              exact ih76 (t2 + 1) (vp_updL kb t2 rq5) (by omega) (by omega) (up_l i10 (by rw [hq5]; exact sm5_eq ka t2)) (by omega)
        refine J_locs [1, 2, 0] rfl ?_
        exact L76 (n - 2 - 2 + 1) 2 e10 (by omega) (by omega) (fun j h1 h2 => absurd h2 (by omega)) (Nat.lt_succ_self _)
      · skip
        refine J_aload_n F 0 (dcq dc_X4_findTrends_0 10 rfl) rfl rfl ?_
        refine J_get F fcX4 0 10 rfl (Nat.le_of_ble_eq_true rfl) tw_3_233 rfl rfl (dcq dc_X4_findTrends_0 11 rfl) ?_
        refine J_iload_n F 2 (dcq dc_X4_findTrends_0 12 rfl) rfl rfl ?_
        refine J_aload_n F 0 (dcq dc_X4_findTrends_0 13 rfl) rfl rfl ?_
        refine J_get F fcX4 0 0 rfl (Nat.le_of_ble_eq_true rfl) tw_3_223 rfl rfl (dcq dc_X4_findTrends_0 14 rfl) ?_
        refine J_iconst F (dcq dc_X4_findTrends_0 15 rfl) ic_0 ?_
        refine J_iald F 1 rfl (by omega) (Nat.le_of_ble_eq_true rfl) (dcq dc_X4_findTrends_0 16 rfl) ?_
        refine J_cast rfl (st2 := [.int (nI P), .int (nI t), .ref m8]) (by rw [hRM.1]) rfl ?_
        refine J_irem F (v := nI (t % P)) (dcq dc_X4_findTrends_0 17 rfl) (nI_ne0 (by omega) (by omega)) (pk_rem (by omega) (by omega) (by omega)) ?_
        refine J_lald F 2 rfl (by omega) (Nat.le_of_ble_eq_true rfl) (dcq dc_X4_findTrends_0 18 rfl) ?_
        refine J_lstore_n F (lv2 := [(3, .long (e8 (t % P))), (0, .ref qm), (1, .int (nI n)), (2, .int (nI t))]) (dcq dc_X4_findTrends_0 19 rfl) rfl (Nat.le_of_ble_eq_true rfl) rfl ?_
        refine J_aload_n F 1 (dcq dc_X4_findTrends_0 20 rfl) rfl rfl ?_
        refine J_get F fcX4 0 12 rfl (Nat.le_of_ble_eq_true rfl) tw_3_235 rfl rfl (dcq dc_X4_findTrends_0 21 rfl) ?_
        refine J_iload_n F 3 (dcq dc_X4_findTrends_0 22 rfl) rfl rfl ?_
        refine J_aload_n F 1 (dcq dc_X4_findTrends_0 23 rfl) rfl rfl ?_
        refine J_get F fcX4 0 0 rfl (Nat.le_of_ble_eq_true rfl) tw_3_223 rfl rfl (dcq dc_X4_findTrends_0 24 rfl) ?_
        refine J_iconst F (dcq dc_X4_findTrends_0 25 rfl) ic_1 ?_
        refine J_iald F 1 rfl (by omega) (Nat.le_of_ble_eq_true rfl) (dcq dc_X4_findTrends_0 26 rfl) ?_
        refine J_cast rfl (st2 := [.int (nI M), .int (nI t), .ref m9]) (by rw [hRM.2.1]) rfl ?_
        refine J_nif_ne F 53 (by omega) (dcq dc_X4_findTrends_0 27 rfl) (by decide) (fun h_6 => ?_) (fun h_6 => ?_)
        · skip
          have hm := h_6
          refine J_ldc2 F (v2 := (10000)) tw_4_180 rfl (dcq dc_X4_findTrends_0 35 rfl) ?_
          refine J_aload_n F 1 (dcq dc_X4_findTrends_0 36 rfl) rfl rfl ?_
          refine J_iload_n F 3 (dcq dc_X4_findTrends_0 37 rfl) rfl rfl ?_
          refine J_callV F (wc := [oB 4 qm [.ref m0, .ref m1, .int (nI hc), .int (nI rf), .ref m2, .ref m3, .ref m4, .ref m5, .ref m6, .ref m7, .ref m8, .long sp, .ref m9, .ref m10, .ref m11, .long ha], aI G m0 220 nw]) (wr := [aJ G m8 12 e8, aJ G m9 72 ka, aJ G m10 72 e10, aJ G m11 72 e11]) (rest := [.long 10000, .int (nI t), .ref m9]) (qc := 0) (c_X4_valueAt l hl G qm m0 m1 m2 m3 m4 m5 m6 m7 m8 m9 m10 m11 hc rf sp ha nw P M R n v g d t (by first | assumption | omega) (by first | assumption | omega) (by first | assumption | omega)) cd_X4_valueAt cv_X4_valueAt rfl rfl rfl tw_4_73 [0, 1] [2, 3, 4, 5] rfl rfl rfl rfl (by decide) rfl ⟨(Nat.le_of_ble_eq_true rfl), (Nat.le_of_ble_eq_true rfl), (Nat.le_of_ble_eq_true rfl), (Nat.le_of_ble_eq_true rfl)⟩ (Nat.le_of_ble_eq_true rfl) rfl (dcq dc_X4_findTrends_0 38 rfl) ?_
          rintro _ _ ⟨rfl, rfl⟩
          change J p l e (cRm 1 31 0 0) s m args below meth c G A 5 (JQ below G A (po_X4_findTrends G qm m0 m1 m2 m3 m4 m5 m6 m7 m8 m9 m10 m11 hc rf sp ha nw P M R n v g d e8 e9 e10 e11 w) args s 0 0) 0 0 61 [(3, .long (e8 (t % P))), (0, .ref qm), (1, .int (nI n)), (2, .int (nI t))] [.int (v t), .long 10000, .int (nI t), .ref m9] [aJ G m8 12 e8, aJ G m9 72 ka, aJ G m10 72 e10, aJ G m11 72 e11, oB 4 qm [.ref m0, .ref m1, .int (nI hc), .int (nI rf), .ref m2, .ref m3, .ref m4, .ref m5, .ref m6, .ref m7, .ref m8, .long sp, .ref m9, .ref m10, .ref m11, .long ha], aI G m0 220 nw]
          refine J_world (ws2 := [oB 4 qm [.ref m0, .ref m1, .int (nI hc), .int (nI rf), .ref m2, .ref m3, .ref m4, .ref m5, .ref m6, .ref m7, .ref m8, .long sp, .ref m9, .ref m10, .ref m11, .long ha], aI G m0 220 nw, aJ G m8 12 e8, aJ G m9 72 ka, aJ G m10 72 e10, aJ G m11 72 e11]) [4, 5, 0, 1, 2, 3] rfl rfl ?_
          refine J_i2l F (v := (v t).toInt64) (dcq dc_X4_findTrends_0 39 rfl) rfl ?_
          refine J_lmul F (v := 10000 * ((v t).toInt64)) (dcq dc_X4_findTrends_0 40 rfl) rfl ?_
          refine J_lload_n F 0 (dcq dc_X4_findTrends_0 41 rfl) rfl rfl ?_
          refine J_callS F (wc := []) (wr := [oB 4 qm [.ref m0, .ref m1, .int (nI hc), .int (nI rf), .ref m2, .ref m3, .ref m4, .ref m5, .ref m6, .ref m7, .ref m8, .long sp, .ref m9, .ref m10, .ref m11, .long ha], aI G m0 220 nw, aJ G m8 12 e8, aJ G m9 72 ka, aJ G m10 72 e10, aJ G m11 72 e11]) (rest := [.int (nI t), .ref m9]) (c_X4_over l hl G (10000 * ((v t).toInt64)) (e8 (t % P)) (by rw [tI0, hf8 _ hml9]; have hg1 := fac_ge1 (P := P) (M := M) (n := n) (v := v) (w := w) (by omega) (t % P); omega)) cd_X4_over tw_4_138 tw_4_137 [] [0, 1, 2, 3, 4, 5] rfl rfl rfl rfl (by decide) rfl ⟨(Nat.le_of_ble_eq_true rfl), (Nat.le_of_ble_eq_true rfl), (Nat.le_of_ble_eq_true rfl), (Nat.le_of_ble_eq_true rfl)⟩ (Nat.le_of_ble_eq_true rfl) rfl (dcq dc_X4_findTrends_0 42 rfl) ?_
          rintro _ _ ⟨rq, rfl, rfl, hq⟩
          change J p l e (cRm 1 31 0 0) s m args below meth c G A 5 (JQ below G A (po_X4_findTrends G qm m0 m1 m2 m3 m4 m5 m6 m7 m8 m9 m10 m11 hc rf sp ha nw P M R n v g d e8 e9 e10 e11 w) args s 0 0) 0 0 67 [(3, .long (e8 (t % P))), (0, .ref qm), (1, .int (nI n)), (2, .int (nI t))] [.long rq, .int (nI t), .ref m9] [oB 4 qm [.ref m0, .ref m1, .int (nI hc), .int (nI rf), .ref m2, .ref m3, .ref m4, .ref m5, .ref m6, .ref m7, .ref m8, .long sp, .ref m9, .ref m10, .ref m11, .long ha], aI G m0 220 nw, aJ G m8 12 e8, aJ G m9 72 ka, aJ G m10 72 e10, aJ G m11 72 e11]
          have hq : rq = quo (10000 * ((v t).toInt64)) (e8 (t % P)) := hq
          refine J_last F (ws2 := [oB 4 qm [.ref m0, .ref m1, .int (nI hc), .int (nI rf), .ref m2, .ref m3, .ref m4, .ref m5, .ref m6, .ref m7, .ref m8, .long sp, .ref m9, .ref m10, .ref m11, .long ha], aI G m0 220 nw, aJ G m8 12 e8, aJ G m9 72 (vp_updL ka t rq), aJ G m10 72 e10, aJ G m11 72 e11]) 3 rfl (by omega) (Nat.le_of_ble_eq_true rfl) rfl (dcq dc_X4_findTrends_0 43 rfl) ?_
          refine J_iinc F (lv2 := [(2, .int (nI (t + 1))), (3, .long (e8 (t % P))), (0, .ref qm), (1, .int (nI n))]) (v := nI (t + 1)) 3 (dcq dc_X4_findTrends_0 44 rfl) rfl (nI_inc _) (Nat.le_of_ble_eq_true rfl) rfl ?_
          refine J_goto F 9 (dcq dc_X4_findTrends_0 45 rfl) (by decide) ?_
          refine J_locs [2, 3, 0] rfl ?_
          exact ih9 (t + 1) (vp_updL ka t rq) (by omega) (up_l i9 (by unfold lev; first | (rw [if_pos hm, hf8 _ hml9]; rfl) | (rw [if_neg (by omega), hq, hf8 _ hml9]; rfl))) (by omega)
        · skip
          have hm := h_6
          refine J_aload_n F 1 (dcq dc_X4_findTrends_0 28 rfl) rfl rfl ?_
          refine J_iload_n F 3 (dcq dc_X4_findTrends_0 29 rfl) rfl rfl ?_
          refine J_callV F (wc := [oB 4 qm [.ref m0, .ref m1, .int (nI hc), .int (nI rf), .ref m2, .ref m3, .ref m4, .ref m5, .ref m6, .ref m7, .ref m8, .long sp, .ref m9, .ref m10, .ref m11, .long ha], aI G m0 220 nw]) (wr := [aJ G m8 12 e8, aJ G m9 72 ka, aJ G m10 72 e10, aJ G m11 72 e11]) (rest := [.int (nI t), .ref m9]) (qc := 0) (c_X4_valueAt l hl G qm m0 m1 m2 m3 m4 m5 m6 m7 m8 m9 m10 m11 hc rf sp ha nw P M R n v g d t (by first | assumption | omega) (by first | assumption | omega) (by first | assumption | omega)) cd_X4_valueAt cv_X4_valueAt rfl rfl rfl tw_4_73 [0, 1] [2, 3, 4, 5] rfl rfl rfl rfl (by decide) rfl ⟨(Nat.le_of_ble_eq_true rfl), (Nat.le_of_ble_eq_true rfl), (Nat.le_of_ble_eq_true rfl), (Nat.le_of_ble_eq_true rfl)⟩ (Nat.le_of_ble_eq_true rfl) rfl (dcq dc_X4_findTrends_0 30 rfl) ?_
          rintro _ _ ⟨rfl, rfl⟩
          change J p l e (cRm 1 31 0 0) s m args below meth c G A 5 (JQ below G A (po_X4_findTrends G qm m0 m1 m2 m3 m4 m5 m6 m7 m8 m9 m10 m11 hc rf sp ha nw P M R n v g d e8 e9 e10 e11 w) args s 0 0) 0 0 47 [(3, .long (e8 (t % P))), (0, .ref qm), (1, .int (nI n)), (2, .int (nI t))] [.int (v t), .int (nI t), .ref m9] [aJ G m8 12 e8, aJ G m9 72 ka, aJ G m10 72 e10, aJ G m11 72 e11, oB 4 qm [.ref m0, .ref m1, .int (nI hc), .int (nI rf), .ref m2, .ref m3, .ref m4, .ref m5, .ref m6, .ref m7, .ref m8, .long sp, .ref m9, .ref m10, .ref m11, .long ha], aI G m0 220 nw]
          refine J_world (ws2 := [oB 4 qm [.ref m0, .ref m1, .int (nI hc), .int (nI rf), .ref m2, .ref m3, .ref m4, .ref m5, .ref m6, .ref m7, .ref m8, .long sp, .ref m9, .ref m10, .ref m11, .long ha], aI G m0 220 nw, aJ G m8 12 e8, aJ G m9 72 ka, aJ G m10 72 e10, aJ G m11 72 e11]) [4, 5, 0, 1, 2, 3] rfl rfl ?_
          refine J_i2l F (v := (v t).toInt64) (dcq dc_X4_findTrends_0 31 rfl) rfl ?_
          refine J_lload_n F 0 (dcq dc_X4_findTrends_0 32 rfl) rfl rfl ?_
          refine J_lsub F (v := ((v t).toInt64) - (e8 (t % P))) (dcq dc_X4_findTrends_0 33 rfl) rfl ?_
          refine J_goto F 67 (dcq dc_X4_findTrends_0 34 rfl) (by decide) ?_
          refine J_last F (ws2 := [oB 4 qm [.ref m0, .ref m1, .int (nI hc), .int (nI rf), .ref m2, .ref m3, .ref m4, .ref m5, .ref m6, .ref m7, .ref m8, .long sp, .ref m9, .ref m10, .ref m11, .long ha], aI G m0 220 nw, aJ G m8 12 e8, aJ G m9 72 (vp_updL ka t (((v t).toInt64) - (e8 (t % P)))), aJ G m10 72 e10, aJ G m11 72 e11]) 3 rfl (by omega) (Nat.le_of_ble_eq_true rfl) rfl (dcq dc_X4_findTrends_0 43 rfl) ?_
          refine J_iinc F (lv2 := [(2, .int (nI (t + 1))), (3, .long (e8 (t % P))), (0, .ref qm), (1, .int (nI n))]) (v := nI (t + 1)) 3 (dcq dc_X4_findTrends_0 44 rfl) rfl (nI_inc _) (Nat.le_of_ble_eq_true rfl) rfl ?_
          refine J_goto F 9 (dcq dc_X4_findTrends_0 45 rfl) (by decide) ?_
          refine J_locs [2, 3, 0] rfl ?_
          exact ih9 (t + 1) (vp_updL ka t (((v t).toInt64) - (e8 (t % P)))) (by omega) (up_l i9 (by unfold lev; first | (rw [if_pos hm, hf8 _ hml9]; rfl) | (rw [if_neg (by omega), hq, hf8 _ hml9]; rfl))) (by omega)
  refine J_locs [2, 1, 0] rfl ?_
  exact L9 (n - 0 + 1) 0 e9 (by omega) (fun j _ h => absurd h (Nat.not_lt_zero _)) (Nat.lt_succ_self _)

abbrev po_X4_decomposes (G : Gt) (qm m0 m1 m2 m3 m4 m5 m6 m7 m8 m9 m10 m11 hc rf : Nat) (sp ha : Int64) (nw : Nat → Int32) (P M R n : Nat) (v g d : Nat → Int32) (s3 : Nat → Int64) (e4 : Nat → Int64) (e5 : Nat → Int64) (e7 : Nat → Int64) (e8 : Nat → Int64) (e9 : Nat → Int64) (e10 : Nat → Int64) (e11 : Nat → Int64) (e6 : Nat → Int32) : Option Value → va_W → Prop := fun (v9 : Option Value) (w9 : va_W) => (∃ (sp2 : Int64), ∃ (k3 k4 k5 : Nat → Int64), ∃ (k6 : Nat → Int32), ∃ (k7 k8 k9 k10 k11 : Nat → Int64), v9 = some (.int (nI 1)) ∧ w9 = [oB 4 qm [.ref m0, .ref m1, .int (nI hc), .int (nI rf), .ref m2, .ref m3, .ref m4, .ref m5, .ref m6, .ref m7, .ref m8, .long sp2, .ref m9, .ref m10, .ref m11, .long ha], aI G m0 220 nw, aJ G m3 73 k3, aJ G m4 72 k4, aJ G m5 72 k5, aI G m6 72 k6, aJ G m7 72 k7, aJ G m8 12 k8, aJ G m9 72 k9, aJ G m10 72 k10, aJ G m11 72 k11] ∧ (dcm P n g) ∧ (MPT P M R n v sp2 k4 k5 k6 k7 k8 k9 k10 k11)) ∨ (v9 = some (.int (nI 0)) ∧ w9 = [oB 4 qm [.ref m0, .ref m1, .int (nI hc), .int (nI rf), .ref m2, .ref m3, .ref m4, .ref m5, .ref m6, .ref m7, .ref m8, .long sp, .ref m9, .ref m10, .ref m11, .long ha], aI G m0 220 nw, aJ G m3 73 s3, aJ G m4 72 e4, aJ G m5 72 e5, aI G m6 72 e6, aJ G m7 72 e7, aJ G m8 12 e8, aJ G m9 72 e9, aJ G m10 72 e10, aJ G m11 72 e11] ∧ (¬ dcm P n g))
set_option maxHeartbeats 4000000 in
set_option maxRecDepth 100000 in
theorem c_X4_decomposes (l : Launch) (hl : l.stackTraces = false) (G : Gt) (qm m0 m1 m2 m3 m4 m5 m6 m7 m8 m9 m10 m11 hc rf : Nat) (sp ha : Int64) (nw : Nat → Int32) (P M R n : Nat) (v g d : Nat → Int32) (s3 : Nat → Int64) (e4 : Nat → Int64) (e5 : Nat → Int64) (e7 : Nat → Int64) (e8 : Nat → Int64) (e9 : Nat → Int64) (e10 : Nat → Int64) (e11 : Nat → Int64) (e6 : Nat → Int32) (hRM : RM nw P M R n v g d) (hn : n ≤ 72) (h01 : G01 n g) (hP : 2 ≤ P) (hP12 : P ≤ 12) (hM : M ≤ 1) (hR : R ≤ 5) (hgv : GVg M n v g) : Con l G yX4_decomposes cX4_decomposes 2 (some .boolean) 4 86 0 0 [.ref qm] [oB 4 qm [.ref m0, .ref m1, .int (nI hc), .int (nI rf), .ref m2, .ref m3, .ref m4, .ref m5, .ref m6, .ref m7, .ref m8, .long sp, .ref m9, .ref m10, .ref m11, .long ha], aI G m0 220 nw, aJ G m3 73 s3, aJ G m4 72 e4, aJ G m5 72 e5, aI G m6 72 e6, aJ G m7 72 e7, aJ G m8 12 e8, aJ G m9 72 e9, aJ G m10 72 e10, aJ G m11 72 e11] (po_X4_decomposes G qm m0 m1 m2 m3 m4 m5 m6 m7 m8 m9 m10 m11 hc rf sp ha nw P M R n v g d s3 e4 e5 e7 e8 e9 e10 e11 e6) := by
  refine Con.of hl cd_X4_decomposes (Nat.le_of_ble_eq_true rfl) ?_
  intro p e s m args below meth c A F hin9
  change Fx p l s m args meth c G A "SeasonalAdjusterModel" cX4_decomposes 2 (some .boolean) at F
  change J p l e (cRm 4 86 0 0) s m args below meth c G A 2 (JQ below G A (po_X4_decomposes G qm m0 m1 m2 m3 m4 m5 m6 m7 m8 m9 m10 m11 hc rf sp ha nw P M R n v g d s3 e4 e5 e7 e8 e9 e10 e11 e6) args s 0 0) 0 0 0 [(0, .ref qm)] [] [oB 4 qm [.ref m0, .ref m1, .int (nI hc), .int (nI rf), .ref m2, .ref m3, .ref m4, .ref m5, .ref m6, .ref m7, .ref m8, .long sp, .ref m9, .ref m10, .ref m11, .long ha], aI G m0 220 nw, aJ G m3 73 s3, aJ G m4 72 e4, aJ G m5 72 e5, aI G m6 72 e6, aJ G m7 72 e7, aJ G m8 12 e8, aJ G m9 72 e9, aJ G m10 72 e10, aJ G m11 72 e11]
  refine J_aload_n F 0 (dcq dc_X4_decomposes_0 0 rfl) rfl rfl ?_
  refine J_callV F (wc := [oB 4 qm [.ref m0, .ref m1, .int (nI hc), .int (nI rf), .ref m2, .ref m3, .ref m4, .ref m5, .ref m6, .ref m7, .ref m8, .long sp, .ref m9, .ref m10, .ref m11, .long ha], aI G m0 220 nw]) (wr := [aJ G m3 73 s3, aJ G m4 72 e4, aJ G m5 72 e5, aI G m6 72 e6, aJ G m7 72 e7, aJ G m8 12 e8, aJ G m9 72 e9, aJ G m10 72 e10, aJ G m11 72 e11]) (rest := []) (qc := 0) (c_X4_can l hl G qm m0 m1 m2 m3 m4 m5 m6 m7 m8 m9 m10 m11 hc rf sp ha nw P M R n v g d (by first | assumption | omega) (by first | assumption | omega) (by first | assumption | omega) (by first | assumption | omega)) cd_X4_can cv_X4_can rfl rfl rfl tw_4_156 [0, 1] [2, 3, 4, 5, 6, 7, 8, 9, 10] rfl rfl rfl rfl (by decide) rfl ⟨(Nat.le_of_ble_eq_true rfl), (Nat.le_of_ble_eq_true rfl), (Nat.le_of_ble_eq_true rfl), (Nat.le_of_ble_eq_true rfl)⟩ (Nat.le_of_ble_eq_true rfl) rfl (dcq dc_X4_decomposes_0 1 rfl) ?_
  rintro _ _ h9x
  rcases h9x with ⟨rfl, rfl, hd_1⟩ | ⟨rfl, rfl, hd_1⟩
  · skip
    have hd_1 : dcm P n g := hd_1
    change J p l e (cRm 4 86 0 0) s m args below meth c G A 2 (JQ below G A (po_X4_decomposes G qm m0 m1 m2 m3 m4 m5 m6 m7 m8 m9 m10 m11 hc rf sp ha nw P M R n v g d s3 e4 e5 e7 e8 e9 e10 e11 e6) args s 0 0) 0 0 4 [(0, .ref qm)] [.int (nI 1)] [aJ G m3 73 s3, aJ G m4 72 e4, aJ G m5 72 e5, aI G m6 72 e6, aJ G m7 72 e7, aJ G m8 12 e8, aJ G m9 72 e9, aJ G m10 72 e10, aJ G m11 72 e11, oB 4 qm [.ref m0, .ref m1, .int (nI hc), .int (nI rf), .ref m2, .ref m3, .ref m4, .ref m5, .ref m6, .ref m7, .ref m8, .long sp, .ref m9, .ref m10, .ref m11, .long ha], aI G m0 220 nw]
    refine J_world (ws2 := [oB 4 qm [.ref m0, .ref m1, .int (nI hc), .int (nI rf), .ref m2, .ref m3, .ref m4, .ref m5, .ref m6, .ref m7, .ref m8, .long sp, .ref m9, .ref m10, .ref m11, .long ha], aI G m0 220 nw, aJ G m3 73 s3, aJ G m4 72 e4, aJ G m5 72 e5, aI G m6 72 e6, aJ G m7 72 e7, aJ G m8 12 e8, aJ G m9 72 e9, aJ G m10 72 e10, aJ G m11 72 e11]) [9, 10, 0, 1, 2, 3, 4, 5, 6, 7, 8] rfl rfl ?_
    have hdu := hd_1
    unfold dcm at hdu
    obtain ⟨h5, hPn, hcg⟩ := hdu
    have hv : GV M n v := GVg_GV hgv hd_1
    have hg0 := wit_btw hP hP12 hn hPn hv 0
    refine J_if_ne F 9 (dcq dc_X4_decomposes_0 2 rfl) (by decide) (fun _ => ?_) (fun h_1 => absurd h_1 (by decide))
    refine J_aload_n F 0 (dcq dc_X4_decomposes_0 5 rfl) rfl rfl ?_
    refine J_callV F (wc := [oB 4 qm [.ref m0, .ref m1, .int (nI hc), .int (nI rf), .ref m2, .ref m3, .ref m4, .ref m5, .ref m6, .ref m7, .ref m8, .long sp, .ref m9, .ref m10, .ref m11, .long ha], aI G m0 220 nw, aJ G m3 73 s3, aJ G m4 72 e4, aJ G m5 72 e5, aI G m6 72 e6]) (wr := [aJ G m7 72 e7, aJ G m8 12 e8, aJ G m9 72 e9, aJ G m10 72 e10, aJ G m11 72 e11]) (rest := []) (qc := 0) (c_X4_findFirsts l hl G qm m0 m1 m2 m3 m4 m5 m6 m7 m8 m9 m10 m11 hc rf sp ha nw P M R n v g d s3 e4 e5 e6 (by first | assumption | omega) (by first | assumption | omega) (by first | assumption | omega) (by first | assumption | omega) (by first | assumption | omega) (by first | assumption | omega) (by first | assumption | omega)) cd_X4_findFirsts cv_X4_findFirsts rfl rfl rfl tw_4_176 [0, 1, 2, 3, 4, 5] [6, 7, 8, 9, 10] rfl rfl rfl rfl (by decide) rfl ⟨(Nat.le_of_ble_eq_true rfl), (Nat.le_of_ble_eq_true rfl), (Nat.le_of_ble_eq_true rfl), (Nat.le_of_ble_eq_true rfl)⟩ (Nat.le_of_ble_eq_true rfl) rfl (dcq dc_X4_decomposes_0 6 rfl) ?_
    rintro _ _ ⟨k3, k4, k5, k6, rfl, rfl, h4, h55, h6⟩
    change J p l e (cRm 4 86 0 0) s m args below meth c G A 2 (JQ below G A (po_X4_decomposes G qm m0 m1 m2 m3 m4 m5 m6 m7 m8 m9 m10 m11 hc rf sp ha nw P M R n v g d s3 e4 e5 e7 e8 e9 e10 e11 e6) args s 0 0) 0 0 13 [(0, .ref qm)] [] [aJ G m7 72 e7, aJ G m8 12 e8, aJ G m9 72 e9, aJ G m10 72 e10, aJ G m11 72 e11, oB 4 qm [.ref m0, .ref m1, .int (nI hc), .int (nI rf), .ref m2, .ref m3, .ref m4, .ref m5, .ref m6, .ref m7, .ref m8, .long sp, .ref m9, .ref m10, .ref m11, .long ha], aI G m0 220 nw, aJ G m3 73 k3, aJ G m4 72 k4, aJ G m5 72 k5, aI G m6 72 k6]
    have h4 : ∀ t, P / 2 ≤ t → t + P / 2 < n → k4 t = ft P (P / 2) v t := h4
    have h55 : ∀ t, P / 2 ≤ t → t + P / 2 < n → k5 t = dv P M (P / 2) v t := h55
    have h6 : ∀ t, P / 2 ≤ t → t + P / 2 < n → k6 t = nI 100 := h6
    refine J_world (ws2 := [oB 4 qm [.ref m0, .ref m1, .int (nI hc), .int (nI rf), .ref m2, .ref m3, .ref m4, .ref m5, .ref m6, .ref m7, .ref m8, .long sp, .ref m9, .ref m10, .ref m11, .long ha], aI G m0 220 nw, aJ G m3 73 k3, aJ G m4 72 k4, aJ G m5 72 k5, aI G m6 72 k6, aJ G m7 72 e7, aJ G m8 12 e8, aJ G m9 72 e9, aJ G m10 72 e10, aJ G m11 72 e11]) [5, 6, 7, 8, 9, 10, 0, 1, 2, 3, 4] rfl rfl ?_
    refine J_aload_n F 0 (dcq dc_X4_decomposes_0 7 rfl) rfl rfl ?_
    refine J_callV F (wc := [oB 4 qm [.ref m0, .ref m1, .int (nI hc), .int (nI rf), .ref m2, .ref m3, .ref m4, .ref m5, .ref m6, .ref m7, .ref m8, .long sp, .ref m9, .ref m10, .ref m11, .long ha], aI G m0 220 nw, aJ G m5 72 k5, aI G m6 72 k6, aJ G m8 12 e8]) (wr := [aJ G m3 73 k3, aJ G m4 72 k4, aJ G m7 72 e7, aJ G m9 72 e9, aJ G m10 72 e10, aJ G m11 72 e11]) (rest := []) (qc := 0) (c_X4_findFactors l hl G qm m0 m1 m2 m3 m4 m5 m6 m7 m8 m9 m10 m11 hc rf sp ha nw P M R n v g d k5 e8 k6 (wit P M (P / 2) n v 0) (by first | assumption | omega) (by first | assumption | omega) (by first | assumption | omega) (by first | assumption | omega) (by first | assumption | omega) (by first | assumption | omega) (by first | assumption | omega) (h55) (h6) (hg0)) cd_X4_findFactors cv_X4_findFactors rfl rfl rfl tw_4_181 [0, 1, 4, 5, 7] [2, 3, 6, 8, 9, 10] rfl rfl rfl rfl (by decide) rfl ⟨(Nat.le_of_ble_eq_true rfl), (Nat.le_of_ble_eq_true rfl), (Nat.le_of_ble_eq_true rfl), (Nat.le_of_ble_eq_true rfl)⟩ (Nat.le_of_ble_eq_true rfl) rfl (dcq dc_X4_decomposes_0 8 rfl) ?_
    rintro _ _ ⟨f8, rfl, rfl, hf0⟩
    change J p l e (cRm 4 86 0 0) s m args below meth c G A 2 (JQ below G A (po_X4_decomposes G qm m0 m1 m2 m3 m4 m5 m6 m7 m8 m9 m10 m11 hc rf sp ha nw P M R n v g d s3 e4 e5 e7 e8 e9 e10 e11 e6) args s 0 0) 0 0 17 [(0, .ref qm)] [] [aJ G m3 73 k3, aJ G m4 72 k4, aJ G m7 72 e7, aJ G m9 72 e9, aJ G m10 72 e10, aJ G m11 72 e11, oB 4 qm [.ref m0, .ref m1, .int (nI hc), .int (nI rf), .ref m2, .ref m3, .ref m4, .ref m5, .ref m6, .ref m7, .ref m8, .long sp, .ref m9, .ref m10, .ref m11, .long ha], aI G m0 220 nw, aJ G m5 72 k5, aI G m6 72 k6, aJ G m8 12 f8]
    have hf0 : ∀ j, j < P → f8 j = fac P M (P / 2) n v (wit P M (P / 2) n v 0) j := hf0
    refine J_world (ws2 := [oB 4 qm [.ref m0, .ref m1, .int (nI hc), .int (nI rf), .ref m2, .ref m3, .ref m4, .ref m5, .ref m6, .ref m7, .ref m8, .long sp, .ref m9, .ref m10, .ref m11, .long ha], aI G m0 220 nw, aJ G m3 73 k3, aJ G m4 72 k4, aJ G m5 72 k5, aI G m6 72 k6, aJ G m7 72 e7, aJ G m8 12 f8, aJ G m9 72 e9, aJ G m10 72 e10, aJ G m11 72 e11]) [6, 7, 0, 1, 8, 9, 2, 10, 3, 4, 5] rfl rfl ?_
    refine J_iconst F (dcq dc_X4_decomposes_0 9 rfl) ic_0 ?_
    refine J_istore_n F (lv2 := [(1, .int (nI 0)), (0, .ref qm)]) (dcq dc_X4_decomposes_0 10 rfl) rfl (Nat.le_of_ble_eq_true rfl) rfl ?_
    have L19 : ∀ (fu19 : Nat), ∀ (k : Nat) (sk : Int64) (w6 : Nat → Int32) (w7 w8 : Nat → Int64), (k ≤ R) → (∀ t, P / 2 ≤ t → t + P / 2 < n → w6 t = (wit P M (P / 2) n v k) t) → (∀ j, j < P → w8 j = fac P M (P / 2) n v (wit P M (P / 2) n v k) j) → R - k < fu19 → J p l e (cRm 4 86 0 0) s m args below meth c G A 2 (JQ below G A (po_X4_decomposes G qm m0 m1 m2 m3 m4 m5 m6 m7 m8 m9 m10 m11 hc rf sp ha nw P M R n v g d s3 e4 e5 e7 e8 e9 e10 e11 e6) args s 0 0) 0 0 19 [(0, .ref qm), (1, .int (nI k))] [] [oB 4 qm [.ref m0, .ref m1, .int (nI hc), .int (nI rf), .ref m2, .ref m3, .ref m4, .ref m5, .ref m6, .ref m7, .ref m8, .long sk, .ref m9, .ref m10, .ref m11, .long ha], aI G m0 220 nw, aJ G m3 73 k3, aJ G m4 72 k4, aJ G m5 72 k5, aI G m6 72 w6, aJ G m7 72 w7, aJ G m8 12 w8, aJ G m9 72 e9, aJ G m10 72 e10, aJ G m11 72 e11] := by
      intro fu19
      induction fu19 with
      | zero => intro k sk w6 w7 w8 hk i6 i8 hm19; exact absurd hm19 (Nat.not_lt_zero _)
      | succ fu19 ih19 =>
        intro k sk w6 w7 w8 hk i6 i8 hm19
        have hgk := wit_btw hP hP12 hn hPn hv k
        refine J_iload_n F 1 (dcq dc_X4_decomposes_0 11 rfl) rfl rfl ?_
        refine J_aload_n F 0 (dcq dc_X4_decomposes_0 12 rfl) rfl rfl ?_
        refine J_get F fcX4 0 0 rfl (Nat.le_of_ble_eq_true rfl) tw_3_223 rfl rfl (dcq dc_X4_decomposes_0 13 rfl) ?_
        refine J_iconst F (dcq dc_X4_decomposes_0 14 rfl) ic_2 ?_
        refine J_iald F 1 rfl (by omega) (Nat.le_of_ble_eq_true rfl) (dcq dc_X4_decomposes_0 15 rfl) ?_
        refine J_cast rfl (st2 := [.int (nI R), .int (nI k)]) (by rw [hRM.2.2.1]) rfl ?_
        refine J_ncmp_ge F 43 (by omega) (by omega) (dcq dc_X4_decomposes_0 16 rfl) (by decide) (fun h_2 => ?_) (fun h_2 => ?_)
        · skip
          refine J_aload_n F 0 (dcq dc_X4_decomposes_0 23 rfl) rfl rfl ?_
          have hkR : k = R := by omega
          rw [hkR] at i6 i8
          refine J_callV F (wc := [oB 4 qm [.ref m0, .ref m1, .int (nI hc), .int (nI rf), .ref m2, .ref m3, .ref m4, .ref m5, .ref m6, .ref m7, .ref m8, .long sk, .ref m9, .ref m10, .ref m11, .long ha], aI G m0 220 nw, aJ G m5 72 k5, aJ G m7 72 w7, aJ G m8 12 w8]) (wr := [aJ G m3 73 k3, aJ G m4 72 k4, aI G m6 72 w6, aJ G m9 72 e9, aJ G m10 72 e10, aJ G m11 72 e11]) (rest := []) (qc := 0) (c_X4_findExtremes l hl G qm m0 m1 m2 m3 m4 m5 m6 m7 m8 m9 m10 m11 hc rf sk ha nw P M R n v g d k5 w7 w8 (wit P M (P / 2) n v R) (by first | assumption | omega) (by first | assumption | omega) (by first | assumption | omega) (by first | assumption | omega) (by first | assumption | omega) (by first | assumption | omega) (by first | assumption | omega) (h55) (i8)) cd_X4_findExtremes cv_X4_findExtremes rfl rfl rfl tw_4_193 [0, 1, 4, 6, 7] [2, 3, 5, 8, 9, 10] rfl rfl rfl rfl (by decide) rfl ⟨(Nat.le_of_ble_eq_true rfl), (Nat.le_of_ble_eq_true rfl), (Nat.le_of_ble_eq_true rfl), (Nat.le_of_ble_eq_true rfl)⟩ (Nat.le_of_ble_eq_true rfl) rfl (dcq dc_X4_decomposes_0 24 rfl) ?_
          rintro _ _ ⟨spz, z7, rfl, rfl, hz7, hzsp⟩
          change J p l e (cRm 4 86 0 0) s m args below meth c G A 2 (JQ below G A (po_X4_decomposes G qm m0 m1 m2 m3 m4 m5 m6 m7 m8 m9 m10 m11 hc rf sp ha nw P M R n v g d s3 e4 e5 e7 e8 e9 e10 e11 e6) args s 0 0) 0 0 47 [(0, .ref qm), (1, .int (nI k))] [] [aJ G m3 73 k3, aJ G m4 72 k4, aI G m6 72 w6, aJ G m9 72 e9, aJ G m10 72 e10, aJ G m11 72 e11, oB 4 qm [.ref m0, .ref m1, .int (nI hc), .int (nI rf), .ref m2, .ref m3, .ref m4, .ref m5, .ref m6, .ref m7, .ref m8, .long spz, .ref m9, .ref m10, .ref m11, .long ha], aI G m0 220 nw, aJ G m5 72 k5, aJ G m7 72 z7, aJ G m8 12 w8]
          have hz7 : ∀ t, P / 2 ≤ t → t + P / 2 < n → absL (z7 t) = dst P M (P / 2) n v (wit P M (P / 2) n v R) t := hz7
          have hzsp : spz = wid P M (P / 2) n v (wit P M (P / 2) n v R) := hzsp
          refine J_world (ws2 := [oB 4 qm [.ref m0, .ref m1, .int (nI hc), .int (nI rf), .ref m2, .ref m3, .ref m4, .ref m5, .ref m6, .ref m7, .ref m8, .long spz, .ref m9, .ref m10, .ref m11, .long ha], aI G m0 220 nw, aJ G m3 73 k3, aJ G m4 72 k4, aJ G m5 72 k5, aI G m6 72 w6, aJ G m7 72 z7, aJ G m8 12 w8, aJ G m9 72 e9, aJ G m10 72 e10, aJ G m11 72 e11]) [6, 7, 0, 1, 8, 2, 9, 10, 3, 4, 5] rfl rfl ?_
          refine J_aload_n F 0 (dcq dc_X4_decomposes_0 25 rfl) rfl rfl ?_
          refine J_callV F (wc := [oB 4 qm [.ref m0, .ref m1, .int (nI hc), .int (nI rf), .ref m2, .ref m3, .ref m4, .ref m5, .ref m6, .ref m7, .ref m8, .long spz, .ref m9, .ref m10, .ref m11, .long ha], aI G m0 220 nw, aJ G m8 12 w8, aJ G m9 72 e9, aJ G m10 72 e10, aJ G m11 72 e11]) (wr := [aJ G m3 73 k3, aJ G m4 72 k4, aJ G m5 72 k5, aI G m6 72 w6, aJ G m7 72 z7]) (rest := []) (qc := 0) (c_X4_findTrends l hl G qm m0 m1 m2 m3 m4 m5 m6 m7 m8 m9 m10 m11 hc rf spz ha nw P M R n v g d w8 e9 e10 e11 (wit P M (P / 2) n v R) (by first | assumption | omega) (by first | assumption | omega) (by first | assumption | omega) (by first | assumption | omega) (by first | assumption | omega) (by first | assumption | omega) (i8)) cd_X4_findTrends cv_X4_findTrends rfl rfl rfl tw_4_207 [0, 1, 7, 8, 9, 10] [2, 3, 4, 5, 6] rfl rfl rfl rfl (by decide) rfl ⟨(Nat.le_of_ble_eq_true rfl), (Nat.le_of_ble_eq_true rfl), (Nat.le_of_ble_eq_true rfl), (Nat.le_of_ble_eq_true rfl)⟩ (Nat.le_of_ble_eq_true rfl) rfl (dcq dc_X4_decomposes_0 26 rfl) ?_
          rintro _ _ ⟨z9, z10, z11, rfl, rfl, hz9, hz10, hz11⟩
          change J p l e (cRm 4 86 0 0) s m args below meth c G A 2 (JQ below G A (po_X4_decomposes G qm m0 m1 m2 m3 m4 m5 m6 m7 m8 m9 m10 m11 hc rf sp ha nw P M R n v g d s3 e4 e5 e7 e8 e9 e10 e11 e6) args s 0 0) 0 0 51 [(0, .ref qm), (1, .int (nI k))] [] [aJ G m3 73 k3, aJ G m4 72 k4, aJ G m5 72 k5, aI G m6 72 w6, aJ G m7 72 z7, oB 4 qm [.ref m0, .ref m1, .int (nI hc), .int (nI rf), .ref m2, .ref m3, .ref m4, .ref m5, .ref m6, .ref m7, .ref m8, .long spz, .ref m9, .ref m10, .ref m11, .long ha], aI G m0 220 nw, aJ G m8 12 w8, aJ G m9 72 z9, aJ G m10 72 z10, aJ G m11 72 z11]
          have hz9 : ∀ t, t < n → z9 t = lev P M (P / 2) n v (wit P M (P / 2) n v R) t := hz9
          have hz10 : ∀ t, t < n → z10 t = smo n (lev P M (P / 2) n v (wit P M (P / 2) n v R)) t := hz10
          have hz11 : ∀ t, t < n → z11 t = irr M (lev P M (P / 2) n v (wit P M (P / 2) n v R) t) (smo n (lev P M (P / 2) n v (wit P M (P / 2) n v R)) t) := hz11
          refine J_world (ws2 := [oB 4 qm [.ref m0, .ref m1, .int (nI hc), .int (nI rf), .ref m2, .ref m3, .ref m4, .ref m5, .ref m6, .ref m7, .ref m8, .long spz, .ref m9, .ref m10, .ref m11, .long ha], aI G m0 220 nw, aJ G m3 73 k3, aJ G m4 72 k4, aJ G m5 72 k5, aI G m6 72 w6, aJ G m7 72 z7, aJ G m8 12 w8, aJ G m9 72 z9, aJ G m10 72 z10, aJ G m11 72 z11]) [5, 6, 0, 1, 2, 3, 4, 7, 8, 9, 10] rfl rfl ?_
          refine J_iconst F (dcq dc_X4_decomposes_0 27 rfl) ic_1 ?_
          exact J_zret F (by decide) (Or.inl ⟨spz, k3, k4, k5, w6, z7, w8, z9, z10, z11, rfl, rfl, hd_1, ⟨h4, h55, i6, hz7, i8, hz9, hz10, hz11, hzsp⟩⟩) (Nat.le_of_ble_eq_true rfl) (Nat.le_of_ble_eq_true rfl) (dcq dc_X4_decomposes_0 28 rfl)
        · skip
          refine J_aload_n F 0 (dcq dc_X4_decomposes_0 17 rfl) rfl rfl ?_
          refine J_callV F (wc := [oB 4 qm [.ref m0, .ref m1, .int (nI hc), .int (nI rf), .ref m2, .ref m3, .ref m4, .ref m5, .ref m6, .ref m7, .ref m8, .long sk, .ref m9, .ref m10, .ref m11, .long ha], aI G m0 220 nw, aJ G m5 72 k5, aI G m6 72 w6, aJ G m7 72 w7, aJ G m8 12 w8]) (wr := [aJ G m3 73 k3, aJ G m4 72 k4, aJ G m9 72 e9, aJ G m10 72 e10, aJ G m11 72 e11]) (rest := []) (qc := 0) (c_X4_findWeights l hl G qm m0 m1 m2 m3 m4 m5 m6 m7 m8 m9 m10 m11 hc rf sk ha nw P M R n v g d k5 w7 w8 w6 (wit P M (P / 2) n v k) (by first | assumption | omega) (by first | assumption | omega) (by first | assumption | omega) (by first | assumption | omega) (by first | assumption | omega) (by first | assumption | omega) (by first | assumption | omega) (h55) (i8) (hgk)) cd_X4_findWeights cv_X4_findWeights rfl rfl rfl tw_4_189 [0, 1, 4, 5, 6, 7] [2, 3, 8, 9, 10] rfl rfl rfl rfl (by decide) rfl ⟨(Nat.le_of_ble_eq_true rfl), (Nat.le_of_ble_eq_true rfl), (Nat.le_of_ble_eq_true rfl), (Nat.le_of_ble_eq_true rfl)⟩ (Nat.le_of_ble_eq_true rfl) rfl (dcq dc_X4_decomposes_0 18 rfl) ?_
          rintro _ _ ⟨spn, x7, x6, rfl, rfl, hw6n0⟩
          change J p l e (cRm 4 86 0 0) s m args below meth c G A 2 (JQ below G A (po_X4_decomposes G qm m0 m1 m2 m3 m4 m5 m6 m7 m8 m9 m10 m11 hc rf sp ha nw P M R n v g d s3 e4 e5 e7 e8 e9 e10 e11 e6) args s 0 0) 0 0 33 [(0, .ref qm), (1, .int (nI k))] [] [aJ G m3 73 k3, aJ G m4 72 k4, aJ G m9 72 e9, aJ G m10 72 e10, aJ G m11 72 e11, oB 4 qm [.ref m0, .ref m1, .int (nI hc), .int (nI rf), .ref m2, .ref m3, .ref m4, .ref m5, .ref m6, .ref m7, .ref m8, .long spn, .ref m9, .ref m10, .ref m11, .long ha], aI G m0 220 nw, aJ G m5 72 k5, aI G m6 72 x6, aJ G m7 72 x7, aJ G m8 12 w8]
          have hw6n0 : ∀ t, P / 2 ≤ t → t + P / 2 < n → x6 t = wfor (wid P M (P / 2) n v (wit P M (P / 2) n v k)) (2 * dst P M (P / 2) n v (wit P M (P / 2) n v k) t) := hw6n0
          refine J_world (ws2 := [oB 4 qm [.ref m0, .ref m1, .int (nI hc), .int (nI rf), .ref m2, .ref m3, .ref m4, .ref m5, .ref m6, .ref m7, .ref m8, .long spn, .ref m9, .ref m10, .ref m11, .long ha], aI G m0 220 nw, aJ G m3 73 k3, aJ G m4 72 k4, aJ G m5 72 k5, aI G m6 72 x6, aJ G m7 72 x7, aJ G m8 12 w8, aJ G m9 72 e9, aJ G m10 72 e10, aJ G m11 72 e11]) [5, 6, 0, 1, 7, 8, 9, 10, 2, 3, 4] rfl rfl ?_
          have hw6n : ∀ t, P / 2 ≤ t → t + P / 2 < n → x6 t = (wit P M (P / 2) n v (k + 1)) t := hw6n0
          have hgn := wit_btw hP hP12 hn hPn hv (k + 1)
          refine J_aload_n F 0 (dcq dc_X4_decomposes_0 19 rfl) rfl rfl ?_
          refine J_callV F (wc := [oB 4 qm [.ref m0, .ref m1, .int (nI hc), .int (nI rf), .ref m2, .ref m3, .ref m4, .ref m5, .ref m6, .ref m7, .ref m8, .long spn, .ref m9, .ref m10, .ref m11, .long ha], aI G m0 220 nw, aJ G m5 72 k5, aI G m6 72 x6, aJ G m8 12 w8]) (wr := [aJ G m3 73 k3, aJ G m4 72 k4, aJ G m7 72 x7, aJ G m9 72 e9, aJ G m10 72 e10, aJ G m11 72 e11]) (rest := []) (qc := 0) (c_X4_findFactors l hl G qm m0 m1 m2 m3 m4 m5 m6 m7 m8 m9 m10 m11 hc rf spn ha nw P M R n v g d k5 w8 x6 (wit P M (P / 2) n v (k + 1)) (by first | assumption | omega) (by first | assumption | omega) (by first | assumption | omega) (by first | assumption | omega) (by first | assumption | omega) (by first | assumption | omega) (by first | assumption | omega) (h55) (hw6n) (hgn)) cd_X4_findFactors cv_X4_findFactors rfl rfl rfl tw_4_181 [0, 1, 4, 5, 7] [2, 3, 6, 8, 9, 10] rfl rfl rfl rfl (by decide) rfl ⟨(Nat.le_of_ble_eq_true rfl), (Nat.le_of_ble_eq_true rfl), (Nat.le_of_ble_eq_true rfl), (Nat.le_of_ble_eq_true rfl)⟩ (Nat.le_of_ble_eq_true rfl) rfl (dcq dc_X4_decomposes_0 20 rfl) ?_
          rintro _ _ ⟨x8, rfl, rfl, hf8n⟩
          change J p l e (cRm 4 86 0 0) s m args below meth c G A 2 (JQ below G A (po_X4_decomposes G qm m0 m1 m2 m3 m4 m5 m6 m7 m8 m9 m10 m11 hc rf sp ha nw P M R n v g d s3 e4 e5 e7 e8 e9 e10 e11 e6) args s 0 0) 0 0 37 [(0, .ref qm), (1, .int (nI k))] [] [aJ G m3 73 k3, aJ G m4 72 k4, aJ G m7 72 x7, aJ G m9 72 e9, aJ G m10 72 e10, aJ G m11 72 e11, oB 4 qm [.ref m0, .ref m1, .int (nI hc), .int (nI rf), .ref m2, .ref m3, .ref m4, .ref m5, .ref m6, .ref m7, .ref m8, .long spn, .ref m9, .ref m10, .ref m11, .long ha], aI G m0 220 nw, aJ G m5 72 k5, aI G m6 72 x6, aJ G m8 12 x8]
          have hf8n : ∀ j, j < P → x8 j = fac P M (P / 2) n v (wit P M (P / 2) n v (k + 1)) j := hf8n
          refine J_world (ws2 := [oB 4 qm [.ref m0, .ref m1, .int (nI hc), .int (nI rf), .ref m2, .ref m3, .ref m4, .ref m5, .ref m6, .ref m7, .ref m8, .long spn, .ref m9, .ref m10, .ref m11, .long ha], aI G m0 220 nw, aJ G m3 73 k3, aJ G m4 72 k4, aJ G m5 72 k5, aI G m6 72 x6, aJ G m7 72 x7, aJ G m8 12 x8, aJ G m9 72 e9, aJ G m10 72 e10, aJ G m11 72 e11]) [6, 7, 0, 1, 8, 9, 2, 10, 3, 4, 5] rfl rfl ?_
          refine J_iinc F (lv2 := [(1, .int (nI (k + 1))), (0, .ref qm)]) (v := nI (k + 1)) 1 (dcq dc_X4_decomposes_0 21 rfl) rfl (nI_inc _) (Nat.le_of_ble_eq_true rfl) rfl ?_
          refine J_goto F 19 (dcq dc_X4_decomposes_0 22 rfl) (by decide) ?_
          refine J_locs [1, 0] rfl ?_
          exact ih19 (k + 1) spn x6 x7 x8 (by omega) (hw6n) (hf8n) (by omega)
    refine J_locs [1, 0] rfl ?_
    exact L19 (R - 0 + 1) 0 sp k6 e7 f8 (by omega) (h6) (hf0) (Nat.lt_succ_self _)
  · skip
    have hd_1 : ¬ dcm P n g := hd_1
    change J p l e (cRm 4 86 0 0) s m args below meth c G A 2 (JQ below G A (po_X4_decomposes G qm m0 m1 m2 m3 m4 m5 m6 m7 m8 m9 m10 m11 hc rf sp ha nw P M R n v g d s3 e4 e5 e7 e8 e9 e10 e11 e6) args s 0 0) 0 0 4 [(0, .ref qm)] [.int (nI 0)] [aJ G m3 73 s3, aJ G m4 72 e4, aJ G m5 72 e5, aI G m6 72 e6, aJ G m7 72 e7, aJ G m8 12 e8, aJ G m9 72 e9, aJ G m10 72 e10, aJ G m11 72 e11, oB 4 qm [.ref m0, .ref m1, .int (nI hc), .int (nI rf), .ref m2, .ref m3, .ref m4, .ref m5, .ref m6, .ref m7, .ref m8, .long sp, .ref m9, .ref m10, .ref m11, .long ha], aI G m0 220 nw]
    refine J_world (ws2 := [oB 4 qm [.ref m0, .ref m1, .int (nI hc), .int (nI rf), .ref m2, .ref m3, .ref m4, .ref m5, .ref m6, .ref m7, .ref m8, .long sp, .ref m9, .ref m10, .ref m11, .long ha], aI G m0 220 nw, aJ G m3 73 s3, aJ G m4 72 e4, aJ G m5 72 e5, aI G m6 72 e6, aJ G m7 72 e7, aJ G m8 12 e8, aJ G m9 72 e9, aJ G m10 72 e10, aJ G m11 72 e11]) [9, 10, 0, 1, 2, 3, 4, 5, 6, 7, 8] rfl rfl ?_
    refine J_if_ne F 9 (dcq dc_X4_decomposes_0 2 rfl) (by decide) (fun h_3 => absurd h_3 (by decide)) (fun _ => ?_)
    refine J_iconst F (dcq dc_X4_decomposes_0 3 rfl) ic_0 ?_
    exact J_zret F (by decide) (Or.inr (⟨rfl, rfl, hd_1⟩)) (Nat.le_of_ble_eq_true rfl) (Nat.le_of_ble_eq_true rfl) (dcq dc_X4_decomposes_0 4 rfl)

abbrev po_X4_refusesInner (G : Gt) (qm m0 m1 m2 m3 m4 m5 m6 m7 m8 m9 m10 m11 hc rf : Nat) (sp ha : Int64) (nw : Nat → Int32) (P M R n : Nat) (v g d : Nat → Int32) (s3 : Nat → Int64) (e4 : Nat → Int64) (e5 : Nat → Int64) (e7 : Nat → Int64) (e8 : Nat → Int64) (e9 : Nat → Int64) (e10 : Nat → Int64) (e11 : Nat → Int64) (e6 : Nat → Int32) (x : Int32) : Option Value → va_W → Prop := fun (v9 : Option Value) (w9 : va_W) => (∃ (sp2 : Int64), ∃ (k3 k4 k5 : Nat → Int64), ∃ (k6 : Nat → Int32), ∃ (k7 k8 k9 k10 k11 : Nat → Int64), ∃ (j : Nat), v9 = some (.int (nI 0)) ∧ w9 = [oB 4 qm [.ref m0, .ref m1, .int (nI hc), .int (nI 0), .ref m2, .ref m3, .ref m4, .ref m5, .ref m6, .ref m7, .ref m8, .long sp2, .ref m9, .ref m10, .ref m11, .long ha], aI G m0 220 nw, aJ G m3 73 k3, aJ G m4 72 k4, aJ G m5 72 k5, aI G m6 72 k6, aJ G m7 72 k7, aJ G m8 12 k8, aJ G m9 72 k9, aJ G m10 72 k10, aJ G m11 72 k11] ∧ (dcm P n g) ∧ (MPT P M R n v sp2 k4 k5 k6 k7 k8 k9 k10 k11) ∧ (x = nI j) ∧ (P / 2 ≤ j) ∧ (j + P / 2 < n)) ∨ (v9 = some (.int (nI 1)) ∧ w9 = [oB 4 qm [.ref m0, .ref m1, .int (nI hc), .int (nI 1), .ref m2, .ref m3, .ref m4, .ref m5, .ref m6, .ref m7, .ref m8, .long sp, .ref m9, .ref m10, .ref m11, .long ha], aI G m0 220 nw, aJ G m3 73 s3, aJ G m4 72 e4, aJ G m5 72 e5, aI G m6 72 e6, aJ G m7 72 e7, aJ G m8 12 e8, aJ G m9 72 e9, aJ G m10 72 e10, aJ G m11 72 e11] ∧ (¬ dcm P n g)) ∨ (∃ (sp2 : Int64), ∃ (k3 k4 k5 : Nat → Int64), ∃ (k6 : Nat → Int32), ∃ (k7 k8 k9 k10 k11 : Nat → Int64), v9 = some (.int (nI 1)) ∧ w9 = [oB 4 qm [.ref m0, .ref m1, .int (nI hc), .int (nI 2), .ref m2, .ref m3, .ref m4, .ref m5, .ref m6, .ref m7, .ref m8, .long sp2, .ref m9, .ref m10, .ref m11, .long ha], aI G m0 220 nw, aJ G m3 73 k3, aJ G m4 72 k4, aJ G m5 72 k5, aI G m6 72 k6, aJ G m7 72 k7, aJ G m8 12 k8, aJ G m9 72 k9, aJ G m10 72 k10, aJ G m11 72 k11] ∧ (dcm P n g) ∧ (MPT P M R n v sp2 k4 k5 k6 k7 k8 k9 k10 k11) ∧ (∀ j, P / 2 ≤ j → j + P / 2 < n → x ≠ nI j))
set_option maxHeartbeats 4000000 in
set_option maxRecDepth 100000 in
theorem c_X4_refusesInner (l : Launch) (hl : l.stackTraces = false) (G : Gt) (qm m0 m1 m2 m3 m4 m5 m6 m7 m8 m9 m10 m11 hc rf : Nat) (sp ha : Int64) (nw : Nat → Int32) (P M R n : Nat) (v g d : Nat → Int32) (s3 : Nat → Int64) (e4 : Nat → Int64) (e5 : Nat → Int64) (e7 : Nat → Int64) (e8 : Nat → Int64) (e9 : Nat → Int64) (e10 : Nat → Int64) (e11 : Nat → Int64) (e6 : Nat → Int32) (x : Int32) (hRM : RM nw P M R n v g d) (hn : n ≤ 72) (h01 : G01 n g) (hP : 2 ≤ P) (hP12 : P ≤ 12) (hM : M ≤ 1) (hR : R ≤ 5) (hgv : GVg M n v g) : Con l G yX4_refusesInner cX4_refusesInner 2 (some .boolean) 5 107 0 0 [.ref qm, .int x] [oB 4 qm [.ref m0, .ref m1, .int (nI hc), .int (nI rf), .ref m2, .ref m3, .ref m4, .ref m5, .ref m6, .ref m7, .ref m8, .long sp, .ref m9, .ref m10, .ref m11, .long ha], aI G m0 220 nw, aJ G m3 73 s3, aJ G m4 72 e4, aJ G m5 72 e5, aI G m6 72 e6, aJ G m7 72 e7, aJ G m8 12 e8, aJ G m9 72 e9, aJ G m10 72 e10, aJ G m11 72 e11] (po_X4_refusesInner G qm m0 m1 m2 m3 m4 m5 m6 m7 m8 m9 m10 m11 hc rf sp ha nw P M R n v g d s3 e4 e5 e7 e8 e9 e10 e11 e6 x) := by
  refine Con.of hl cd_X4_refusesInner (Nat.le_of_ble_eq_true rfl) ?_
  intro p e s m args below meth c A F hin9
  change Fx p l s m args meth c G A "SeasonalAdjusterModel" cX4_refusesInner 2 (some .boolean) at F
  change J p l e (cRm 5 107 0 0) s m args below meth c G A 2 (JQ below G A (po_X4_refusesInner G qm m0 m1 m2 m3 m4 m5 m6 m7 m8 m9 m10 m11 hc rf sp ha nw P M R n v g d s3 e4 e5 e7 e8 e9 e10 e11 e6 x) args s 0 0) 0 0 0 [(0, .ref qm), (1, .int x)] [] [oB 4 qm [.ref m0, .ref m1, .int (nI hc), .int (nI rf), .ref m2, .ref m3, .ref m4, .ref m5, .ref m6, .ref m7, .ref m8, .long sp, .ref m9, .ref m10, .ref m11, .long ha], aI G m0 220 nw, aJ G m3 73 s3, aJ G m4 72 e4, aJ G m5 72 e5, aI G m6 72 e6, aJ G m7 72 e7, aJ G m8 12 e8, aJ G m9 72 e9, aJ G m10 72 e10, aJ G m11 72 e11]
  refine J_aload_n F 0 (dcq dc_X4_refusesInner_0 0 rfl) rfl rfl ?_
  refine J_aload_n F 0 (dcq dc_X4_refusesInner_0 1 rfl) rfl rfl ?_
  refine J_callV F (wc := [oB 4 qm [.ref m0, .ref m1, .int (nI hc), .int (nI rf), .ref m2, .ref m3, .ref m4, .ref m5, .ref m6, .ref m7, .ref m8, .long sp, .ref m9, .ref m10, .ref m11, .long ha], aI G m0 220 nw, aJ G m3 73 s3, aJ G m4 72 e4, aJ G m5 72 e5, aI G m6 72 e6, aJ G m7 72 e7, aJ G m8 12 e8, aJ G m9 72 e9, aJ G m10 72 e10, aJ G m11 72 e11]) (wr := []) (rest := [.ref qm]) (qc := 0) (c_X4_decomposes l hl G qm m0 m1 m2 m3 m4 m5 m6 m7 m8 m9 m10 m11 hc rf sp ha nw P M R n v g d s3 e4 e5 e7 e8 e9 e10 e11 e6 (by first | assumption | omega) (by first | assumption | omega) (by first | assumption | omega) (by first | assumption | omega) (by first | assumption | omega) (by first | assumption | omega) (by first | assumption | omega) (by first | assumption | omega)) cd_X4_decomposes cv_X4_decomposes rfl rfl rfl tw_4_172 [0, 1, 2, 3, 4, 5, 6, 7, 8, 9, 10] [] rfl rfl rfl rfl (by decide) rfl ⟨(Nat.le_of_ble_eq_true rfl), (Nat.le_of_ble_eq_true rfl), (Nat.le_of_ble_eq_true rfl), (Nat.le_of_ble_eq_true rfl)⟩ (Nat.le_of_ble_eq_true rfl) rfl (dcq dc_X4_refusesInner_0 2 rfl) ?_
  rintro _ _ h9x
  rcases h9x with ⟨sp2, k3, k4, k5, k6, k7, k8, k9, k10, k11, rfl, rfl, hd, hmp⟩ | ⟨rfl, rfl, hnd⟩
  · skip
    have hd : dcm P n g := hd
    have hmp : MPT P M R n v sp2 k4 k5 k6 k7 k8 k9 k10 k11 := hmp
    change J p l e (cRm 5 107 0 0) s m args below meth c G A 2 (JQ below G A (po_X4_refusesInner G qm m0 m1 m2 m3 m4 m5 m6 m7 m8 m9 m10 m11 hc rf sp ha nw P M R n v g d s3 e4 e5 e7 e8 e9 e10 e11 e6 x) args s 0 0) 0 0 5 [(0, .ref qm), (1, .int x)] [.int (nI 1), .ref qm] [oB 4 qm [.ref m0, .ref m1, .int (nI hc), .int (nI rf), .ref m2, .ref m3, .ref m4, .ref m5, .ref m6, .ref m7, .ref m8, .long sp2, .ref m9, .ref m10, .ref m11, .long ha], aI G m0 220 nw, aJ G m3 73 k3, aJ G m4 72 k4, aJ G m5 72 k5, aI G m6 72 k6, aJ G m7 72 k7, aJ G m8 12 k8, aJ G m9 72 k9, aJ G m10 72 k10, aJ G m11 72 k11]
    obtain ⟨q4, q5, q6, q7, q8, q9, q10, q11, qsp⟩ := id hmp
    have hdu := hd
    unfold dcm at hdu
    obtain ⟨h5n, hPn, hcg⟩ := hdu
    refine J_if_ne F 12 (dcq dc_X4_refusesInner_0 3 rfl) (by decide) (fun _ => ?_) (fun h_1 => absurd h_1 (by decide))
    refine J_aload_n F 0 (dcq dc_X4_refusesInner_0 6 rfl) rfl rfl ?_
    refine J_iload_n F 1 (dcq dc_X4_refusesInner_0 7 rfl) rfl rfl ?_
    refine J_callV F (wc := [oB 4 qm [.ref m0, .ref m1, .int (nI hc), .int (nI rf), .ref m2, .ref m3, .ref m4, .ref m5, .ref m6, .ref m7, .ref m8, .long sp2, .ref m9, .ref m10, .ref m11, .long ha], aI G m0 220 nw]) (wr := [aJ G m3 73 k3, aJ G m4 72 k4, aJ G m5 72 k5, aI G m6 72 k6, aJ G m7 72 k7, aJ G m8 12 k8, aJ G m9 72 k9, aJ G m10 72 k10, aJ G m11 72 k11]) (rest := [.ref qm]) (qc := 0) (c_X4_isInner l hl G qm m0 m1 m2 m3 m4 m5 m6 m7 m8 m9 m10 m11 hc rf sp2 ha nw P M R n v g d x (by first | assumption | omega) (by first | assumption | omega) (by first | assumption | omega) (by first | assumption | omega) (by first | assumption | omega)) cd_X4_isInner cv_X4_isInner rfl rfl rfl tw_4_185 [0, 1] [2, 3, 4, 5, 6, 7, 8, 9, 10] rfl rfl rfl rfl (by decide) rfl ⟨(Nat.le_of_ble_eq_true rfl), (Nat.le_of_ble_eq_true rfl), (Nat.le_of_ble_eq_true rfl), (Nat.le_of_ble_eq_true rfl)⟩ (Nat.le_of_ble_eq_true rfl) rfl (dcq dc_X4_refusesInner_0 8 rfl) ?_
    rintro _ _ h9x
    rcases h9x with ⟨j_14, rfl, rfl, hxj_14, hj1_14, hj2_14⟩ | ⟨rfl, rfl, hx_14⟩
    · skip
      have hxj_14 : x = nI j_14 := hxj_14
      have hj1_14 : P / 2 ≤ j_14 := hj1_14
      have hj2_14 : j_14 + P / 2 < n := hj2_14
      change J p l e (cRm 5 107 0 0) s m args below meth c G A 2 (JQ below G A (po_X4_refusesInner G qm m0 m1 m2 m3 m4 m5 m6 m7 m8 m9 m10 m11 hc rf sp ha nw P M R n v g d s3 e4 e5 e7 e8 e9 e10 e11 e6 x) args s 0 0) 0 0 17 [(0, .ref qm), (1, .int x)] [.int (nI 1), .ref qm] [aJ G m3 73 k3, aJ G m4 72 k4, aJ G m5 72 k5, aI G m6 72 k6, aJ G m7 72 k7, aJ G m8 12 k8, aJ G m9 72 k9, aJ G m10 72 k10, aJ G m11 72 k11, oB 4 qm [.ref m0, .ref m1, .int (nI hc), .int (nI rf), .ref m2, .ref m3, .ref m4, .ref m5, .ref m6, .ref m7, .ref m8, .long sp2, .ref m9, .ref m10, .ref m11, .long ha], aI G m0 220 nw]
      refine J_world (ws2 := [oB 4 qm [.ref m0, .ref m1, .int (nI hc), .int (nI rf), .ref m2, .ref m3, .ref m4, .ref m5, .ref m6, .ref m7, .ref m8, .long sp2, .ref m9, .ref m10, .ref m11, .long ha], aI G m0 220 nw, aJ G m3 73 k3, aJ G m4 72 k4, aJ G m5 72 k5, aI G m6 72 k6, aJ G m7 72 k7, aJ G m8 12 k8, aJ G m9 72 k9, aJ G m10 72 k10, aJ G m11 72 k11]) [9, 10, 0, 1, 2, 3, 4, 5, 6, 7, 8] rfl rfl ?_
      refine J_cast (lv2 := [(0, .ref qm), (1, .int (nI j_14))]) (st2 := [.int (nI 1), .ref qm]) (ws2 := [oB 4 qm [.ref m0, .ref m1, .int (nI hc), .int (nI rf), .ref m2, .ref m3, .ref m4, .ref m5, .ref m6, .ref m7, .ref m8, .long sp2, .ref m9, .ref m10, .ref m11, .long ha], aI G m0 220 nw, aJ G m3 73 k3, aJ G m4 72 k4, aJ G m5 72 k5, aI G m6 72 k6, aJ G m7 72 k7, aJ G m8 12 k8, aJ G m9 72 k9, aJ G m10 72 k10, aJ G m11 72 k11]) (by rw [hxj_14]) (rfl) (rfl) ?_
      refine J_if_eq F 24 (dcq dc_X4_refusesInner_0 9 rfl) (by decide) (fun h_2 => absurd h_2 (by decide)) (fun _ => ?_)
      refine J_iconst F (dcq dc_X4_refusesInner_0 10 rfl) ic_0 ?_
      refine J_goto F 25 (dcq dc_X4_refusesInner_0 11 rfl) (by decide) ?_
      refine J_callV F (wc := [oB 4 qm [.ref m0, .ref m1, .int (nI hc), .int (nI rf), .ref m2, .ref m3, .ref m4, .ref m5, .ref m6, .ref m7, .ref m8, .long sp2, .ref m9, .ref m10, .ref m11, .long ha]]) (wr := [aI G m0 220 nw, aJ G m3 73 k3, aJ G m4 72 k4, aJ G m5 72 k5, aI G m6 72 k6, aJ G m7 72 k7, aJ G m8 12 k8, aJ G m9 72 k9, aJ G m10 72 k10, aJ G m11 72 k11]) (rest := []) (qc := 0) (c_X4_refused_0 l hl G qm m0 m1 m2 m3 m4 m5 m6 m7 m8 m9 m10 m11 hc rf sp2 ha) cd_X4_refused cv_X4_refused rfl rfl rfl tw_4_40 [0] [1, 2, 3, 4, 5, 6, 7, 8, 9, 10] rfl rfl rfl rfl (by decide) rfl ⟨(Nat.le_of_ble_eq_true rfl), (Nat.le_of_ble_eq_true rfl), (Nat.le_of_ble_eq_true rfl), (Nat.le_of_ble_eq_true rfl)⟩ (Nat.le_of_ble_eq_true rfl) rfl (dcq dc_X4_refusesInner_0 13 rfl) ?_
      rintro _ _ ⟨rfl, rfl⟩
      change J p l e (cRm 5 107 0 0) s m args below meth c G A 2 (JQ below G A (po_X4_refusesInner G qm m0 m1 m2 m3 m4 m5 m6 m7 m8 m9 m10 m11 hc rf sp ha nw P M R n v g d s3 e4 e5 e7 e8 e9 e10 e11 e6 x) args s 0 0) 0 0 28 [(0, .ref qm), (1, .int (nI j_14))] [.int (nI 0)] [aI G m0 220 nw, aJ G m3 73 k3, aJ G m4 72 k4, aJ G m5 72 k5, aI G m6 72 k6, aJ G m7 72 k7, aJ G m8 12 k8, aJ G m9 72 k9, aJ G m10 72 k10, aJ G m11 72 k11, oB 4 qm [.ref m0, .ref m1, .int (nI hc), .int (nI 0), .ref m2, .ref m3, .ref m4, .ref m5, .ref m6, .ref m7, .ref m8, .long sp2, .ref m9, .ref m10, .ref m11, .long ha]]
      refine J_world (ws2 := [oB 4 qm [.ref m0, .ref m1, .int (nI hc), .int (nI 0), .ref m2, .ref m3, .ref m4, .ref m5, .ref m6, .ref m7, .ref m8, .long sp2, .ref m9, .ref m10, .ref m11, .long ha], aI G m0 220 nw, aJ G m3 73 k3, aJ G m4 72 k4, aJ G m5 72 k5, aI G m6 72 k6, aJ G m7 72 k7, aJ G m8 12 k8, aJ G m9 72 k9, aJ G m10 72 k10, aJ G m11 72 k11]) [10, 0, 1, 2, 3, 4, 5, 6, 7, 8, 9] rfl rfl ?_
      exact J_zret F (by decide) (Or.inl ⟨sp2, k3, k4, k5, k6, k7, k8, k9, k10, k11, j_14, rfl, rfl, hd, hmp, hxj_14, hj1_14, hj2_14⟩) (Nat.le_of_ble_eq_true rfl) (Nat.le_of_ble_eq_true rfl) (dcq dc_X4_refusesInner_0 14 rfl)
    · skip
      have hx_14 : ∀ j, P / 2 ≤ j → j + P / 2 < n → x ≠ nI j := hx_14
      change J p l e (cRm 5 107 0 0) s m args below meth c G A 2 (JQ below G A (po_X4_refusesInner G qm m0 m1 m2 m3 m4 m5 m6 m7 m8 m9 m10 m11 hc rf sp ha nw P M R n v g d s3 e4 e5 e7 e8 e9 e10 e11 e6 x) args s 0 0) 0 0 17 [(0, .ref qm), (1, .int x)] [.int (nI 0), .ref qm] [aJ G m3 73 k3, aJ G m4 72 k4, aJ G m5 72 k5, aI G m6 72 k6, aJ G m7 72 k7, aJ G m8 12 k8, aJ G m9 72 k9, aJ G m10 72 k10, aJ G m11 72 k11, oB 4 qm [.ref m0, .ref m1, .int (nI hc), .int (nI rf), .ref m2, .ref m3, .ref m4, .ref m5, .ref m6, .ref m7, .ref m8, .long sp2, .ref m9, .ref m10, .ref m11, .long ha], aI G m0 220 nw]
      refine J_world (ws2 := [oB 4 qm [.ref m0, .ref m1, .int (nI hc), .int (nI rf), .ref m2, .ref m3, .ref m4, .ref m5, .ref m6, .ref m7, .ref m8, .long sp2, .ref m9, .ref m10, .ref m11, .long ha], aI G m0 220 nw, aJ G m3 73 k3, aJ G m4 72 k4, aJ G m5 72 k5, aI G m6 72 k6, aJ G m7 72 k7, aJ G m8 12 k8, aJ G m9 72 k9, aJ G m10 72 k10, aJ G m11 72 k11]) [9, 10, 0, 1, 2, 3, 4, 5, 6, 7, 8] rfl rfl ?_
      refine J_if_eq F 24 (dcq dc_X4_refusesInner_0 9 rfl) (by decide) (fun _ => ?_) (fun h_3 => absurd h_3 (by decide))
      refine J_iconst F (dcq dc_X4_refusesInner_0 12 rfl) ic_2 ?_
      refine J_callV F (wc := [oB 4 qm [.ref m0, .ref m1, .int (nI hc), .int (nI rf), .ref m2, .ref m3, .ref m4, .ref m5, .ref m6, .ref m7, .ref m8, .long sp2, .ref m9, .ref m10, .ref m11, .long ha]]) (wr := [aI G m0 220 nw, aJ G m3 73 k3, aJ G m4 72 k4, aJ G m5 72 k5, aI G m6 72 k6, aJ G m7 72 k7, aJ G m8 12 k8, aJ G m9 72 k9, aJ G m10 72 k10, aJ G m11 72 k11]) (rest := []) (qc := 0) (c_X4_refused_2 l hl G qm m0 m1 m2 m3 m4 m5 m6 m7 m8 m9 m10 m11 hc rf sp2 ha) cd_X4_refused cv_X4_refused rfl rfl rfl tw_4_40 [0] [1, 2, 3, 4, 5, 6, 7, 8, 9, 10] rfl rfl rfl rfl (by decide) rfl ⟨(Nat.le_of_ble_eq_true rfl), (Nat.le_of_ble_eq_true rfl), (Nat.le_of_ble_eq_true rfl), (Nat.le_of_ble_eq_true rfl)⟩ (Nat.le_of_ble_eq_true rfl) rfl (dcq dc_X4_refusesInner_0 13 rfl) ?_
      rintro _ _ ⟨rfl, rfl⟩
      change J p l e (cRm 5 107 0 0) s m args below meth c G A 2 (JQ below G A (po_X4_refusesInner G qm m0 m1 m2 m3 m4 m5 m6 m7 m8 m9 m10 m11 hc rf sp ha nw P M R n v g d s3 e4 e5 e7 e8 e9 e10 e11 e6 x) args s 0 0) 0 0 28 [(0, .ref qm), (1, .int x)] [.int (nI 1)] [aI G m0 220 nw, aJ G m3 73 k3, aJ G m4 72 k4, aJ G m5 72 k5, aI G m6 72 k6, aJ G m7 72 k7, aJ G m8 12 k8, aJ G m9 72 k9, aJ G m10 72 k10, aJ G m11 72 k11, oB 4 qm [.ref m0, .ref m1, .int (nI hc), .int (nI 2), .ref m2, .ref m3, .ref m4, .ref m5, .ref m6, .ref m7, .ref m8, .long sp2, .ref m9, .ref m10, .ref m11, .long ha]]
      refine J_world (ws2 := [oB 4 qm [.ref m0, .ref m1, .int (nI hc), .int (nI 2), .ref m2, .ref m3, .ref m4, .ref m5, .ref m6, .ref m7, .ref m8, .long sp2, .ref m9, .ref m10, .ref m11, .long ha], aI G m0 220 nw, aJ G m3 73 k3, aJ G m4 72 k4, aJ G m5 72 k5, aI G m6 72 k6, aJ G m7 72 k7, aJ G m8 12 k8, aJ G m9 72 k9, aJ G m10 72 k10, aJ G m11 72 k11]) [10, 0, 1, 2, 3, 4, 5, 6, 7, 8, 9] rfl rfl ?_
      exact J_zret F (by decide) (Or.inr (Or.inr (⟨sp2, k3, k4, k5, k6, k7, k8, k9, k10, k11, rfl, rfl, hd, hmp, hx_14⟩))) (Nat.le_of_ble_eq_true rfl) (Nat.le_of_ble_eq_true rfl) (dcq dc_X4_refusesInner_0 14 rfl)
  · skip
    have hnd : ¬ dcm P n g := hnd
    change J p l e (cRm 5 107 0 0) s m args below meth c G A 2 (JQ below G A (po_X4_refusesInner G qm m0 m1 m2 m3 m4 m5 m6 m7 m8 m9 m10 m11 hc rf sp ha nw P M R n v g d s3 e4 e5 e7 e8 e9 e10 e11 e6 x) args s 0 0) 0 0 5 [(0, .ref qm), (1, .int x)] [.int (nI 0), .ref qm] [oB 4 qm [.ref m0, .ref m1, .int (nI hc), .int (nI rf), .ref m2, .ref m3, .ref m4, .ref m5, .ref m6, .ref m7, .ref m8, .long sp, .ref m9, .ref m10, .ref m11, .long ha], aI G m0 220 nw, aJ G m3 73 s3, aJ G m4 72 e4, aJ G m5 72 e5, aI G m6 72 e6, aJ G m7 72 e7, aJ G m8 12 e8, aJ G m9 72 e9, aJ G m10 72 e10, aJ G m11 72 e11]
    refine J_if_ne F 12 (dcq dc_X4_refusesInner_0 3 rfl) (by decide) (fun h_4 => absurd h_4 (by decide)) (fun _ => ?_)
    refine J_iconst F (dcq dc_X4_refusesInner_0 4 rfl) ic_1 ?_
    refine J_goto F 25 (dcq dc_X4_refusesInner_0 5 rfl) (by decide) ?_
    refine J_callV F (wc := [oB 4 qm [.ref m0, .ref m1, .int (nI hc), .int (nI rf), .ref m2, .ref m3, .ref m4, .ref m5, .ref m6, .ref m7, .ref m8, .long sp, .ref m9, .ref m10, .ref m11, .long ha]]) (wr := [aI G m0 220 nw, aJ G m3 73 s3, aJ G m4 72 e4, aJ G m5 72 e5, aI G m6 72 e6, aJ G m7 72 e7, aJ G m8 12 e8, aJ G m9 72 e9, aJ G m10 72 e10, aJ G m11 72 e11]) (rest := []) (qc := 0) (c_X4_refused_1 l hl G qm m0 m1 m2 m3 m4 m5 m6 m7 m8 m9 m10 m11 hc rf sp ha) cd_X4_refused cv_X4_refused rfl rfl rfl tw_4_40 [0] [1, 2, 3, 4, 5, 6, 7, 8, 9, 10] rfl rfl rfl rfl (by decide) rfl ⟨(Nat.le_of_ble_eq_true rfl), (Nat.le_of_ble_eq_true rfl), (Nat.le_of_ble_eq_true rfl), (Nat.le_of_ble_eq_true rfl)⟩ (Nat.le_of_ble_eq_true rfl) rfl (dcq dc_X4_refusesInner_0 13 rfl) ?_
    rintro _ _ ⟨rfl, rfl⟩
    change J p l e (cRm 5 107 0 0) s m args below meth c G A 2 (JQ below G A (po_X4_refusesInner G qm m0 m1 m2 m3 m4 m5 m6 m7 m8 m9 m10 m11 hc rf sp ha nw P M R n v g d s3 e4 e5 e7 e8 e9 e10 e11 e6 x) args s 0 0) 0 0 28 [(0, .ref qm), (1, .int x)] [.int (nI 1)] [aI G m0 220 nw, aJ G m3 73 s3, aJ G m4 72 e4, aJ G m5 72 e5, aI G m6 72 e6, aJ G m7 72 e7, aJ G m8 12 e8, aJ G m9 72 e9, aJ G m10 72 e10, aJ G m11 72 e11, oB 4 qm [.ref m0, .ref m1, .int (nI hc), .int (nI 1), .ref m2, .ref m3, .ref m4, .ref m5, .ref m6, .ref m7, .ref m8, .long sp, .ref m9, .ref m10, .ref m11, .long ha]]
    refine J_world (ws2 := [oB 4 qm [.ref m0, .ref m1, .int (nI hc), .int (nI 1), .ref m2, .ref m3, .ref m4, .ref m5, .ref m6, .ref m7, .ref m8, .long sp, .ref m9, .ref m10, .ref m11, .long ha], aI G m0 220 nw, aJ G m3 73 s3, aJ G m4 72 e4, aJ G m5 72 e5, aI G m6 72 e6, aJ G m7 72 e7, aJ G m8 12 e8, aJ G m9 72 e9, aJ G m10 72 e10, aJ G m11 72 e11]) [10, 0, 1, 2, 3, 4, 5, 6, 7, 8, 9] rfl rfl ?_
    exact J_zret F (by decide) (Or.inr (Or.inl ⟨rfl, rfl, hnd⟩)) (Nat.le_of_ble_eq_true rfl) (Nat.le_of_ble_eq_true rfl) (dcq dc_X4_refusesInner_0 14 rfl)

abbrev po_X4_refusesEntry (G : Gt) (qm m0 m1 m2 m3 m4 m5 m6 m7 m8 m9 m10 m11 hc rf : Nat) (sp ha : Int64) (nw : Nat → Int32) (P M R n : Nat) (v g d : Nat → Int32) (s3 : Nat → Int64) (e4 : Nat → Int64) (e5 : Nat → Int64) (e7 : Nat → Int64) (e8 : Nat → Int64) (e9 : Nat → Int64) (e10 : Nat → Int64) (e11 : Nat → Int64) (e6 : Nat → Int32) (x : Int32) : Option Value → va_W → Prop := fun (v9 : Option Value) (w9 : va_W) => (∃ (sp2 : Int64), ∃ (k3 k4 k5 : Nat → Int64), ∃ (k6 : Nat → Int32), ∃ (k7 k8 k9 k10 k11 : Nat → Int64), ∃ (j : Nat), v9 = some (.int (nI 0)) ∧ w9 = [oB 4 qm [.ref m0, .ref m1, .int (nI hc), .int (nI 0), .ref m2, .ref m3, .ref m4, .ref m5, .ref m6, .ref m7, .ref m8, .long sp2, .ref m9, .ref m10, .ref m11, .long ha], aI G m0 220 nw, aJ G m3 73 k3, aJ G m4 72 k4, aJ G m5 72 k5, aI G m6 72 k6, aJ G m7 72 k7, aJ G m8 12 k8, aJ G m9 72 k9, aJ G m10 72 k10, aJ G m11 72 k11] ∧ (dcm P n g) ∧ (MPT P M R n v sp2 k4 k5 k6 k7 k8 k9 k10 k11) ∧ (x = nI j) ∧ (j < n)) ∨ (v9 = some (.int (nI 1)) ∧ w9 = [oB 4 qm [.ref m0, .ref m1, .int (nI hc), .int (nI 1), .ref m2, .ref m3, .ref m4, .ref m5, .ref m6, .ref m7, .ref m8, .long sp, .ref m9, .ref m10, .ref m11, .long ha], aI G m0 220 nw, aJ G m3 73 s3, aJ G m4 72 e4, aJ G m5 72 e5, aI G m6 72 e6, aJ G m7 72 e7, aJ G m8 12 e8, aJ G m9 72 e9, aJ G m10 72 e10, aJ G m11 72 e11] ∧ (¬ dcm P n g)) ∨ (∃ (sp2 : Int64), ∃ (k3 k4 k5 : Nat → Int64), ∃ (k6 : Nat → Int32), ∃ (k7 k8 k9 k10 k11 : Nat → Int64), v9 = some (.int (nI 1)) ∧ w9 = [oB 4 qm [.ref m0, .ref m1, .int (nI hc), .int (nI 2), .ref m2, .ref m3, .ref m4, .ref m5, .ref m6, .ref m7, .ref m8, .long sp2, .ref m9, .ref m10, .ref m11, .long ha], aI G m0 220 nw, aJ G m3 73 k3, aJ G m4 72 k4, aJ G m5 72 k5, aI G m6 72 k6, aJ G m7 72 k7, aJ G m8 12 k8, aJ G m9 72 k9, aJ G m10 72 k10, aJ G m11 72 k11] ∧ (dcm P n g) ∧ (MPT P M R n v sp2 k4 k5 k6 k7 k8 k9 k10 k11) ∧ (∀ j, j < n → x ≠ nI j))
set_option maxHeartbeats 4000000 in
set_option maxRecDepth 100000 in
theorem c_X4_refusesEntry (l : Launch) (hl : l.stackTraces = false) (G : Gt) (qm m0 m1 m2 m3 m4 m5 m6 m7 m8 m9 m10 m11 hc rf : Nat) (sp ha : Int64) (nw : Nat → Int32) (P M R n : Nat) (v g d : Nat → Int32) (s3 : Nat → Int64) (e4 : Nat → Int64) (e5 : Nat → Int64) (e7 : Nat → Int64) (e8 : Nat → Int64) (e9 : Nat → Int64) (e10 : Nat → Int64) (e11 : Nat → Int64) (e6 : Nat → Int32) (x : Int32) (hRM : RM nw P M R n v g d) (hn : n ≤ 72) (h01 : G01 n g) (hP : 2 ≤ P) (hP12 : P ≤ 12) (hM : M ≤ 1) (hR : R ≤ 5) (hgv : GVg M n v g) : Con l G yX4_refusesEntry cX4_refusesEntry 2 (some .boolean) 5 107 0 0 [.ref qm, .int x] [oB 4 qm [.ref m0, .ref m1, .int (nI hc), .int (nI rf), .ref m2, .ref m3, .ref m4, .ref m5, .ref m6, .ref m7, .ref m8, .long sp, .ref m9, .ref m10, .ref m11, .long ha], aI G m0 220 nw, aJ G m3 73 s3, aJ G m4 72 e4, aJ G m5 72 e5, aI G m6 72 e6, aJ G m7 72 e7, aJ G m8 12 e8, aJ G m9 72 e9, aJ G m10 72 e10, aJ G m11 72 e11] (po_X4_refusesEntry G qm m0 m1 m2 m3 m4 m5 m6 m7 m8 m9 m10 m11 hc rf sp ha nw P M R n v g d s3 e4 e5 e7 e8 e9 e10 e11 e6 x) := by
  refine Con.of hl cd_X4_refusesEntry (Nat.le_of_ble_eq_true rfl) ?_
  intro p e s m args below meth c A F hin9
  change Fx p l s m args meth c G A "SeasonalAdjusterModel" cX4_refusesEntry 2 (some .boolean) at F
  change J p l e (cRm 5 107 0 0) s m args below meth c G A 2 (JQ below G A (po_X4_refusesEntry G qm m0 m1 m2 m3 m4 m5 m6 m7 m8 m9 m10 m11 hc rf sp ha nw P M R n v g d s3 e4 e5 e7 e8 e9 e10 e11 e6 x) args s 0 0) 0 0 0 [(0, .ref qm), (1, .int x)] [] [oB 4 qm [.ref m0, .ref m1, .int (nI hc), .int (nI rf), .ref m2, .ref m3, .ref m4, .ref m5, .ref m6, .ref m7, .ref m8, .long sp, .ref m9, .ref m10, .ref m11, .long ha], aI G m0 220 nw, aJ G m3 73 s3, aJ G m4 72 e4, aJ G m5 72 e5, aI G m6 72 e6, aJ G m7 72 e7, aJ G m8 12 e8, aJ G m9 72 e9, aJ G m10 72 e10, aJ G m11 72 e11]
  refine J_aload_n F 0 (dcq dc_X4_refusesEntry_0 0 rfl) rfl rfl ?_
  refine J_aload_n F 0 (dcq dc_X4_refusesEntry_0 1 rfl) rfl rfl ?_
  refine J_callV F (wc := [oB 4 qm [.ref m0, .ref m1, .int (nI hc), .int (nI rf), .ref m2, .ref m3, .ref m4, .ref m5, .ref m6, .ref m7, .ref m8, .long sp, .ref m9, .ref m10, .ref m11, .long ha], aI G m0 220 nw, aJ G m3 73 s3, aJ G m4 72 e4, aJ G m5 72 e5, aI G m6 72 e6, aJ G m7 72 e7, aJ G m8 12 e8, aJ G m9 72 e9, aJ G m10 72 e10, aJ G m11 72 e11]) (wr := []) (rest := [.ref qm]) (qc := 0) (c_X4_decomposes l hl G qm m0 m1 m2 m3 m4 m5 m6 m7 m8 m9 m10 m11 hc rf sp ha nw P M R n v g d s3 e4 e5 e7 e8 e9 e10 e11 e6 (by first | assumption | omega) (by first | assumption | omega) (by first | assumption | omega) (by first | assumption | omega) (by first | assumption | omega) (by first | assumption | omega) (by first | assumption | omega) (by first | assumption | omega)) cd_X4_decomposes cv_X4_decomposes rfl rfl rfl tw_4_172 [0, 1, 2, 3, 4, 5, 6, 7, 8, 9, 10] [] rfl rfl rfl rfl (by decide) rfl ⟨(Nat.le_of_ble_eq_true rfl), (Nat.le_of_ble_eq_true rfl), (Nat.le_of_ble_eq_true rfl), (Nat.le_of_ble_eq_true rfl)⟩ (Nat.le_of_ble_eq_true rfl) rfl (dcq dc_X4_refusesEntry_0 2 rfl) ?_
  rintro _ _ h9x
  rcases h9x with ⟨sp2, k3, k4, k5, k6, k7, k8, k9, k10, k11, rfl, rfl, hd, hmp⟩ | ⟨rfl, rfl, hnd⟩
  · skip
    have hd : dcm P n g := hd
    have hmp : MPT P M R n v sp2 k4 k5 k6 k7 k8 k9 k10 k11 := hmp
    change J p l e (cRm 5 107 0 0) s m args below meth c G A 2 (JQ below G A (po_X4_refusesEntry G qm m0 m1 m2 m3 m4 m5 m6 m7 m8 m9 m10 m11 hc rf sp ha nw P M R n v g d s3 e4 e5 e7 e8 e9 e10 e11 e6 x) args s 0 0) 0 0 5 [(0, .ref qm), (1, .int x)] [.int (nI 1), .ref qm] [oB 4 qm [.ref m0, .ref m1, .int (nI hc), .int (nI rf), .ref m2, .ref m3, .ref m4, .ref m5, .ref m6, .ref m7, .ref m8, .long sp2, .ref m9, .ref m10, .ref m11, .long ha], aI G m0 220 nw, aJ G m3 73 k3, aJ G m4 72 k4, aJ G m5 72 k5, aI G m6 72 k6, aJ G m7 72 k7, aJ G m8 12 k8, aJ G m9 72 k9, aJ G m10 72 k10, aJ G m11 72 k11]
    obtain ⟨q4, q5, q6, q7, q8, q9, q10, q11, qsp⟩ := id hmp
    have hdu := hd
    unfold dcm at hdu
    obtain ⟨h5n, hPn, hcg⟩ := hdu
    refine J_if_ne F 12 (dcq dc_X4_refusesEntry_0 3 rfl) (by decide) (fun _ => ?_) (fun h_1 => absurd h_1 (by decide))
    refine J_aload_n F 0 (dcq dc_X4_refusesEntry_0 6 rfl) rfl rfl ?_
    refine J_iload_n F 1 (dcq dc_X4_refusesEntry_0 7 rfl) rfl rfl ?_
    refine J_callV F (wc := [oB 4 qm [.ref m0, .ref m1, .int (nI hc), .int (nI rf), .ref m2, .ref m3, .ref m4, .ref m5, .ref m6, .ref m7, .ref m8, .long sp2, .ref m9, .ref m10, .ref m11, .long ha], aI G m0 220 nw]) (wr := [aJ G m3 73 k3, aJ G m4 72 k4, aJ G m5 72 k5, aI G m6 72 k6, aJ G m7 72 k7, aJ G m8 12 k8, aJ G m9 72 k9, aJ G m10 72 k10, aJ G m11 72 k11]) (rest := [.ref qm]) (qc := 0) (c_X4_isEntry l hl G qm m0 m1 m2 m3 m4 m5 m6 m7 m8 m9 m10 m11 hc rf sp2 ha nw P M R n v g d x (by first | assumption | omega) (by first | assumption | omega)) cd_X4_isEntry cv_X4_isEntry rfl rfl rfl tw_4_104 [0, 1] [2, 3, 4, 5, 6, 7, 8, 9, 10] rfl rfl rfl rfl (by decide) rfl ⟨(Nat.le_of_ble_eq_true rfl), (Nat.le_of_ble_eq_true rfl), (Nat.le_of_ble_eq_true rfl), (Nat.le_of_ble_eq_true rfl)⟩ (Nat.le_of_ble_eq_true rfl) rfl (dcq dc_X4_refusesEntry_0 8 rfl) ?_
    rintro _ _ h9x
    rcases h9x with ⟨j_14, rfl, rfl, hxj_14, hj_14⟩ | ⟨rfl, rfl, hx_14⟩
    · skip
      have hxj_14 : x = nI j_14 := hxj_14
      have hj_14 : j_14 < n := hj_14
      change J p l e (cRm 5 107 0 0) s m args below meth c G A 2 (JQ below G A (po_X4_refusesEntry G qm m0 m1 m2 m3 m4 m5 m6 m7 m8 m9 m10 m11 hc rf sp ha nw P M R n v g d s3 e4 e5 e7 e8 e9 e10 e11 e6 x) args s 0 0) 0 0 17 [(0, .ref qm), (1, .int x)] [.int (nI 1), .ref qm] [aJ G m3 73 k3, aJ G m4 72 k4, aJ G m5 72 k5, aI G m6 72 k6, aJ G m7 72 k7, aJ G m8 12 k8, aJ G m9 72 k9, aJ G m10 72 k10, aJ G m11 72 k11, oB 4 qm [.ref m0, .ref m1, .int (nI hc), .int (nI rf), .ref m2, .ref m3, .ref m4, .ref m5, .ref m6, .ref m7, .ref m8, .long sp2, .ref m9, .ref m10, .ref m11, .long ha], aI G m0 220 nw]
      refine J_world (ws2 := [oB 4 qm [.ref m0, .ref m1, .int (nI hc), .int (nI rf), .ref m2, .ref m3, .ref m4, .ref m5, .ref m6, .ref m7, .ref m8, .long sp2, .ref m9, .ref m10, .ref m11, .long ha], aI G m0 220 nw, aJ G m3 73 k3, aJ G m4 72 k4, aJ G m5 72 k5, aI G m6 72 k6, aJ G m7 72 k7, aJ G m8 12 k8, aJ G m9 72 k9, aJ G m10 72 k10, aJ G m11 72 k11]) [9, 10, 0, 1, 2, 3, 4, 5, 6, 7, 8] rfl rfl ?_
      refine J_cast (lv2 := [(0, .ref qm), (1, .int (nI j_14))]) (st2 := [.int (nI 1), .ref qm]) (ws2 := [oB 4 qm [.ref m0, .ref m1, .int (nI hc), .int (nI rf), .ref m2, .ref m3, .ref m4, .ref m5, .ref m6, .ref m7, .ref m8, .long sp2, .ref m9, .ref m10, .ref m11, .long ha], aI G m0 220 nw, aJ G m3 73 k3, aJ G m4 72 k4, aJ G m5 72 k5, aI G m6 72 k6, aJ G m7 72 k7, aJ G m8 12 k8, aJ G m9 72 k9, aJ G m10 72 k10, aJ G m11 72 k11]) (by rw [hxj_14]) (rfl) (rfl) ?_
      refine J_if_eq F 24 (dcq dc_X4_refusesEntry_0 9 rfl) (by decide) (fun h_2 => absurd h_2 (by decide)) (fun _ => ?_)
      refine J_iconst F (dcq dc_X4_refusesEntry_0 10 rfl) ic_0 ?_
      refine J_goto F 25 (dcq dc_X4_refusesEntry_0 11 rfl) (by decide) ?_
      refine J_callV F (wc := [oB 4 qm [.ref m0, .ref m1, .int (nI hc), .int (nI rf), .ref m2, .ref m3, .ref m4, .ref m5, .ref m6, .ref m7, .ref m8, .long sp2, .ref m9, .ref m10, .ref m11, .long ha]]) (wr := [aI G m0 220 nw, aJ G m3 73 k3, aJ G m4 72 k4, aJ G m5 72 k5, aI G m6 72 k6, aJ G m7 72 k7, aJ G m8 12 k8, aJ G m9 72 k9, aJ G m10 72 k10, aJ G m11 72 k11]) (rest := []) (qc := 0) (c_X4_refused_0 l hl G qm m0 m1 m2 m3 m4 m5 m6 m7 m8 m9 m10 m11 hc rf sp2 ha) cd_X4_refused cv_X4_refused rfl rfl rfl tw_4_40 [0] [1, 2, 3, 4, 5, 6, 7, 8, 9, 10] rfl rfl rfl rfl (by decide) rfl ⟨(Nat.le_of_ble_eq_true rfl), (Nat.le_of_ble_eq_true rfl), (Nat.le_of_ble_eq_true rfl), (Nat.le_of_ble_eq_true rfl)⟩ (Nat.le_of_ble_eq_true rfl) rfl (dcq dc_X4_refusesEntry_0 13 rfl) ?_
      rintro _ _ ⟨rfl, rfl⟩
      change J p l e (cRm 5 107 0 0) s m args below meth c G A 2 (JQ below G A (po_X4_refusesEntry G qm m0 m1 m2 m3 m4 m5 m6 m7 m8 m9 m10 m11 hc rf sp ha nw P M R n v g d s3 e4 e5 e7 e8 e9 e10 e11 e6 x) args s 0 0) 0 0 28 [(0, .ref qm), (1, .int (nI j_14))] [.int (nI 0)] [aI G m0 220 nw, aJ G m3 73 k3, aJ G m4 72 k4, aJ G m5 72 k5, aI G m6 72 k6, aJ G m7 72 k7, aJ G m8 12 k8, aJ G m9 72 k9, aJ G m10 72 k10, aJ G m11 72 k11, oB 4 qm [.ref m0, .ref m1, .int (nI hc), .int (nI 0), .ref m2, .ref m3, .ref m4, .ref m5, .ref m6, .ref m7, .ref m8, .long sp2, .ref m9, .ref m10, .ref m11, .long ha]]
      refine J_world (ws2 := [oB 4 qm [.ref m0, .ref m1, .int (nI hc), .int (nI 0), .ref m2, .ref m3, .ref m4, .ref m5, .ref m6, .ref m7, .ref m8, .long sp2, .ref m9, .ref m10, .ref m11, .long ha], aI G m0 220 nw, aJ G m3 73 k3, aJ G m4 72 k4, aJ G m5 72 k5, aI G m6 72 k6, aJ G m7 72 k7, aJ G m8 12 k8, aJ G m9 72 k9, aJ G m10 72 k10, aJ G m11 72 k11]) [10, 0, 1, 2, 3, 4, 5, 6, 7, 8, 9] rfl rfl ?_
      exact J_zret F (by decide) (Or.inl ⟨sp2, k3, k4, k5, k6, k7, k8, k9, k10, k11, j_14, rfl, rfl, hd, hmp, hxj_14, hj_14⟩) (Nat.le_of_ble_eq_true rfl) (Nat.le_of_ble_eq_true rfl) (dcq dc_X4_refusesEntry_0 14 rfl)
    · skip
      have hx_14 : ∀ j, j < n → x ≠ nI j := hx_14
      change J p l e (cRm 5 107 0 0) s m args below meth c G A 2 (JQ below G A (po_X4_refusesEntry G qm m0 m1 m2 m3 m4 m5 m6 m7 m8 m9 m10 m11 hc rf sp ha nw P M R n v g d s3 e4 e5 e7 e8 e9 e10 e11 e6 x) args s 0 0) 0 0 17 [(0, .ref qm), (1, .int x)] [.int (nI 0), .ref qm] [aJ G m3 73 k3, aJ G m4 72 k4, aJ G m5 72 k5, aI G m6 72 k6, aJ G m7 72 k7, aJ G m8 12 k8, aJ G m9 72 k9, aJ G m10 72 k10, aJ G m11 72 k11, oB 4 qm [.ref m0, .ref m1, .int (nI hc), .int (nI rf), .ref m2, .ref m3, .ref m4, .ref m5, .ref m6, .ref m7, .ref m8, .long sp2, .ref m9, .ref m10, .ref m11, .long ha], aI G m0 220 nw]
      refine J_world (ws2 := [oB 4 qm [.ref m0, .ref m1, .int (nI hc), .int (nI rf), .ref m2, .ref m3, .ref m4, .ref m5, .ref m6, .ref m7, .ref m8, .long sp2, .ref m9, .ref m10, .ref m11, .long ha], aI G m0 220 nw, aJ G m3 73 k3, aJ G m4 72 k4, aJ G m5 72 k5, aI G m6 72 k6, aJ G m7 72 k7, aJ G m8 12 k8, aJ G m9 72 k9, aJ G m10 72 k10, aJ G m11 72 k11]) [9, 10, 0, 1, 2, 3, 4, 5, 6, 7, 8] rfl rfl ?_
      refine J_if_eq F 24 (dcq dc_X4_refusesEntry_0 9 rfl) (by decide) (fun _ => ?_) (fun h_3 => absurd h_3 (by decide))
      refine J_iconst F (dcq dc_X4_refusesEntry_0 12 rfl) ic_2 ?_
      refine J_callV F (wc := [oB 4 qm [.ref m0, .ref m1, .int (nI hc), .int (nI rf), .ref m2, .ref m3, .ref m4, .ref m5, .ref m6, .ref m7, .ref m8, .long sp2, .ref m9, .ref m10, .ref m11, .long ha]]) (wr := [aI G m0 220 nw, aJ G m3 73 k3, aJ G m4 72 k4, aJ G m5 72 k5, aI G m6 72 k6, aJ G m7 72 k7, aJ G m8 12 k8, aJ G m9 72 k9, aJ G m10 72 k10, aJ G m11 72 k11]) (rest := []) (qc := 0) (c_X4_refused_2 l hl G qm m0 m1 m2 m3 m4 m5 m6 m7 m8 m9 m10 m11 hc rf sp2 ha) cd_X4_refused cv_X4_refused rfl rfl rfl tw_4_40 [0] [1, 2, 3, 4, 5, 6, 7, 8, 9, 10] rfl rfl rfl rfl (by decide) rfl ⟨(Nat.le_of_ble_eq_true rfl), (Nat.le_of_ble_eq_true rfl), (Nat.le_of_ble_eq_true rfl), (Nat.le_of_ble_eq_true rfl)⟩ (Nat.le_of_ble_eq_true rfl) rfl (dcq dc_X4_refusesEntry_0 13 rfl) ?_
      rintro _ _ ⟨rfl, rfl⟩
      change J p l e (cRm 5 107 0 0) s m args below meth c G A 2 (JQ below G A (po_X4_refusesEntry G qm m0 m1 m2 m3 m4 m5 m6 m7 m8 m9 m10 m11 hc rf sp ha nw P M R n v g d s3 e4 e5 e7 e8 e9 e10 e11 e6 x) args s 0 0) 0 0 28 [(0, .ref qm), (1, .int x)] [.int (nI 1)] [aI G m0 220 nw, aJ G m3 73 k3, aJ G m4 72 k4, aJ G m5 72 k5, aI G m6 72 k6, aJ G m7 72 k7, aJ G m8 12 k8, aJ G m9 72 k9, aJ G m10 72 k10, aJ G m11 72 k11, oB 4 qm [.ref m0, .ref m1, .int (nI hc), .int (nI 2), .ref m2, .ref m3, .ref m4, .ref m5, .ref m6, .ref m7, .ref m8, .long sp2, .ref m9, .ref m10, .ref m11, .long ha]]
      refine J_world (ws2 := [oB 4 qm [.ref m0, .ref m1, .int (nI hc), .int (nI 2), .ref m2, .ref m3, .ref m4, .ref m5, .ref m6, .ref m7, .ref m8, .long sp2, .ref m9, .ref m10, .ref m11, .long ha], aI G m0 220 nw, aJ G m3 73 k3, aJ G m4 72 k4, aJ G m5 72 k5, aI G m6 72 k6, aJ G m7 72 k7, aJ G m8 12 k8, aJ G m9 72 k9, aJ G m10 72 k10, aJ G m11 72 k11]) [10, 0, 1, 2, 3, 4, 5, 6, 7, 8, 9] rfl rfl ?_
      exact J_zret F (by decide) (Or.inr (Or.inr (⟨sp2, k3, k4, k5, k6, k7, k8, k9, k10, k11, rfl, rfl, hd, hmp, hx_14⟩))) (Nat.le_of_ble_eq_true rfl) (Nat.le_of_ble_eq_true rfl) (dcq dc_X4_refusesEntry_0 14 rfl)
  · skip
    have hnd : ¬ dcm P n g := hnd
    change J p l e (cRm 5 107 0 0) s m args below meth c G A 2 (JQ below G A (po_X4_refusesEntry G qm m0 m1 m2 m3 m4 m5 m6 m7 m8 m9 m10 m11 hc rf sp ha nw P M R n v g d s3 e4 e5 e7 e8 e9 e10 e11 e6 x) args s 0 0) 0 0 5 [(0, .ref qm), (1, .int x)] [.int (nI 0), .ref qm] [oB 4 qm [.ref m0, .ref m1, .int (nI hc), .int (nI rf), .ref m2, .ref m3, .ref m4, .ref m5, .ref m6, .ref m7, .ref m8, .long sp, .ref m9, .ref m10, .ref m11, .long ha], aI G m0 220 nw, aJ G m3 73 s3, aJ G m4 72 e4, aJ G m5 72 e5, aI G m6 72 e6, aJ G m7 72 e7, aJ G m8 12 e8, aJ G m9 72 e9, aJ G m10 72 e10, aJ G m11 72 e11]
    refine J_if_ne F 12 (dcq dc_X4_refusesEntry_0 3 rfl) (by decide) (fun h_4 => absurd h_4 (by decide)) (fun _ => ?_)
    refine J_iconst F (dcq dc_X4_refusesEntry_0 4 rfl) ic_1 ?_
    refine J_goto F 25 (dcq dc_X4_refusesEntry_0 5 rfl) (by decide) ?_
    refine J_callV F (wc := [oB 4 qm [.ref m0, .ref m1, .int (nI hc), .int (nI rf), .ref m2, .ref m3, .ref m4, .ref m5, .ref m6, .ref m7, .ref m8, .long sp, .ref m9, .ref m10, .ref m11, .long ha]]) (wr := [aI G m0 220 nw, aJ G m3 73 s3, aJ G m4 72 e4, aJ G m5 72 e5, aI G m6 72 e6, aJ G m7 72 e7, aJ G m8 12 e8, aJ G m9 72 e9, aJ G m10 72 e10, aJ G m11 72 e11]) (rest := []) (qc := 0) (c_X4_refused_1 l hl G qm m0 m1 m2 m3 m4 m5 m6 m7 m8 m9 m10 m11 hc rf sp ha) cd_X4_refused cv_X4_refused rfl rfl rfl tw_4_40 [0] [1, 2, 3, 4, 5, 6, 7, 8, 9, 10] rfl rfl rfl rfl (by decide) rfl ⟨(Nat.le_of_ble_eq_true rfl), (Nat.le_of_ble_eq_true rfl), (Nat.le_of_ble_eq_true rfl), (Nat.le_of_ble_eq_true rfl)⟩ (Nat.le_of_ble_eq_true rfl) rfl (dcq dc_X4_refusesEntry_0 13 rfl) ?_
    rintro _ _ ⟨rfl, rfl⟩
    change J p l e (cRm 5 107 0 0) s m args below meth c G A 2 (JQ below G A (po_X4_refusesEntry G qm m0 m1 m2 m3 m4 m5 m6 m7 m8 m9 m10 m11 hc rf sp ha nw P M R n v g d s3 e4 e5 e7 e8 e9 e10 e11 e6 x) args s 0 0) 0 0 28 [(0, .ref qm), (1, .int x)] [.int (nI 1)] [aI G m0 220 nw, aJ G m3 73 s3, aJ G m4 72 e4, aJ G m5 72 e5, aI G m6 72 e6, aJ G m7 72 e7, aJ G m8 12 e8, aJ G m9 72 e9, aJ G m10 72 e10, aJ G m11 72 e11, oB 4 qm [.ref m0, .ref m1, .int (nI hc), .int (nI 1), .ref m2, .ref m3, .ref m4, .ref m5, .ref m6, .ref m7, .ref m8, .long sp, .ref m9, .ref m10, .ref m11, .long ha]]
    refine J_world (ws2 := [oB 4 qm [.ref m0, .ref m1, .int (nI hc), .int (nI 1), .ref m2, .ref m3, .ref m4, .ref m5, .ref m6, .ref m7, .ref m8, .long sp, .ref m9, .ref m10, .ref m11, .long ha], aI G m0 220 nw, aJ G m3 73 s3, aJ G m4 72 e4, aJ G m5 72 e5, aI G m6 72 e6, aJ G m7 72 e7, aJ G m8 12 e8, aJ G m9 72 e9, aJ G m10 72 e10, aJ G m11 72 e11]) [10, 0, 1, 2, 3, 4, 5, 6, 7, 8, 9] rfl rfl ?_
    exact J_zret F (by decide) (Or.inr (Or.inl ⟨rfl, rfl, hnd⟩)) (Nat.le_of_ble_eq_true rfl) (Nat.le_of_ble_eq_true rfl) (dcq dc_X4_refusesEntry_0 14 rfl)

abbrev po_X4_firstTrend (G : Gt) (qm m0 m1 m2 m3 m4 m5 m6 m7 m8 m9 m10 m11 hc rf : Nat) (sp ha : Int64) (nw : Nat → Int32) (P M R n : Nat) (v g d : Nat → Int32) (s3 : Nat → Int64) (e4 : Nat → Int64) (e5 : Nat → Int64) (e7 : Nat → Int64) (e8 : Nat → Int64) (e9 : Nat → Int64) (e10 : Nat → Int64) (e11 : Nat → Int64) (e6 : Nat → Int32) (x : Int32) : Option Value → va_W → Prop := fun (v9 : Option Value) (w9 : va_W) => (∃ (sp2 : Int64), ∃ (k3 k4 k5 : Nat → Int64), ∃ (k6 : Nat → Int32), ∃ (k7 k8 k9 k10 k11 : Nat → Int64), ∃ (j : Nat), ∃ (r : Int64), v9 = some (.long r) ∧ w9 = [oB 4 qm [.ref m0, .ref m1, .int (nI hc), .int (nI 0), .ref m2, .ref m3, .ref m4, .ref m5, .ref m6, .ref m7, .ref m8, .long sp2, .ref m9, .ref m10, .ref m11, .long ha], aI G m0 220 nw, aJ G m3 73 k3, aJ G m4 72 k4, aJ G m5 72 k5, aI G m6 72 k6, aJ G m7 72 k7, aJ G m8 12 k8, aJ G m9 72 k9, aJ G m10 72 k10, aJ G m11 72 k11] ∧ (dcm P n g) ∧ (MPT P M R n v sp2 k4 k5 k6 k7 k8 k9 k10 k11) ∧ (x = nI j) ∧ (P / 2 ≤ j) ∧ (j + P / 2 < n) ∧ (r = ft P (P / 2) v j)) ∨ (v9 = some (.long 0) ∧ w9 = [oB 4 qm [.ref m0, .ref m1, .int (nI hc), .int (nI 1), .ref m2, .ref m3, .ref m4, .ref m5, .ref m6, .ref m7, .ref m8, .long sp, .ref m9, .ref m10, .ref m11, .long ha], aI G m0 220 nw, aJ G m3 73 s3, aJ G m4 72 e4, aJ G m5 72 e5, aI G m6 72 e6, aJ G m7 72 e7, aJ G m8 12 e8, aJ G m9 72 e9, aJ G m10 72 e10, aJ G m11 72 e11] ∧ (¬ dcm P n g)) ∨ (∃ (sp2 : Int64), ∃ (k3 k4 k5 : Nat → Int64), ∃ (k6 : Nat → Int32), ∃ (k7 k8 k9 k10 k11 : Nat → Int64), v9 = some (.long 0) ∧ w9 = [oB 4 qm [.ref m0, .ref m1, .int (nI hc), .int (nI 2), .ref m2, .ref m3, .ref m4, .ref m5, .ref m6, .ref m7, .ref m8, .long sp2, .ref m9, .ref m10, .ref m11, .long ha], aI G m0 220 nw, aJ G m3 73 k3, aJ G m4 72 k4, aJ G m5 72 k5, aI G m6 72 k6, aJ G m7 72 k7, aJ G m8 12 k8, aJ G m9 72 k9, aJ G m10 72 k10, aJ G m11 72 k11] ∧ (dcm P n g) ∧ (MPT P M R n v sp2 k4 k5 k6 k7 k8 k9 k10 k11) ∧ (∀ j, P / 2 ≤ j → j + P / 2 < n → x ≠ nI j))
set_option maxHeartbeats 4000000 in
set_option maxRecDepth 100000 in
theorem c_X4_firstTrend (l : Launch) (hl : l.stackTraces = false) (G : Gt) (qm m0 m1 m2 m3 m4 m5 m6 m7 m8 m9 m10 m11 hc rf : Nat) (sp ha : Int64) (nw : Nat → Int32) (P M R n : Nat) (v g d : Nat → Int32) (s3 : Nat → Int64) (e4 : Nat → Int64) (e5 : Nat → Int64) (e7 : Nat → Int64) (e8 : Nat → Int64) (e9 : Nat → Int64) (e10 : Nat → Int64) (e11 : Nat → Int64) (e6 : Nat → Int32) (x : Int32) (hRM : RM nw P M R n v g d) (hn : n ≤ 72) (h01 : G01 n g) (hP : 2 ≤ P) (hP12 : P ≤ 12) (hM : M ≤ 1) (hR : R ≤ 5) (hgv : GVg M n v g) : Con l G yX4_firstTrend cX4_firstTrend 2 (some .long) 6 128 0 0 [.ref qm, .int x] [oB 4 qm [.ref m0, .ref m1, .int (nI hc), .int (nI rf), .ref m2, .ref m3, .ref m4, .ref m5, .ref m6, .ref m7, .ref m8, .long sp, .ref m9, .ref m10, .ref m11, .long ha], aI G m0 220 nw, aJ G m3 73 s3, aJ G m4 72 e4, aJ G m5 72 e5, aI G m6 72 e6, aJ G m7 72 e7, aJ G m8 12 e8, aJ G m9 72 e9, aJ G m10 72 e10, aJ G m11 72 e11] (po_X4_firstTrend G qm m0 m1 m2 m3 m4 m5 m6 m7 m8 m9 m10 m11 hc rf sp ha nw P M R n v g d s3 e4 e5 e7 e8 e9 e10 e11 e6 x) := by
  refine Con.of hl cd_X4_firstTrend (Nat.le_of_ble_eq_true rfl) ?_
  intro p e s m args below meth c A F hin9
  change Fx p l s m args meth c G A "SeasonalAdjusterModel" cX4_firstTrend 2 (some .long) at F
  change J p l e (cRm 6 128 0 0) s m args below meth c G A 2 (JQ below G A (po_X4_firstTrend G qm m0 m1 m2 m3 m4 m5 m6 m7 m8 m9 m10 m11 hc rf sp ha nw P M R n v g d s3 e4 e5 e7 e8 e9 e10 e11 e6 x) args s 0 0) 0 0 0 [(0, .ref qm), (1, .int x)] [] [oB 4 qm [.ref m0, .ref m1, .int (nI hc), .int (nI rf), .ref m2, .ref m3, .ref m4, .ref m5, .ref m6, .ref m7, .ref m8, .long sp, .ref m9, .ref m10, .ref m11, .long ha], aI G m0 220 nw, aJ G m3 73 s3, aJ G m4 72 e4, aJ G m5 72 e5, aI G m6 72 e6, aJ G m7 72 e7, aJ G m8 12 e8, aJ G m9 72 e9, aJ G m10 72 e10, aJ G m11 72 e11]
  refine J_aload_n F 0 (dcq dc_X4_firstTrend_0 0 rfl) rfl rfl ?_
  refine J_iload_n F 1 (dcq dc_X4_firstTrend_0 1 rfl) rfl rfl ?_
  refine J_callV F (wc := [oB 4 qm [.ref m0, .ref m1, .int (nI hc), .int (nI rf), .ref m2, .ref m3, .ref m4, .ref m5, .ref m6, .ref m7, .ref m8, .long sp, .ref m9, .ref m10, .ref m11, .long ha], aI G m0 220 nw, aJ G m3 73 s3, aJ G m4 72 e4, aJ G m5 72 e5, aI G m6 72 e6, aJ G m7 72 e7, aJ G m8 12 e8, aJ G m9 72 e9, aJ G m10 72 e10, aJ G m11 72 e11]) (wr := []) (rest := []) (qc := 0) (c_X4_refusesInner l hl G qm m0 m1 m2 m3 m4 m5 m6 m7 m8 m9 m10 m11 hc rf sp ha nw P M R n v g d s3 e4 e5 e7 e8 e9 e10 e11 e6 x (by first | assumption | omega) (by first | assumption | omega) (by first | assumption | omega) (by first | assumption | omega) (by first | assumption | omega) (by first | assumption | omega) (by first | assumption | omega) (by first | assumption | omega)) cd_X4_refusesInner cv_X4_refusesInner rfl rfl rfl tw_4_168 [0, 1, 2, 3, 4, 5, 6, 7, 8, 9, 10] [] rfl rfl rfl rfl (by decide) rfl ⟨(Nat.le_of_ble_eq_true rfl), (Nat.le_of_ble_eq_true rfl), (Nat.le_of_ble_eq_true rfl), (Nat.le_of_ble_eq_true rfl)⟩ (Nat.le_of_ble_eq_true rfl) rfl (dcq dc_X4_firstTrend_0 2 rfl) ?_
  rintro _ _ h9x
  rcases h9x with ⟨sp2, k3, k4, k5, k6, k7, k8, k9, k10, k11, j_2, rfl, rfl, hd, hmp, hxj_2, hj1_2, hj2_2⟩ | ⟨rfl, rfl, hnd⟩ | ⟨sp2, k3, k4, k5, k6, k7, k8, k9, k10, k11, rfl, rfl, hd, hmp, hx_2⟩
  · skip
    have hd : dcm P n g := hd
    have hmp : MPT P M R n v sp2 k4 k5 k6 k7 k8 k9 k10 k11 := hmp
    have hxj_2 : x = nI j_2 := hxj_2
    have hj1_2 : P / 2 ≤ j_2 := hj1_2
    have hj2_2 : j_2 + P / 2 < n := hj2_2
    change J p l e (cRm 6 128 0 0) s m args below meth c G A 2 (JQ below G A (po_X4_firstTrend G qm m0 m1 m2 m3 m4 m5 m6 m7 m8 m9 m10 m11 hc rf sp ha nw P M R n v g d s3 e4 e5 e7 e8 e9 e10 e11 e6 x) args s 0 0) 0 0 5 [(0, .ref qm), (1, .int x)] [.int (nI 0)] [oB 4 qm [.ref m0, .ref m1, .int (nI hc), .int (nI 0), .ref m2, .ref m3, .ref m4, .ref m5, .ref m6, .ref m7, .ref m8, .long sp2, .ref m9, .ref m10, .ref m11, .long ha], aI G m0 220 nw, aJ G m3 73 k3, aJ G m4 72 k4, aJ G m5 72 k5, aI G m6 72 k6, aJ G m7 72 k7, aJ G m8 12 k8, aJ G m9 72 k9, aJ G m10 72 k10, aJ G m11 72 k11]
    obtain ⟨q4, q5, q6, q7, q8, q9, q10, q11, qsp⟩ := id hmp
    have hdu := hd
    unfold dcm at hdu
    obtain ⟨h5n, hPn, hcg⟩ := hdu
    refine J_cast (lv2 := [(0, .ref qm), (1, .int (nI j_2))]) (st2 := [.int (nI 0)]) (ws2 := [oB 4 qm [.ref m0, .ref m1, .int (nI hc), .int (nI 0), .ref m2, .ref m3, .ref m4, .ref m5, .ref m6, .ref m7, .ref m8, .long sp2, .ref m9, .ref m10, .ref m11, .long ha], aI G m0 220 nw, aJ G m3 73 k3, aJ G m4 72 k4, aJ G m5 72 k5, aI G m6 72 k6, aJ G m7 72 k7, aJ G m8 12 k8, aJ G m9 72 k9, aJ G m10 72 k10, aJ G m11 72 k11]) (by rw [hxj_2]) (rfl) (rfl) ?_
    refine J_if_eq F 12 (dcq dc_X4_firstTrend_0 3 rfl) (by decide) (fun _ => ?_) (fun h_1 => absurd h_1 (by decide))
    refine J_aload_n F 0 (dcq dc_X4_firstTrend_0 6 rfl) rfl rfl ?_
    refine J_get F fcX4 0 6 rfl (Nat.le_of_ble_eq_true rfl) tw_3_229 rfl rfl (dcq dc_X4_firstTrend_0 7 rfl) ?_
    refine J_iload_n F 1 (dcq dc_X4_firstTrend_0 8 rfl) rfl rfl ?_
    refine J_lald F 3 rfl (by omega) (Nat.le_of_ble_eq_true rfl) (dcq dc_X4_firstTrend_0 9 rfl) ?_
    exact J_lret F (Or.inl ⟨sp2, k3, k4, k5, k6, k7, k8, k9, k10, k11, j_2, k4 j_2, rfl, rfl, hd, hmp, hxj_2, hj1_2, hj2_2, q4 j_2 hj1_2 hj2_2⟩) (Nat.le_of_ble_eq_true rfl) (Nat.le_of_ble_eq_true rfl) (dcq dc_X4_firstTrend_0 10 rfl)
  · skip
    have hnd : ¬ dcm P n g := hnd
    change J p l e (cRm 6 128 0 0) s m args below meth c G A 2 (JQ below G A (po_X4_firstTrend G qm m0 m1 m2 m3 m4 m5 m6 m7 m8 m9 m10 m11 hc rf sp ha nw P M R n v g d s3 e4 e5 e7 e8 e9 e10 e11 e6 x) args s 0 0) 0 0 5 [(0, .ref qm), (1, .int x)] [.int (nI 1)] [oB 4 qm [.ref m0, .ref m1, .int (nI hc), .int (nI 1), .ref m2, .ref m3, .ref m4, .ref m5, .ref m6, .ref m7, .ref m8, .long sp, .ref m9, .ref m10, .ref m11, .long ha], aI G m0 220 nw, aJ G m3 73 s3, aJ G m4 72 e4, aJ G m5 72 e5, aI G m6 72 e6, aJ G m7 72 e7, aJ G m8 12 e8, aJ G m9 72 e9, aJ G m10 72 e10, aJ G m11 72 e11]
    refine J_if_eq F 12 (dcq dc_X4_firstTrend_0 3 rfl) (by decide) (fun h_2 => absurd h_2 (by decide)) (fun _ => ?_)
    refine J_lconst F (dcq dc_X4_firstTrend_0 4 rfl) lc_0 ?_
    refine J_goto F 18 (dcq dc_X4_firstTrend_0 5 rfl) (by decide) ?_
    exact J_lret F (Or.inr (Or.inl ⟨rfl, rfl, hnd⟩)) (Nat.le_of_ble_eq_true rfl) (Nat.le_of_ble_eq_true rfl) (dcq dc_X4_firstTrend_0 10 rfl)
  · skip
    have hd : dcm P n g := hd
    have hmp : MPT P M R n v sp2 k4 k5 k6 k7 k8 k9 k10 k11 := hmp
    have hx_2 : ∀ j, P / 2 ≤ j → j + P / 2 < n → x ≠ nI j := hx_2
    change J p l e (cRm 6 128 0 0) s m args below meth c G A 2 (JQ below G A (po_X4_firstTrend G qm m0 m1 m2 m3 m4 m5 m6 m7 m8 m9 m10 m11 hc rf sp ha nw P M R n v g d s3 e4 e5 e7 e8 e9 e10 e11 e6 x) args s 0 0) 0 0 5 [(0, .ref qm), (1, .int x)] [.int (nI 1)] [oB 4 qm [.ref m0, .ref m1, .int (nI hc), .int (nI 2), .ref m2, .ref m3, .ref m4, .ref m5, .ref m6, .ref m7, .ref m8, .long sp2, .ref m9, .ref m10, .ref m11, .long ha], aI G m0 220 nw, aJ G m3 73 k3, aJ G m4 72 k4, aJ G m5 72 k5, aI G m6 72 k6, aJ G m7 72 k7, aJ G m8 12 k8, aJ G m9 72 k9, aJ G m10 72 k10, aJ G m11 72 k11]
    obtain ⟨q4, q5, q6, q7, q8, q9, q10, q11, qsp⟩ := id hmp
    have hdu := hd
    unfold dcm at hdu
    obtain ⟨h5n, hPn, hcg⟩ := hdu
    refine J_if_eq F 12 (dcq dc_X4_firstTrend_0 3 rfl) (by decide) (fun h_3 => absurd h_3 (by decide)) (fun _ => ?_)
    refine J_lconst F (dcq dc_X4_firstTrend_0 4 rfl) lc_0 ?_
    refine J_goto F 18 (dcq dc_X4_firstTrend_0 5 rfl) (by decide) ?_
    exact J_lret F (Or.inr (Or.inr (⟨sp2, k3, k4, k5, k6, k7, k8, k9, k10, k11, rfl, rfl, hd, hmp, hx_2⟩))) (Nat.le_of_ble_eq_true rfl) (Nat.le_of_ble_eq_true rfl) (dcq dc_X4_firstTrend_0 10 rfl)

abbrev po_X4_deviation (G : Gt) (qm m0 m1 m2 m3 m4 m5 m6 m7 m8 m9 m10 m11 hc rf : Nat) (sp ha : Int64) (nw : Nat → Int32) (P M R n : Nat) (v g d : Nat → Int32) (s3 : Nat → Int64) (e4 : Nat → Int64) (e5 : Nat → Int64) (e7 : Nat → Int64) (e8 : Nat → Int64) (e9 : Nat → Int64) (e10 : Nat → Int64) (e11 : Nat → Int64) (e6 : Nat → Int32) (x : Int32) : Option Value → va_W → Prop := fun (v9 : Option Value) (w9 : va_W) => (∃ (sp2 : Int64), ∃ (k3 k4 k5 : Nat → Int64), ∃ (k6 : Nat → Int32), ∃ (k7 k8 k9 k10 k11 : Nat → Int64), ∃ (j : Nat), ∃ (r : Int64), v9 = some (.long r) ∧ w9 = [oB 4 qm [.ref m0, .ref m1, .int (nI hc), .int (nI 0), .ref m2, .ref m3, .ref m4, .ref m5, .ref m6, .ref m7, .ref m8, .long sp2, .ref m9, .ref m10, .ref m11, .long ha], aI G m0 220 nw, aJ G m3 73 k3, aJ G m4 72 k4, aJ G m5 72 k5, aI G m6 72 k6, aJ G m7 72 k7, aJ G m8 12 k8, aJ G m9 72 k9, aJ G m10 72 k10, aJ G m11 72 k11] ∧ (dcm P n g) ∧ (MPT P M R n v sp2 k4 k5 k6 k7 k8 k9 k10 k11) ∧ (x = nI j) ∧ (P / 2 ≤ j) ∧ (j + P / 2 < n) ∧ (r = dv P M (P / 2) v j)) ∨ (v9 = some (.long 0) ∧ w9 = [oB 4 qm [.ref m0, .ref m1, .int (nI hc), .int (nI 1), .ref m2, .ref m3, .ref m4, .ref m5, .ref m6, .ref m7, .ref m8, .long sp, .ref m9, .ref m10, .ref m11, .long ha], aI G m0 220 nw, aJ G m3 73 s3, aJ G m4 72 e4, aJ G m5 72 e5, aI G m6 72 e6, aJ G m7 72 e7, aJ G m8 12 e8, aJ G m9 72 e9, aJ G m10 72 e10, aJ G m11 72 e11] ∧ (¬ dcm P n g)) ∨ (∃ (sp2 : Int64), ∃ (k3 k4 k5 : Nat → Int64), ∃ (k6 : Nat → Int32), ∃ (k7 k8 k9 k10 k11 : Nat → Int64), v9 = some (.long 0) ∧ w9 = [oB 4 qm [.ref m0, .ref m1, .int (nI hc), .int (nI 2), .ref m2, .ref m3, .ref m4, .ref m5, .ref m6, .ref m7, .ref m8, .long sp2, .ref m9, .ref m10, .ref m11, .long ha], aI G m0 220 nw, aJ G m3 73 k3, aJ G m4 72 k4, aJ G m5 72 k5, aI G m6 72 k6, aJ G m7 72 k7, aJ G m8 12 k8, aJ G m9 72 k9, aJ G m10 72 k10, aJ G m11 72 k11] ∧ (dcm P n g) ∧ (MPT P M R n v sp2 k4 k5 k6 k7 k8 k9 k10 k11) ∧ (∀ j, P / 2 ≤ j → j + P / 2 < n → x ≠ nI j))
set_option maxHeartbeats 4000000 in
set_option maxRecDepth 100000 in
theorem c_X4_deviation (l : Launch) (hl : l.stackTraces = false) (G : Gt) (qm m0 m1 m2 m3 m4 m5 m6 m7 m8 m9 m10 m11 hc rf : Nat) (sp ha : Int64) (nw : Nat → Int32) (P M R n : Nat) (v g d : Nat → Int32) (s3 : Nat → Int64) (e4 : Nat → Int64) (e5 : Nat → Int64) (e7 : Nat → Int64) (e8 : Nat → Int64) (e9 : Nat → Int64) (e10 : Nat → Int64) (e11 : Nat → Int64) (e6 : Nat → Int32) (x : Int32) (hRM : RM nw P M R n v g d) (hn : n ≤ 72) (h01 : G01 n g) (hP : 2 ≤ P) (hP12 : P ≤ 12) (hM : M ≤ 1) (hR : R ≤ 5) (hgv : GVg M n v g) : Con l G yX4_deviation cX4_deviation 2 (some .long) 6 128 0 0 [.ref qm, .int x] [oB 4 qm [.ref m0, .ref m1, .int (nI hc), .int (nI rf), .ref m2, .ref m3, .ref m4, .ref m5, .ref m6, .ref m7, .ref m8, .long sp, .ref m9, .ref m10, .ref m11, .long ha], aI G m0 220 nw, aJ G m3 73 s3, aJ G m4 72 e4, aJ G m5 72 e5, aI G m6 72 e6, aJ G m7 72 e7, aJ G m8 12 e8, aJ G m9 72 e9, aJ G m10 72 e10, aJ G m11 72 e11] (po_X4_deviation G qm m0 m1 m2 m3 m4 m5 m6 m7 m8 m9 m10 m11 hc rf sp ha nw P M R n v g d s3 e4 e5 e7 e8 e9 e10 e11 e6 x) := by
  refine Con.of hl cd_X4_deviation (Nat.le_of_ble_eq_true rfl) ?_
  intro p e s m args below meth c A F hin9
  change Fx p l s m args meth c G A "SeasonalAdjusterModel" cX4_deviation 2 (some .long) at F
  change J p l e (cRm 6 128 0 0) s m args below meth c G A 2 (JQ below G A (po_X4_deviation G qm m0 m1 m2 m3 m4 m5 m6 m7 m8 m9 m10 m11 hc rf sp ha nw P M R n v g d s3 e4 e5 e7 e8 e9 e10 e11 e6 x) args s 0 0) 0 0 0 [(0, .ref qm), (1, .int x)] [] [oB 4 qm [.ref m0, .ref m1, .int (nI hc), .int (nI rf), .ref m2, .ref m3, .ref m4, .ref m5, .ref m6, .ref m7, .ref m8, .long sp, .ref m9, .ref m10, .ref m11, .long ha], aI G m0 220 nw, aJ G m3 73 s3, aJ G m4 72 e4, aJ G m5 72 e5, aI G m6 72 e6, aJ G m7 72 e7, aJ G m8 12 e8, aJ G m9 72 e9, aJ G m10 72 e10, aJ G m11 72 e11]
  refine J_aload_n F 0 (dcq dc_X4_deviation_0 0 rfl) rfl rfl ?_
  refine J_iload_n F 1 (dcq dc_X4_deviation_0 1 rfl) rfl rfl ?_
  refine J_callV F (wc := [oB 4 qm [.ref m0, .ref m1, .int (nI hc), .int (nI rf), .ref m2, .ref m3, .ref m4, .ref m5, .ref m6, .ref m7, .ref m8, .long sp, .ref m9, .ref m10, .ref m11, .long ha], aI G m0 220 nw, aJ G m3 73 s3, aJ G m4 72 e4, aJ G m5 72 e5, aI G m6 72 e6, aJ G m7 72 e7, aJ G m8 12 e8, aJ G m9 72 e9, aJ G m10 72 e10, aJ G m11 72 e11]) (wr := []) (rest := []) (qc := 0) (c_X4_refusesInner l hl G qm m0 m1 m2 m3 m4 m5 m6 m7 m8 m9 m10 m11 hc rf sp ha nw P M R n v g d s3 e4 e5 e7 e8 e9 e10 e11 e6 x (by first | assumption | omega) (by first | assumption | omega) (by first | assumption | omega) (by first | assumption | omega) (by first | assumption | omega) (by first | assumption | omega) (by first | assumption | omega) (by first | assumption | omega)) cd_X4_refusesInner cv_X4_refusesInner rfl rfl rfl tw_4_168 [0, 1, 2, 3, 4, 5, 6, 7, 8, 9, 10] [] rfl rfl rfl rfl (by decide) rfl ⟨(Nat.le_of_ble_eq_true rfl), (Nat.le_of_ble_eq_true rfl), (Nat.le_of_ble_eq_true rfl), (Nat.le_of_ble_eq_true rfl)⟩ (Nat.le_of_ble_eq_true rfl) rfl (dcq dc_X4_deviation_0 2 rfl) ?_
  rintro _ _ h9x
  rcases h9x with ⟨sp2, k3, k4, k5, k6, k7, k8, k9, k10, k11, j_2, rfl, rfl, hd, hmp, hxj_2, hj1_2, hj2_2⟩ | ⟨rfl, rfl, hnd⟩ | ⟨sp2, k3, k4, k5, k6, k7, k8, k9, k10, k11, rfl, rfl, hd, hmp, hx_2⟩
  · skip
    have hd : dcm P n g := hd
    have hmp : MPT P M R n v sp2 k4 k5 k6 k7 k8 k9 k10 k11 := hmp
    have hxj_2 : x = nI j_2 := hxj_2
    have hj1_2 : P / 2 ≤ j_2 := hj1_2
    have hj2_2 : j_2 + P / 2 < n := hj2_2
    change J p l e (cRm 6 128 0 0) s m args below meth c G A 2 (JQ below G A (po_X4_deviation G qm m0 m1 m2 m3 m4 m5 m6 m7 m8 m9 m10 m11 hc rf sp ha nw P M R n v g d s3 e4 e5 e7 e8 e9 e10 e11 e6 x) args s 0 0) 0 0 5 [(0, .ref qm), (1, .int x)] [.int (nI 0)] [oB 4 qm [.ref m0, .ref m1, .int (nI hc), .int (nI 0), .ref m2, .ref m3, .ref m4, .ref m5, .ref m6, .ref m7, .ref m8, .long sp2, .ref m9, .ref m10, .ref m11, .long ha], aI G m0 220 nw, aJ G m3 73 k3, aJ G m4 72 k4, aJ G m5 72 k5, aI G m6 72 k6, aJ G m7 72 k7, aJ G m8 12 k8, aJ G m9 72 k9, aJ G m10 72 k10, aJ G m11 72 k11]
    obtain ⟨q4, q5, q6, q7, q8, q9, q10, q11, qsp⟩ := id hmp
    have hdu := hd
    unfold dcm at hdu
    obtain ⟨h5n, hPn, hcg⟩ := hdu
    refine J_cast (lv2 := [(0, .ref qm), (1, .int (nI j_2))]) (st2 := [.int (nI 0)]) (ws2 := [oB 4 qm [.ref m0, .ref m1, .int (nI hc), .int (nI 0), .ref m2, .ref m3, .ref m4, .ref m5, .ref m6, .ref m7, .ref m8, .long sp2, .ref m9, .ref m10, .ref m11, .long ha], aI G m0 220 nw, aJ G m3 73 k3, aJ G m4 72 k4, aJ G m5 72 k5, aI G m6 72 k6, aJ G m7 72 k7, aJ G m8 12 k8, aJ G m9 72 k9, aJ G m10 72 k10, aJ G m11 72 k11]) (by rw [hxj_2]) (rfl) (rfl) ?_
    refine J_if_eq F 12 (dcq dc_X4_deviation_0 3 rfl) (by decide) (fun _ => ?_) (fun h_1 => absurd h_1 (by decide))
    refine J_aload_n F 0 (dcq dc_X4_deviation_0 6 rfl) rfl rfl ?_
    refine J_get F fcX4 0 7 rfl (Nat.le_of_ble_eq_true rfl) tw_3_230 rfl rfl (dcq dc_X4_deviation_0 7 rfl) ?_
    refine J_iload_n F 1 (dcq dc_X4_deviation_0 8 rfl) rfl rfl ?_
    refine J_lald F 4 rfl (by omega) (Nat.le_of_ble_eq_true rfl) (dcq dc_X4_deviation_0 9 rfl) ?_
    exact J_lret F (Or.inl ⟨sp2, k3, k4, k5, k6, k7, k8, k9, k10, k11, j_2, k5 j_2, rfl, rfl, hd, hmp, hxj_2, hj1_2, hj2_2, q5 j_2 hj1_2 hj2_2⟩) (Nat.le_of_ble_eq_true rfl) (Nat.le_of_ble_eq_true rfl) (dcq dc_X4_deviation_0 10 rfl)
  · skip
    have hnd : ¬ dcm P n g := hnd
    change J p l e (cRm 6 128 0 0) s m args below meth c G A 2 (JQ below G A (po_X4_deviation G qm m0 m1 m2 m3 m4 m5 m6 m7 m8 m9 m10 m11 hc rf sp ha nw P M R n v g d s3 e4 e5 e7 e8 e9 e10 e11 e6 x) args s 0 0) 0 0 5 [(0, .ref qm), (1, .int x)] [.int (nI 1)] [oB 4 qm [.ref m0, .ref m1, .int (nI hc), .int (nI 1), .ref m2, .ref m3, .ref m4, .ref m5, .ref m6, .ref m7, .ref m8, .long sp, .ref m9, .ref m10, .ref m11, .long ha], aI G m0 220 nw, aJ G m3 73 s3, aJ G m4 72 e4, aJ G m5 72 e5, aI G m6 72 e6, aJ G m7 72 e7, aJ G m8 12 e8, aJ G m9 72 e9, aJ G m10 72 e10, aJ G m11 72 e11]
    refine J_if_eq F 12 (dcq dc_X4_deviation_0 3 rfl) (by decide) (fun h_2 => absurd h_2 (by decide)) (fun _ => ?_)
    refine J_lconst F (dcq dc_X4_deviation_0 4 rfl) lc_0 ?_
    refine J_goto F 18 (dcq dc_X4_deviation_0 5 rfl) (by decide) ?_
    exact J_lret F (Or.inr (Or.inl ⟨rfl, rfl, hnd⟩)) (Nat.le_of_ble_eq_true rfl) (Nat.le_of_ble_eq_true rfl) (dcq dc_X4_deviation_0 10 rfl)
  · skip
    have hd : dcm P n g := hd
    have hmp : MPT P M R n v sp2 k4 k5 k6 k7 k8 k9 k10 k11 := hmp
    have hx_2 : ∀ j, P / 2 ≤ j → j + P / 2 < n → x ≠ nI j := hx_2
    change J p l e (cRm 6 128 0 0) s m args below meth c G A 2 (JQ below G A (po_X4_deviation G qm m0 m1 m2 m3 m4 m5 m6 m7 m8 m9 m10 m11 hc rf sp ha nw P M R n v g d s3 e4 e5 e7 e8 e9 e10 e11 e6 x) args s 0 0) 0 0 5 [(0, .ref qm), (1, .int x)] [.int (nI 1)] [oB 4 qm [.ref m0, .ref m1, .int (nI hc), .int (nI 2), .ref m2, .ref m3, .ref m4, .ref m5, .ref m6, .ref m7, .ref m8, .long sp2, .ref m9, .ref m10, .ref m11, .long ha], aI G m0 220 nw, aJ G m3 73 k3, aJ G m4 72 k4, aJ G m5 72 k5, aI G m6 72 k6, aJ G m7 72 k7, aJ G m8 12 k8, aJ G m9 72 k9, aJ G m10 72 k10, aJ G m11 72 k11]
    obtain ⟨q4, q5, q6, q7, q8, q9, q10, q11, qsp⟩ := id hmp
    have hdu := hd
    unfold dcm at hdu
    obtain ⟨h5n, hPn, hcg⟩ := hdu
    refine J_if_eq F 12 (dcq dc_X4_deviation_0 3 rfl) (by decide) (fun h_3 => absurd h_3 (by decide)) (fun _ => ?_)
    refine J_lconst F (dcq dc_X4_deviation_0 4 rfl) lc_0 ?_
    refine J_goto F 18 (dcq dc_X4_deviation_0 5 rfl) (by decide) ?_
    exact J_lret F (Or.inr (Or.inr (⟨sp2, k3, k4, k5, k6, k7, k8, k9, k10, k11, rfl, rfl, hd, hmp, hx_2⟩))) (Nat.le_of_ble_eq_true rfl) (Nat.le_of_ble_eq_true rfl) (dcq dc_X4_deviation_0 10 rfl)

abbrev po_X4_weight (G : Gt) (qm m0 m1 m2 m3 m4 m5 m6 m7 m8 m9 m10 m11 hc rf : Nat) (sp ha : Int64) (nw : Nat → Int32) (P M R n : Nat) (v g d : Nat → Int32) (s3 : Nat → Int64) (e4 : Nat → Int64) (e5 : Nat → Int64) (e7 : Nat → Int64) (e8 : Nat → Int64) (e9 : Nat → Int64) (e10 : Nat → Int64) (e11 : Nat → Int64) (e6 : Nat → Int32) (x : Int32) : Option Value → va_W → Prop := fun (v9 : Option Value) (w9 : va_W) => (∃ (sp2 : Int64), ∃ (k3 k4 k5 : Nat → Int64), ∃ (k6 : Nat → Int32), ∃ (k7 k8 k9 k10 k11 : Nat → Int64), ∃ (j : Nat), ∃ (r : Int32), v9 = some (.int r) ∧ w9 = [oB 4 qm [.ref m0, .ref m1, .int (nI hc), .int (nI 0), .ref m2, .ref m3, .ref m4, .ref m5, .ref m6, .ref m7, .ref m8, .long sp2, .ref m9, .ref m10, .ref m11, .long ha], aI G m0 220 nw, aJ G m3 73 k3, aJ G m4 72 k4, aJ G m5 72 k5, aI G m6 72 k6, aJ G m7 72 k7, aJ G m8 12 k8, aJ G m9 72 k9, aJ G m10 72 k10, aJ G m11 72 k11] ∧ (dcm P n g) ∧ (MPT P M R n v sp2 k4 k5 k6 k7 k8 k9 k10 k11) ∧ (x = nI j) ∧ (P / 2 ≤ j) ∧ (j + P / 2 < n) ∧ (r = wR P M R n v j)) ∨ (v9 = some (.int (nI 0)) ∧ w9 = [oB 4 qm [.ref m0, .ref m1, .int (nI hc), .int (nI 1), .ref m2, .ref m3, .ref m4, .ref m5, .ref m6, .ref m7, .ref m8, .long sp, .ref m9, .ref m10, .ref m11, .long ha], aI G m0 220 nw, aJ G m3 73 s3, aJ G m4 72 e4, aJ G m5 72 e5, aI G m6 72 e6, aJ G m7 72 e7, aJ G m8 12 e8, aJ G m9 72 e9, aJ G m10 72 e10, aJ G m11 72 e11] ∧ (¬ dcm P n g)) ∨ (∃ (sp2 : Int64), ∃ (k3 k4 k5 : Nat → Int64), ∃ (k6 : Nat → Int32), ∃ (k7 k8 k9 k10 k11 : Nat → Int64), v9 = some (.int (nI 0)) ∧ w9 = [oB 4 qm [.ref m0, .ref m1, .int (nI hc), .int (nI 2), .ref m2, .ref m3, .ref m4, .ref m5, .ref m6, .ref m7, .ref m8, .long sp2, .ref m9, .ref m10, .ref m11, .long ha], aI G m0 220 nw, aJ G m3 73 k3, aJ G m4 72 k4, aJ G m5 72 k5, aI G m6 72 k6, aJ G m7 72 k7, aJ G m8 12 k8, aJ G m9 72 k9, aJ G m10 72 k10, aJ G m11 72 k11] ∧ (dcm P n g) ∧ (MPT P M R n v sp2 k4 k5 k6 k7 k8 k9 k10 k11) ∧ (∀ j, P / 2 ≤ j → j + P / 2 < n → x ≠ nI j))
set_option maxHeartbeats 4000000 in
set_option maxRecDepth 100000 in
theorem c_X4_weight (l : Launch) (hl : l.stackTraces = false) (G : Gt) (qm m0 m1 m2 m3 m4 m5 m6 m7 m8 m9 m10 m11 hc rf : Nat) (sp ha : Int64) (nw : Nat → Int32) (P M R n : Nat) (v g d : Nat → Int32) (s3 : Nat → Int64) (e4 : Nat → Int64) (e5 : Nat → Int64) (e7 : Nat → Int64) (e8 : Nat → Int64) (e9 : Nat → Int64) (e10 : Nat → Int64) (e11 : Nat → Int64) (e6 : Nat → Int32) (x : Int32) (hRM : RM nw P M R n v g d) (hn : n ≤ 72) (h01 : G01 n g) (hP : 2 ≤ P) (hP12 : P ≤ 12) (hM : M ≤ 1) (hR : R ≤ 5) (hgv : GVg M n v g) : Con l G yX4_weight cX4_weight 2 (some .int) 6 128 0 0 [.ref qm, .int x] [oB 4 qm [.ref m0, .ref m1, .int (nI hc), .int (nI rf), .ref m2, .ref m3, .ref m4, .ref m5, .ref m6, .ref m7, .ref m8, .long sp, .ref m9, .ref m10, .ref m11, .long ha], aI G m0 220 nw, aJ G m3 73 s3, aJ G m4 72 e4, aJ G m5 72 e5, aI G m6 72 e6, aJ G m7 72 e7, aJ G m8 12 e8, aJ G m9 72 e9, aJ G m10 72 e10, aJ G m11 72 e11] (po_X4_weight G qm m0 m1 m2 m3 m4 m5 m6 m7 m8 m9 m10 m11 hc rf sp ha nw P M R n v g d s3 e4 e5 e7 e8 e9 e10 e11 e6 x) := by
  refine Con.of hl cd_X4_weight (Nat.le_of_ble_eq_true rfl) ?_
  intro p e s m args below meth c A F hin9
  change Fx p l s m args meth c G A "SeasonalAdjusterModel" cX4_weight 2 (some .int) at F
  change J p l e (cRm 6 128 0 0) s m args below meth c G A 2 (JQ below G A (po_X4_weight G qm m0 m1 m2 m3 m4 m5 m6 m7 m8 m9 m10 m11 hc rf sp ha nw P M R n v g d s3 e4 e5 e7 e8 e9 e10 e11 e6 x) args s 0 0) 0 0 0 [(0, .ref qm), (1, .int x)] [] [oB 4 qm [.ref m0, .ref m1, .int (nI hc), .int (nI rf), .ref m2, .ref m3, .ref m4, .ref m5, .ref m6, .ref m7, .ref m8, .long sp, .ref m9, .ref m10, .ref m11, .long ha], aI G m0 220 nw, aJ G m3 73 s3, aJ G m4 72 e4, aJ G m5 72 e5, aI G m6 72 e6, aJ G m7 72 e7, aJ G m8 12 e8, aJ G m9 72 e9, aJ G m10 72 e10, aJ G m11 72 e11]
  refine J_aload_n F 0 (dcq dc_X4_weight_0 0 rfl) rfl rfl ?_
  refine J_iload_n F 1 (dcq dc_X4_weight_0 1 rfl) rfl rfl ?_
  refine J_callV F (wc := [oB 4 qm [.ref m0, .ref m1, .int (nI hc), .int (nI rf), .ref m2, .ref m3, .ref m4, .ref m5, .ref m6, .ref m7, .ref m8, .long sp, .ref m9, .ref m10, .ref m11, .long ha], aI G m0 220 nw, aJ G m3 73 s3, aJ G m4 72 e4, aJ G m5 72 e5, aI G m6 72 e6, aJ G m7 72 e7, aJ G m8 12 e8, aJ G m9 72 e9, aJ G m10 72 e10, aJ G m11 72 e11]) (wr := []) (rest := []) (qc := 0) (c_X4_refusesInner l hl G qm m0 m1 m2 m3 m4 m5 m6 m7 m8 m9 m10 m11 hc rf sp ha nw P M R n v g d s3 e4 e5 e7 e8 e9 e10 e11 e6 x (by first | assumption | omega) (by first | assumption | omega) (by first | assumption | omega) (by first | assumption | omega) (by first | assumption | omega) (by first | assumption | omega) (by first | assumption | omega) (by first | assumption | omega)) cd_X4_refusesInner cv_X4_refusesInner rfl rfl rfl tw_4_168 [0, 1, 2, 3, 4, 5, 6, 7, 8, 9, 10] [] rfl rfl rfl rfl (by decide) rfl ⟨(Nat.le_of_ble_eq_true rfl), (Nat.le_of_ble_eq_true rfl), (Nat.le_of_ble_eq_true rfl), (Nat.le_of_ble_eq_true rfl)⟩ (Nat.le_of_ble_eq_true rfl) rfl (dcq dc_X4_weight_0 2 rfl) ?_
  rintro _ _ h9x
  rcases h9x with ⟨sp2, k3, k4, k5, k6, k7, k8, k9, k10, k11, j_2, rfl, rfl, hd, hmp, hxj_2, hj1_2, hj2_2⟩ | ⟨rfl, rfl, hnd⟩ | ⟨sp2, k3, k4, k5, k6, k7, k8, k9, k10, k11, rfl, rfl, hd, hmp, hx_2⟩
  · skip
    have hd : dcm P n g := hd
    have hmp : MPT P M R n v sp2 k4 k5 k6 k7 k8 k9 k10 k11 := hmp
    have hxj_2 : x = nI j_2 := hxj_2
    have hj1_2 : P / 2 ≤ j_2 := hj1_2
    have hj2_2 : j_2 + P / 2 < n := hj2_2
    change J p l e (cRm 6 128 0 0) s m args below meth c G A 2 (JQ below G A (po_X4_weight G qm m0 m1 m2 m3 m4 m5 m6 m7 m8 m9 m10 m11 hc rf sp ha nw P M R n v g d s3 e4 e5 e7 e8 e9 e10 e11 e6 x) args s 0 0) 0 0 5 [(0, .ref qm), (1, .int x)] [.int (nI 0)] [oB 4 qm [.ref m0, .ref m1, .int (nI hc), .int (nI 0), .ref m2, .ref m3, .ref m4, .ref m5, .ref m6, .ref m7, .ref m8, .long sp2, .ref m9, .ref m10, .ref m11, .long ha], aI G m0 220 nw, aJ G m3 73 k3, aJ G m4 72 k4, aJ G m5 72 k5, aI G m6 72 k6, aJ G m7 72 k7, aJ G m8 12 k8, aJ G m9 72 k9, aJ G m10 72 k10, aJ G m11 72 k11]
    obtain ⟨q4, q5, q6, q7, q8, q9, q10, q11, qsp⟩ := id hmp
    have hdu := hd
    unfold dcm at hdu
    obtain ⟨h5n, hPn, hcg⟩ := hdu
    refine J_cast (lv2 := [(0, .ref qm), (1, .int (nI j_2))]) (st2 := [.int (nI 0)]) (ws2 := [oB 4 qm [.ref m0, .ref m1, .int (nI hc), .int (nI 0), .ref m2, .ref m3, .ref m4, .ref m5, .ref m6, .ref m7, .ref m8, .long sp2, .ref m9, .ref m10, .ref m11, .long ha], aI G m0 220 nw, aJ G m3 73 k3, aJ G m4 72 k4, aJ G m5 72 k5, aI G m6 72 k6, aJ G m7 72 k7, aJ G m8 12 k8, aJ G m9 72 k9, aJ G m10 72 k10, aJ G m11 72 k11]) (by rw [hxj_2]) (rfl) (rfl) ?_
    refine J_if_eq F 12 (dcq dc_X4_weight_0 3 rfl) (by decide) (fun _ => ?_) (fun h_1 => absurd h_1 (by decide))
    refine J_aload_n F 0 (dcq dc_X4_weight_0 6 rfl) rfl rfl ?_
    refine J_get F fcX4 0 8 rfl (Nat.le_of_ble_eq_true rfl) tw_3_231 rfl rfl (dcq dc_X4_weight_0 7 rfl) ?_
    refine J_iload_n F 1 (dcq dc_X4_weight_0 8 rfl) rfl rfl ?_
    refine J_iald F 5 rfl (by omega) (Nat.le_of_ble_eq_true rfl) (dcq dc_X4_weight_0 9 rfl) ?_
    exact J_iret F (Or.inl ⟨sp2, k3, k4, k5, k6, k7, k8, k9, k10, k11, j_2, k6 j_2, rfl, rfl, hd, hmp, hxj_2, hj1_2, hj2_2, q6 j_2 hj1_2 hj2_2⟩) (Nat.le_of_ble_eq_true rfl) (Nat.le_of_ble_eq_true rfl) (dcq dc_X4_weight_0 10 rfl)
  · skip
    have hnd : ¬ dcm P n g := hnd
    change J p l e (cRm 6 128 0 0) s m args below meth c G A 2 (JQ below G A (po_X4_weight G qm m0 m1 m2 m3 m4 m5 m6 m7 m8 m9 m10 m11 hc rf sp ha nw P M R n v g d s3 e4 e5 e7 e8 e9 e10 e11 e6 x) args s 0 0) 0 0 5 [(0, .ref qm), (1, .int x)] [.int (nI 1)] [oB 4 qm [.ref m0, .ref m1, .int (nI hc), .int (nI 1), .ref m2, .ref m3, .ref m4, .ref m5, .ref m6, .ref m7, .ref m8, .long sp, .ref m9, .ref m10, .ref m11, .long ha], aI G m0 220 nw, aJ G m3 73 s3, aJ G m4 72 e4, aJ G m5 72 e5, aI G m6 72 e6, aJ G m7 72 e7, aJ G m8 12 e8, aJ G m9 72 e9, aJ G m10 72 e10, aJ G m11 72 e11]
    refine J_if_eq F 12 (dcq dc_X4_weight_0 3 rfl) (by decide) (fun h_2 => absurd h_2 (by decide)) (fun _ => ?_)
    refine J_iconst F (dcq dc_X4_weight_0 4 rfl) ic_0 ?_
    refine J_goto F 18 (dcq dc_X4_weight_0 5 rfl) (by decide) ?_
    exact J_iret F (Or.inr (Or.inl ⟨rfl, rfl, hnd⟩)) (Nat.le_of_ble_eq_true rfl) (Nat.le_of_ble_eq_true rfl) (dcq dc_X4_weight_0 10 rfl)
  · skip
    have hd : dcm P n g := hd
    have hmp : MPT P M R n v sp2 k4 k5 k6 k7 k8 k9 k10 k11 := hmp
    have hx_2 : ∀ j, P / 2 ≤ j → j + P / 2 < n → x ≠ nI j := hx_2
    change J p l e (cRm 6 128 0 0) s m args below meth c G A 2 (JQ below G A (po_X4_weight G qm m0 m1 m2 m3 m4 m5 m6 m7 m8 m9 m10 m11 hc rf sp ha nw P M R n v g d s3 e4 e5 e7 e8 e9 e10 e11 e6 x) args s 0 0) 0 0 5 [(0, .ref qm), (1, .int x)] [.int (nI 1)] [oB 4 qm [.ref m0, .ref m1, .int (nI hc), .int (nI 2), .ref m2, .ref m3, .ref m4, .ref m5, .ref m6, .ref m7, .ref m8, .long sp2, .ref m9, .ref m10, .ref m11, .long ha], aI G m0 220 nw, aJ G m3 73 k3, aJ G m4 72 k4, aJ G m5 72 k5, aI G m6 72 k6, aJ G m7 72 k7, aJ G m8 12 k8, aJ G m9 72 k9, aJ G m10 72 k10, aJ G m11 72 k11]
    obtain ⟨q4, q5, q6, q7, q8, q9, q10, q11, qsp⟩ := id hmp
    have hdu := hd
    unfold dcm at hdu
    obtain ⟨h5n, hPn, hcg⟩ := hdu
    refine J_if_eq F 12 (dcq dc_X4_weight_0 3 rfl) (by decide) (fun h_3 => absurd h_3 (by decide)) (fun _ => ?_)
    refine J_iconst F (dcq dc_X4_weight_0 4 rfl) ic_0 ?_
    refine J_goto F 18 (dcq dc_X4_weight_0 5 rfl) (by decide) ?_
    exact J_iret F (Or.inr (Or.inr (⟨sp2, k3, k4, k5, k6, k7, k8, k9, k10, k11, rfl, rfl, hd, hmp, hx_2⟩))) (Nat.le_of_ble_eq_true rfl) (Nat.le_of_ble_eq_true rfl) (dcq dc_X4_weight_0 10 rfl)

abbrev po_X4_adjusted (G : Gt) (qm m0 m1 m2 m3 m4 m5 m6 m7 m8 m9 m10 m11 hc rf : Nat) (sp ha : Int64) (nw : Nat → Int32) (P M R n : Nat) (v g d : Nat → Int32) (s3 : Nat → Int64) (e4 : Nat → Int64) (e5 : Nat → Int64) (e7 : Nat → Int64) (e8 : Nat → Int64) (e9 : Nat → Int64) (e10 : Nat → Int64) (e11 : Nat → Int64) (e6 : Nat → Int32) (x : Int32) : Option Value → va_W → Prop := fun (v9 : Option Value) (w9 : va_W) => (∃ (sp2 : Int64), ∃ (k3 k4 k5 : Nat → Int64), ∃ (k6 : Nat → Int32), ∃ (k7 k8 k9 k10 k11 : Nat → Int64), ∃ (j : Nat), ∃ (r : Int64), v9 = some (.long r) ∧ w9 = [oB 4 qm [.ref m0, .ref m1, .int (nI hc), .int (nI 0), .ref m2, .ref m3, .ref m4, .ref m5, .ref m6, .ref m7, .ref m8, .long sp2, .ref m9, .ref m10, .ref m11, .long ha], aI G m0 220 nw, aJ G m3 73 k3, aJ G m4 72 k4, aJ G m5 72 k5, aI G m6 72 k6, aJ G m7 72 k7, aJ G m8 12 k8, aJ G m9 72 k9, aJ G m10 72 k10, aJ G m11 72 k11] ∧ (dcm P n g) ∧ (MPT P M R n v sp2 k4 k5 k6 k7 k8 k9 k10 k11) ∧ (x = nI j) ∧ (j < n) ∧ (r = lR P M R n v j)) ∨ (v9 = some (.long 0) ∧ w9 = [oB 4 qm [.ref m0, .ref m1, .int (nI hc), .int (nI 1), .ref m2, .ref m3, .ref m4, .ref m5, .ref m6, .ref m7, .ref m8, .long sp, .ref m9, .ref m10, .ref m11, .long ha], aI G m0 220 nw, aJ G m3 73 s3, aJ G m4 72 e4, aJ G m5 72 e5, aI G m6 72 e6, aJ G m7 72 e7, aJ G m8 12 e8, aJ G m9 72 e9, aJ G m10 72 e10, aJ G m11 72 e11] ∧ (¬ dcm P n g)) ∨ (∃ (sp2 : Int64), ∃ (k3 k4 k5 : Nat → Int64), ∃ (k6 : Nat → Int32), ∃ (k7 k8 k9 k10 k11 : Nat → Int64), v9 = some (.long 0) ∧ w9 = [oB 4 qm [.ref m0, .ref m1, .int (nI hc), .int (nI 2), .ref m2, .ref m3, .ref m4, .ref m5, .ref m6, .ref m7, .ref m8, .long sp2, .ref m9, .ref m10, .ref m11, .long ha], aI G m0 220 nw, aJ G m3 73 k3, aJ G m4 72 k4, aJ G m5 72 k5, aI G m6 72 k6, aJ G m7 72 k7, aJ G m8 12 k8, aJ G m9 72 k9, aJ G m10 72 k10, aJ G m11 72 k11] ∧ (dcm P n g) ∧ (MPT P M R n v sp2 k4 k5 k6 k7 k8 k9 k10 k11) ∧ (∀ j, j < n → x ≠ nI j))
set_option maxHeartbeats 4000000 in
set_option maxRecDepth 100000 in
theorem c_X4_adjusted (l : Launch) (hl : l.stackTraces = false) (G : Gt) (qm m0 m1 m2 m3 m4 m5 m6 m7 m8 m9 m10 m11 hc rf : Nat) (sp ha : Int64) (nw : Nat → Int32) (P M R n : Nat) (v g d : Nat → Int32) (s3 : Nat → Int64) (e4 : Nat → Int64) (e5 : Nat → Int64) (e7 : Nat → Int64) (e8 : Nat → Int64) (e9 : Nat → Int64) (e10 : Nat → Int64) (e11 : Nat → Int64) (e6 : Nat → Int32) (x : Int32) (hRM : RM nw P M R n v g d) (hn : n ≤ 72) (h01 : G01 n g) (hP : 2 ≤ P) (hP12 : P ≤ 12) (hM : M ≤ 1) (hR : R ≤ 5) (hgv : GVg M n v g) : Con l G yX4_adjusted cX4_adjusted 2 (some .long) 6 128 0 0 [.ref qm, .int x] [oB 4 qm [.ref m0, .ref m1, .int (nI hc), .int (nI rf), .ref m2, .ref m3, .ref m4, .ref m5, .ref m6, .ref m7, .ref m8, .long sp, .ref m9, .ref m10, .ref m11, .long ha], aI G m0 220 nw, aJ G m3 73 s3, aJ G m4 72 e4, aJ G m5 72 e5, aI G m6 72 e6, aJ G m7 72 e7, aJ G m8 12 e8, aJ G m9 72 e9, aJ G m10 72 e10, aJ G m11 72 e11] (po_X4_adjusted G qm m0 m1 m2 m3 m4 m5 m6 m7 m8 m9 m10 m11 hc rf sp ha nw P M R n v g d s3 e4 e5 e7 e8 e9 e10 e11 e6 x) := by
  refine Con.of hl cd_X4_adjusted (Nat.le_of_ble_eq_true rfl) ?_
  intro p e s m args below meth c A F hin9
  change Fx p l s m args meth c G A "SeasonalAdjusterModel" cX4_adjusted 2 (some .long) at F
  change J p l e (cRm 6 128 0 0) s m args below meth c G A 2 (JQ below G A (po_X4_adjusted G qm m0 m1 m2 m3 m4 m5 m6 m7 m8 m9 m10 m11 hc rf sp ha nw P M R n v g d s3 e4 e5 e7 e8 e9 e10 e11 e6 x) args s 0 0) 0 0 0 [(0, .ref qm), (1, .int x)] [] [oB 4 qm [.ref m0, .ref m1, .int (nI hc), .int (nI rf), .ref m2, .ref m3, .ref m4, .ref m5, .ref m6, .ref m7, .ref m8, .long sp, .ref m9, .ref m10, .ref m11, .long ha], aI G m0 220 nw, aJ G m3 73 s3, aJ G m4 72 e4, aJ G m5 72 e5, aI G m6 72 e6, aJ G m7 72 e7, aJ G m8 12 e8, aJ G m9 72 e9, aJ G m10 72 e10, aJ G m11 72 e11]
  refine J_aload_n F 0 (dcq dc_X4_adjusted_0 0 rfl) rfl rfl ?_
  refine J_iload_n F 1 (dcq dc_X4_adjusted_0 1 rfl) rfl rfl ?_
  refine J_callV F (wc := [oB 4 qm [.ref m0, .ref m1, .int (nI hc), .int (nI rf), .ref m2, .ref m3, .ref m4, .ref m5, .ref m6, .ref m7, .ref m8, .long sp, .ref m9, .ref m10, .ref m11, .long ha], aI G m0 220 nw, aJ G m3 73 s3, aJ G m4 72 e4, aJ G m5 72 e5, aI G m6 72 e6, aJ G m7 72 e7, aJ G m8 12 e8, aJ G m9 72 e9, aJ G m10 72 e10, aJ G m11 72 e11]) (wr := []) (rest := []) (qc := 0) (c_X4_refusesEntry l hl G qm m0 m1 m2 m3 m4 m5 m6 m7 m8 m9 m10 m11 hc rf sp ha nw P M R n v g d s3 e4 e5 e7 e8 e9 e10 e11 e6 x (by first | assumption | omega) (by first | assumption | omega) (by first | assumption | omega) (by first | assumption | omega) (by first | assumption | omega) (by first | assumption | omega) (by first | assumption | omega) (by first | assumption | omega)) cd_X4_refusesEntry cv_X4_refusesEntry rfl rfl rfl tw_4_239 [0, 1, 2, 3, 4, 5, 6, 7, 8, 9, 10] [] rfl rfl rfl rfl (by decide) rfl ⟨(Nat.le_of_ble_eq_true rfl), (Nat.le_of_ble_eq_true rfl), (Nat.le_of_ble_eq_true rfl), (Nat.le_of_ble_eq_true rfl)⟩ (Nat.le_of_ble_eq_true rfl) rfl (dcq dc_X4_adjusted_0 2 rfl) ?_
  rintro _ _ h9x
  rcases h9x with ⟨sp2, k3, k4, k5, k6, k7, k8, k9, k10, k11, j_2, rfl, rfl, hd, hmp, hxj_2, hj_2⟩ | ⟨rfl, rfl, hnd⟩ | ⟨sp2, k3, k4, k5, k6, k7, k8, k9, k10, k11, rfl, rfl, hd, hmp, hx_2⟩
  · skip
    have hd : dcm P n g := hd
    have hmp : MPT P M R n v sp2 k4 k5 k6 k7 k8 k9 k10 k11 := hmp
    have hxj_2 : x = nI j_2 := hxj_2
    have hj_2 : j_2 < n := hj_2
    change J p l e (cRm 6 128 0 0) s m args below meth c G A 2 (JQ below G A (po_X4_adjusted G qm m0 m1 m2 m3 m4 m5 m6 m7 m8 m9 m10 m11 hc rf sp ha nw P M R n v g d s3 e4 e5 e7 e8 e9 e10 e11 e6 x) args s 0 0) 0 0 5 [(0, .ref qm), (1, .int x)] [.int (nI 0)] [oB 4 qm [.ref m0, .ref m1, .int (nI hc), .int (nI 0), .ref m2, .ref m3, .ref m4, .ref m5, .ref m6, .ref m7, .ref m8, .long sp2, .ref m9, .ref m10, .ref m11, .long ha], aI G m0 220 nw, aJ G m3 73 k3, aJ G m4 72 k4, aJ G m5 72 k5, aI G m6 72 k6, aJ G m7 72 k7, aJ G m8 12 k8, aJ G m9 72 k9, aJ G m10 72 k10, aJ G m11 72 k11]
    obtain ⟨q4, q5, q6, q7, q8, q9, q10, q11, qsp⟩ := id hmp
    have hdu := hd
    unfold dcm at hdu
    obtain ⟨h5n, hPn, hcg⟩ := hdu
    refine J_cast (lv2 := [(0, .ref qm), (1, .int (nI j_2))]) (st2 := [.int (nI 0)]) (ws2 := [oB 4 qm [.ref m0, .ref m1, .int (nI hc), .int (nI 0), .ref m2, .ref m3, .ref m4, .ref m5, .ref m6, .ref m7, .ref m8, .long sp2, .ref m9, .ref m10, .ref m11, .long ha], aI G m0 220 nw, aJ G m3 73 k3, aJ G m4 72 k4, aJ G m5 72 k5, aI G m6 72 k6, aJ G m7 72 k7, aJ G m8 12 k8, aJ G m9 72 k9, aJ G m10 72 k10, aJ G m11 72 k11]) (by rw [hxj_2]) (rfl) (rfl) ?_
    refine J_if_eq F 12 (dcq dc_X4_adjusted_0 3 rfl) (by decide) (fun _ => ?_) (fun h_1 => absurd h_1 (by decide))
    refine J_aload_n F 0 (dcq dc_X4_adjusted_0 6 rfl) rfl rfl ?_
    refine J_get F fcX4 0 12 rfl (Nat.le_of_ble_eq_true rfl) tw_3_235 rfl rfl (dcq dc_X4_adjusted_0 7 rfl) ?_
    refine J_iload_n F 1 (dcq dc_X4_adjusted_0 8 rfl) rfl rfl ?_
    refine J_lald F 8 rfl (by omega) (Nat.le_of_ble_eq_true rfl) (dcq dc_X4_adjusted_0 9 rfl) ?_
    exact J_lret F (Or.inl ⟨sp2, k3, k4, k5, k6, k7, k8, k9, k10, k11, j_2, k9 j_2, rfl, rfl, hd, hmp, hxj_2, hj_2, q9 j_2 hj_2⟩) (Nat.le_of_ble_eq_true rfl) (Nat.le_of_ble_eq_true rfl) (dcq dc_X4_adjusted_0 10 rfl)
  · skip
    have hnd : ¬ dcm P n g := hnd
    change J p l e (cRm 6 128 0 0) s m args below meth c G A 2 (JQ below G A (po_X4_adjusted G qm m0 m1 m2 m3 m4 m5 m6 m7 m8 m9 m10 m11 hc rf sp ha nw P M R n v g d s3 e4 e5 e7 e8 e9 e10 e11 e6 x) args s 0 0) 0 0 5 [(0, .ref qm), (1, .int x)] [.int (nI 1)] [oB 4 qm [.ref m0, .ref m1, .int (nI hc), .int (nI 1), .ref m2, .ref m3, .ref m4, .ref m5, .ref m6, .ref m7, .ref m8, .long sp, .ref m9, .ref m10, .ref m11, .long ha], aI G m0 220 nw, aJ G m3 73 s3, aJ G m4 72 e4, aJ G m5 72 e5, aI G m6 72 e6, aJ G m7 72 e7, aJ G m8 12 e8, aJ G m9 72 e9, aJ G m10 72 e10, aJ G m11 72 e11]
    refine J_if_eq F 12 (dcq dc_X4_adjusted_0 3 rfl) (by decide) (fun h_2 => absurd h_2 (by decide)) (fun _ => ?_)
    refine J_lconst F (dcq dc_X4_adjusted_0 4 rfl) lc_0 ?_
    refine J_goto F 18 (dcq dc_X4_adjusted_0 5 rfl) (by decide) ?_
    exact J_lret F (Or.inr (Or.inl ⟨rfl, rfl, hnd⟩)) (Nat.le_of_ble_eq_true rfl) (Nat.le_of_ble_eq_true rfl) (dcq dc_X4_adjusted_0 10 rfl)
  · skip
    have hd : dcm P n g := hd
    have hmp : MPT P M R n v sp2 k4 k5 k6 k7 k8 k9 k10 k11 := hmp
    have hx_2 : ∀ j, j < n → x ≠ nI j := hx_2
    change J p l e (cRm 6 128 0 0) s m args below meth c G A 2 (JQ below G A (po_X4_adjusted G qm m0 m1 m2 m3 m4 m5 m6 m7 m8 m9 m10 m11 hc rf sp ha nw P M R n v g d s3 e4 e5 e7 e8 e9 e10 e11 e6 x) args s 0 0) 0 0 5 [(0, .ref qm), (1, .int x)] [.int (nI 1)] [oB 4 qm [.ref m0, .ref m1, .int (nI hc), .int (nI 2), .ref m2, .ref m3, .ref m4, .ref m5, .ref m6, .ref m7, .ref m8, .long sp2, .ref m9, .ref m10, .ref m11, .long ha], aI G m0 220 nw, aJ G m3 73 k3, aJ G m4 72 k4, aJ G m5 72 k5, aI G m6 72 k6, aJ G m7 72 k7, aJ G m8 12 k8, aJ G m9 72 k9, aJ G m10 72 k10, aJ G m11 72 k11]
    obtain ⟨q4, q5, q6, q7, q8, q9, q10, q11, qsp⟩ := id hmp
    have hdu := hd
    unfold dcm at hdu
    obtain ⟨h5n, hPn, hcg⟩ := hdu
    refine J_if_eq F 12 (dcq dc_X4_adjusted_0 3 rfl) (by decide) (fun h_3 => absurd h_3 (by decide)) (fun _ => ?_)
    refine J_lconst F (dcq dc_X4_adjusted_0 4 rfl) lc_0 ?_
    refine J_goto F 18 (dcq dc_X4_adjusted_0 5 rfl) (by decide) ?_
    exact J_lret F (Or.inr (Or.inr (⟨sp2, k3, k4, k5, k6, k7, k8, k9, k10, k11, rfl, rfl, hd, hmp, hx_2⟩))) (Nat.le_of_ble_eq_true rfl) (Nat.le_of_ble_eq_true rfl) (dcq dc_X4_adjusted_0 10 rfl)

abbrev po_X4_trend (G : Gt) (qm m0 m1 m2 m3 m4 m5 m6 m7 m8 m9 m10 m11 hc rf : Nat) (sp ha : Int64) (nw : Nat → Int32) (P M R n : Nat) (v g d : Nat → Int32) (s3 : Nat → Int64) (e4 : Nat → Int64) (e5 : Nat → Int64) (e7 : Nat → Int64) (e8 : Nat → Int64) (e9 : Nat → Int64) (e10 : Nat → Int64) (e11 : Nat → Int64) (e6 : Nat → Int32) (x : Int32) : Option Value → va_W → Prop := fun (v9 : Option Value) (w9 : va_W) => (∃ (sp2 : Int64), ∃ (k3 k4 k5 : Nat → Int64), ∃ (k6 : Nat → Int32), ∃ (k7 k8 k9 k10 k11 : Nat → Int64), ∃ (j : Nat), ∃ (r : Int64), v9 = some (.long r) ∧ w9 = [oB 4 qm [.ref m0, .ref m1, .int (nI hc), .int (nI 0), .ref m2, .ref m3, .ref m4, .ref m5, .ref m6, .ref m7, .ref m8, .long sp2, .ref m9, .ref m10, .ref m11, .long ha], aI G m0 220 nw, aJ G m3 73 k3, aJ G m4 72 k4, aJ G m5 72 k5, aI G m6 72 k6, aJ G m7 72 k7, aJ G m8 12 k8, aJ G m9 72 k9, aJ G m10 72 k10, aJ G m11 72 k11] ∧ (dcm P n g) ∧ (MPT P M R n v sp2 k4 k5 k6 k7 k8 k9 k10 k11) ∧ (x = nI j) ∧ (j < n) ∧ (r = tR P M R n v j)) ∨ (v9 = some (.long 0) ∧ w9 = [oB 4 qm [.ref m0, .ref m1, .int (nI hc), .int (nI 1), .ref m2, .ref m3, .ref m4, .ref m5, .ref m6, .ref m7, .ref m8, .long sp, .ref m9, .ref m10, .ref m11, .long ha], aI G m0 220 nw, aJ G m3 73 s3, aJ G m4 72 e4, aJ G m5 72 e5, aI G m6 72 e6, aJ G m7 72 e7, aJ G m8 12 e8, aJ G m9 72 e9, aJ G m10 72 e10, aJ G m11 72 e11] ∧ (¬ dcm P n g)) ∨ (∃ (sp2 : Int64), ∃ (k3 k4 k5 : Nat → Int64), ∃ (k6 : Nat → Int32), ∃ (k7 k8 k9 k10 k11 : Nat → Int64), v9 = some (.long 0) ∧ w9 = [oB 4 qm [.ref m0, .ref m1, .int (nI hc), .int (nI 2), .ref m2, .ref m3, .ref m4, .ref m5, .ref m6, .ref m7, .ref m8, .long sp2, .ref m9, .ref m10, .ref m11, .long ha], aI G m0 220 nw, aJ G m3 73 k3, aJ G m4 72 k4, aJ G m5 72 k5, aI G m6 72 k6, aJ G m7 72 k7, aJ G m8 12 k8, aJ G m9 72 k9, aJ G m10 72 k10, aJ G m11 72 k11] ∧ (dcm P n g) ∧ (MPT P M R n v sp2 k4 k5 k6 k7 k8 k9 k10 k11) ∧ (∀ j, j < n → x ≠ nI j))
set_option maxHeartbeats 4000000 in
set_option maxRecDepth 100000 in
theorem c_X4_trend (l : Launch) (hl : l.stackTraces = false) (G : Gt) (qm m0 m1 m2 m3 m4 m5 m6 m7 m8 m9 m10 m11 hc rf : Nat) (sp ha : Int64) (nw : Nat → Int32) (P M R n : Nat) (v g d : Nat → Int32) (s3 : Nat → Int64) (e4 : Nat → Int64) (e5 : Nat → Int64) (e7 : Nat → Int64) (e8 : Nat → Int64) (e9 : Nat → Int64) (e10 : Nat → Int64) (e11 : Nat → Int64) (e6 : Nat → Int32) (x : Int32) (hRM : RM nw P M R n v g d) (hn : n ≤ 72) (h01 : G01 n g) (hP : 2 ≤ P) (hP12 : P ≤ 12) (hM : M ≤ 1) (hR : R ≤ 5) (hgv : GVg M n v g) : Con l G yX4_trend cX4_trend 2 (some .long) 6 128 0 0 [.ref qm, .int x] [oB 4 qm [.ref m0, .ref m1, .int (nI hc), .int (nI rf), .ref m2, .ref m3, .ref m4, .ref m5, .ref m6, .ref m7, .ref m8, .long sp, .ref m9, .ref m10, .ref m11, .long ha], aI G m0 220 nw, aJ G m3 73 s3, aJ G m4 72 e4, aJ G m5 72 e5, aI G m6 72 e6, aJ G m7 72 e7, aJ G m8 12 e8, aJ G m9 72 e9, aJ G m10 72 e10, aJ G m11 72 e11] (po_X4_trend G qm m0 m1 m2 m3 m4 m5 m6 m7 m8 m9 m10 m11 hc rf sp ha nw P M R n v g d s3 e4 e5 e7 e8 e9 e10 e11 e6 x) := by
  refine Con.of hl cd_X4_trend (Nat.le_of_ble_eq_true rfl) ?_
  intro p e s m args below meth c A F hin9
  change Fx p l s m args meth c G A "SeasonalAdjusterModel" cX4_trend 2 (some .long) at F
  change J p l e (cRm 6 128 0 0) s m args below meth c G A 2 (JQ below G A (po_X4_trend G qm m0 m1 m2 m3 m4 m5 m6 m7 m8 m9 m10 m11 hc rf sp ha nw P M R n v g d s3 e4 e5 e7 e8 e9 e10 e11 e6 x) args s 0 0) 0 0 0 [(0, .ref qm), (1, .int x)] [] [oB 4 qm [.ref m0, .ref m1, .int (nI hc), .int (nI rf), .ref m2, .ref m3, .ref m4, .ref m5, .ref m6, .ref m7, .ref m8, .long sp, .ref m9, .ref m10, .ref m11, .long ha], aI G m0 220 nw, aJ G m3 73 s3, aJ G m4 72 e4, aJ G m5 72 e5, aI G m6 72 e6, aJ G m7 72 e7, aJ G m8 12 e8, aJ G m9 72 e9, aJ G m10 72 e10, aJ G m11 72 e11]
  refine J_aload_n F 0 (dcq dc_X4_trend_0 0 rfl) rfl rfl ?_
  refine J_iload_n F 1 (dcq dc_X4_trend_0 1 rfl) rfl rfl ?_
  refine J_callV F (wc := [oB 4 qm [.ref m0, .ref m1, .int (nI hc), .int (nI rf), .ref m2, .ref m3, .ref m4, .ref m5, .ref m6, .ref m7, .ref m8, .long sp, .ref m9, .ref m10, .ref m11, .long ha], aI G m0 220 nw, aJ G m3 73 s3, aJ G m4 72 e4, aJ G m5 72 e5, aI G m6 72 e6, aJ G m7 72 e7, aJ G m8 12 e8, aJ G m9 72 e9, aJ G m10 72 e10, aJ G m11 72 e11]) (wr := []) (rest := []) (qc := 0) (c_X4_refusesEntry l hl G qm m0 m1 m2 m3 m4 m5 m6 m7 m8 m9 m10 m11 hc rf sp ha nw P M R n v g d s3 e4 e5 e7 e8 e9 e10 e11 e6 x (by first | assumption | omega) (by first | assumption | omega) (by first | assumption | omega) (by first | assumption | omega) (by first | assumption | omega) (by first | assumption | omega) (by first | assumption | omega) (by first | assumption | omega)) cd_X4_refusesEntry cv_X4_refusesEntry rfl rfl rfl tw_4_239 [0, 1, 2, 3, 4, 5, 6, 7, 8, 9, 10] [] rfl rfl rfl rfl (by decide) rfl ⟨(Nat.le_of_ble_eq_true rfl), (Nat.le_of_ble_eq_true rfl), (Nat.le_of_ble_eq_true rfl), (Nat.le_of_ble_eq_true rfl)⟩ (Nat.le_of_ble_eq_true rfl) rfl (dcq dc_X4_trend_0 2 rfl) ?_
  rintro _ _ h9x
  rcases h9x with ⟨sp2, k3, k4, k5, k6, k7, k8, k9, k10, k11, j_2, rfl, rfl, hd, hmp, hxj_2, hj_2⟩ | ⟨rfl, rfl, hnd⟩ | ⟨sp2, k3, k4, k5, k6, k7, k8, k9, k10, k11, rfl, rfl, hd, hmp, hx_2⟩
  · skip
    have hd : dcm P n g := hd
    have hmp : MPT P M R n v sp2 k4 k5 k6 k7 k8 k9 k10 k11 := hmp
    have hxj_2 : x = nI j_2 := hxj_2
    have hj_2 : j_2 < n := hj_2
    change J p l e (cRm 6 128 0 0) s m args below meth c G A 2 (JQ below G A (po_X4_trend G qm m0 m1 m2 m3 m4 m5 m6 m7 m8 m9 m10 m11 hc rf sp ha nw P M R n v g d s3 e4 e5 e7 e8 e9 e10 e11 e6 x) args s 0 0) 0 0 5 [(0, .ref qm), (1, .int x)] [.int (nI 0)] [oB 4 qm [.ref m0, .ref m1, .int (nI hc), .int (nI 0), .ref m2, .ref m3, .ref m4, .ref m5, .ref m6, .ref m7, .ref m8, .long sp2, .ref m9, .ref m10, .ref m11, .long ha], aI G m0 220 nw, aJ G m3 73 k3, aJ G m4 72 k4, aJ G m5 72 k5, aI G m6 72 k6, aJ G m7 72 k7, aJ G m8 12 k8, aJ G m9 72 k9, aJ G m10 72 k10, aJ G m11 72 k11]
    obtain ⟨q4, q5, q6, q7, q8, q9, q10, q11, qsp⟩ := id hmp
    have hdu := hd
    unfold dcm at hdu
    obtain ⟨h5n, hPn, hcg⟩ := hdu
    refine J_cast (lv2 := [(0, .ref qm), (1, .int (nI j_2))]) (st2 := [.int (nI 0)]) (ws2 := [oB 4 qm [.ref m0, .ref m1, .int (nI hc), .int (nI 0), .ref m2, .ref m3, .ref m4, .ref m5, .ref m6, .ref m7, .ref m8, .long sp2, .ref m9, .ref m10, .ref m11, .long ha], aI G m0 220 nw, aJ G m3 73 k3, aJ G m4 72 k4, aJ G m5 72 k5, aI G m6 72 k6, aJ G m7 72 k7, aJ G m8 12 k8, aJ G m9 72 k9, aJ G m10 72 k10, aJ G m11 72 k11]) (by rw [hxj_2]) (rfl) (rfl) ?_
    refine J_if_eq F 12 (dcq dc_X4_trend_0 3 rfl) (by decide) (fun _ => ?_) (fun h_1 => absurd h_1 (by decide))
    refine J_aload_n F 0 (dcq dc_X4_trend_0 6 rfl) rfl rfl ?_
    refine J_get F fcX4 0 13 rfl (Nat.le_of_ble_eq_true rfl) tw_3_236 rfl rfl (dcq dc_X4_trend_0 7 rfl) ?_
    refine J_iload_n F 1 (dcq dc_X4_trend_0 8 rfl) rfl rfl ?_
    refine J_lald F 9 rfl (by omega) (Nat.le_of_ble_eq_true rfl) (dcq dc_X4_trend_0 9 rfl) ?_
    exact J_lret F (Or.inl ⟨sp2, k3, k4, k5, k6, k7, k8, k9, k10, k11, j_2, k10 j_2, rfl, rfl, hd, hmp, hxj_2, hj_2, q10 j_2 hj_2⟩) (Nat.le_of_ble_eq_true rfl) (Nat.le_of_ble_eq_true rfl) (dcq dc_X4_trend_0 10 rfl)
  · skip
    have hnd : ¬ dcm P n g := hnd
    change J p l e (cRm 6 128 0 0) s m args below meth c G A 2 (JQ below G A (po_X4_trend G qm m0 m1 m2 m3 m4 m5 m6 m7 m8 m9 m10 m11 hc rf sp ha nw P M R n v g d s3 e4 e5 e7 e8 e9 e10 e11 e6 x) args s 0 0) 0 0 5 [(0, .ref qm), (1, .int x)] [.int (nI 1)] [oB 4 qm [.ref m0, .ref m1, .int (nI hc), .int (nI 1), .ref m2, .ref m3, .ref m4, .ref m5, .ref m6, .ref m7, .ref m8, .long sp, .ref m9, .ref m10, .ref m11, .long ha], aI G m0 220 nw, aJ G m3 73 s3, aJ G m4 72 e4, aJ G m5 72 e5, aI G m6 72 e6, aJ G m7 72 e7, aJ G m8 12 e8, aJ G m9 72 e9, aJ G m10 72 e10, aJ G m11 72 e11]
    refine J_if_eq F 12 (dcq dc_X4_trend_0 3 rfl) (by decide) (fun h_2 => absurd h_2 (by decide)) (fun _ => ?_)
    refine J_lconst F (dcq dc_X4_trend_0 4 rfl) lc_0 ?_
    refine J_goto F 18 (dcq dc_X4_trend_0 5 rfl) (by decide) ?_
    exact J_lret F (Or.inr (Or.inl ⟨rfl, rfl, hnd⟩)) (Nat.le_of_ble_eq_true rfl) (Nat.le_of_ble_eq_true rfl) (dcq dc_X4_trend_0 10 rfl)
  · skip
    have hd : dcm P n g := hd
    have hmp : MPT P M R n v sp2 k4 k5 k6 k7 k8 k9 k10 k11 := hmp
    have hx_2 : ∀ j, j < n → x ≠ nI j := hx_2
    change J p l e (cRm 6 128 0 0) s m args below meth c G A 2 (JQ below G A (po_X4_trend G qm m0 m1 m2 m3 m4 m5 m6 m7 m8 m9 m10 m11 hc rf sp ha nw P M R n v g d s3 e4 e5 e7 e8 e9 e10 e11 e6 x) args s 0 0) 0 0 5 [(0, .ref qm), (1, .int x)] [.int (nI 1)] [oB 4 qm [.ref m0, .ref m1, .int (nI hc), .int (nI 2), .ref m2, .ref m3, .ref m4, .ref m5, .ref m6, .ref m7, .ref m8, .long sp2, .ref m9, .ref m10, .ref m11, .long ha], aI G m0 220 nw, aJ G m3 73 k3, aJ G m4 72 k4, aJ G m5 72 k5, aI G m6 72 k6, aJ G m7 72 k7, aJ G m8 12 k8, aJ G m9 72 k9, aJ G m10 72 k10, aJ G m11 72 k11]
    obtain ⟨q4, q5, q6, q7, q8, q9, q10, q11, qsp⟩ := id hmp
    have hdu := hd
    unfold dcm at hdu
    obtain ⟨h5n, hPn, hcg⟩ := hdu
    refine J_if_eq F 12 (dcq dc_X4_trend_0 3 rfl) (by decide) (fun h_3 => absurd h_3 (by decide)) (fun _ => ?_)
    refine J_lconst F (dcq dc_X4_trend_0 4 rfl) lc_0 ?_
    refine J_goto F 18 (dcq dc_X4_trend_0 5 rfl) (by decide) ?_
    exact J_lret F (Or.inr (Or.inr (⟨sp2, k3, k4, k5, k6, k7, k8, k9, k10, k11, rfl, rfl, hd, hmp, hx_2⟩))) (Nat.le_of_ble_eq_true rfl) (Nat.le_of_ble_eq_true rfl) (dcq dc_X4_trend_0 10 rfl)

abbrev po_X4_irregular (G : Gt) (qm m0 m1 m2 m3 m4 m5 m6 m7 m8 m9 m10 m11 hc rf : Nat) (sp ha : Int64) (nw : Nat → Int32) (P M R n : Nat) (v g d : Nat → Int32) (s3 : Nat → Int64) (e4 : Nat → Int64) (e5 : Nat → Int64) (e7 : Nat → Int64) (e8 : Nat → Int64) (e9 : Nat → Int64) (e10 : Nat → Int64) (e11 : Nat → Int64) (e6 : Nat → Int32) (x : Int32) : Option Value → va_W → Prop := fun (v9 : Option Value) (w9 : va_W) => (∃ (sp2 : Int64), ∃ (k3 k4 k5 : Nat → Int64), ∃ (k6 : Nat → Int32), ∃ (k7 k8 k9 k10 k11 : Nat → Int64), ∃ (j : Nat), ∃ (r : Int64), v9 = some (.long r) ∧ w9 = [oB 4 qm [.ref m0, .ref m1, .int (nI hc), .int (nI 0), .ref m2, .ref m3, .ref m4, .ref m5, .ref m6, .ref m7, .ref m8, .long sp2, .ref m9, .ref m10, .ref m11, .long ha], aI G m0 220 nw, aJ G m3 73 k3, aJ G m4 72 k4, aJ G m5 72 k5, aI G m6 72 k6, aJ G m7 72 k7, aJ G m8 12 k8, aJ G m9 72 k9, aJ G m10 72 k10, aJ G m11 72 k11] ∧ (dcm P n g) ∧ (MPT P M R n v sp2 k4 k5 k6 k7 k8 k9 k10 k11) ∧ (x = nI j) ∧ (j < n) ∧ (r = iR P M R n v j)) ∨ (v9 = some (.long 0) ∧ w9 = [oB 4 qm [.ref m0, .ref m1, .int (nI hc), .int (nI 1), .ref m2, .ref m3, .ref m4, .ref m5, .ref m6, .ref m7, .ref m8, .long sp, .ref m9, .ref m10, .ref m11, .long ha], aI G m0 220 nw, aJ G m3 73 s3, aJ G m4 72 e4, aJ G m5 72 e5, aI G m6 72 e6, aJ G m7 72 e7, aJ G m8 12 e8, aJ G m9 72 e9, aJ G m10 72 e10, aJ G m11 72 e11] ∧ (¬ dcm P n g)) ∨ (∃ (sp2 : Int64), ∃ (k3 k4 k5 : Nat → Int64), ∃ (k6 : Nat → Int32), ∃ (k7 k8 k9 k10 k11 : Nat → Int64), v9 = some (.long 0) ∧ w9 = [oB 4 qm [.ref m0, .ref m1, .int (nI hc), .int (nI 2), .ref m2, .ref m3, .ref m4, .ref m5, .ref m6, .ref m7, .ref m8, .long sp2, .ref m9, .ref m10, .ref m11, .long ha], aI G m0 220 nw, aJ G m3 73 k3, aJ G m4 72 k4, aJ G m5 72 k5, aI G m6 72 k6, aJ G m7 72 k7, aJ G m8 12 k8, aJ G m9 72 k9, aJ G m10 72 k10, aJ G m11 72 k11] ∧ (dcm P n g) ∧ (MPT P M R n v sp2 k4 k5 k6 k7 k8 k9 k10 k11) ∧ (∀ j, j < n → x ≠ nI j))
set_option maxHeartbeats 4000000 in
set_option maxRecDepth 100000 in
theorem c_X4_irregular (l : Launch) (hl : l.stackTraces = false) (G : Gt) (qm m0 m1 m2 m3 m4 m5 m6 m7 m8 m9 m10 m11 hc rf : Nat) (sp ha : Int64) (nw : Nat → Int32) (P M R n : Nat) (v g d : Nat → Int32) (s3 : Nat → Int64) (e4 : Nat → Int64) (e5 : Nat → Int64) (e7 : Nat → Int64) (e8 : Nat → Int64) (e9 : Nat → Int64) (e10 : Nat → Int64) (e11 : Nat → Int64) (e6 : Nat → Int32) (x : Int32) (hRM : RM nw P M R n v g d) (hn : n ≤ 72) (h01 : G01 n g) (hP : 2 ≤ P) (hP12 : P ≤ 12) (hM : M ≤ 1) (hR : R ≤ 5) (hgv : GVg M n v g) : Con l G yX4_irregular cX4_irregular 2 (some .long) 6 128 0 0 [.ref qm, .int x] [oB 4 qm [.ref m0, .ref m1, .int (nI hc), .int (nI rf), .ref m2, .ref m3, .ref m4, .ref m5, .ref m6, .ref m7, .ref m8, .long sp, .ref m9, .ref m10, .ref m11, .long ha], aI G m0 220 nw, aJ G m3 73 s3, aJ G m4 72 e4, aJ G m5 72 e5, aI G m6 72 e6, aJ G m7 72 e7, aJ G m8 12 e8, aJ G m9 72 e9, aJ G m10 72 e10, aJ G m11 72 e11] (po_X4_irregular G qm m0 m1 m2 m3 m4 m5 m6 m7 m8 m9 m10 m11 hc rf sp ha nw P M R n v g d s3 e4 e5 e7 e8 e9 e10 e11 e6 x) := by
  refine Con.of hl cd_X4_irregular (Nat.le_of_ble_eq_true rfl) ?_
  intro p e s m args below meth c A F hin9
  change Fx p l s m args meth c G A "SeasonalAdjusterModel" cX4_irregular 2 (some .long) at F
  change J p l e (cRm 6 128 0 0) s m args below meth c G A 2 (JQ below G A (po_X4_irregular G qm m0 m1 m2 m3 m4 m5 m6 m7 m8 m9 m10 m11 hc rf sp ha nw P M R n v g d s3 e4 e5 e7 e8 e9 e10 e11 e6 x) args s 0 0) 0 0 0 [(0, .ref qm), (1, .int x)] [] [oB 4 qm [.ref m0, .ref m1, .int (nI hc), .int (nI rf), .ref m2, .ref m3, .ref m4, .ref m5, .ref m6, .ref m7, .ref m8, .long sp, .ref m9, .ref m10, .ref m11, .long ha], aI G m0 220 nw, aJ G m3 73 s3, aJ G m4 72 e4, aJ G m5 72 e5, aI G m6 72 e6, aJ G m7 72 e7, aJ G m8 12 e8, aJ G m9 72 e9, aJ G m10 72 e10, aJ G m11 72 e11]
  refine J_aload_n F 0 (dcq dc_X4_irregular_0 0 rfl) rfl rfl ?_
  refine J_iload_n F 1 (dcq dc_X4_irregular_0 1 rfl) rfl rfl ?_
  refine J_callV F (wc := [oB 4 qm [.ref m0, .ref m1, .int (nI hc), .int (nI rf), .ref m2, .ref m3, .ref m4, .ref m5, .ref m6, .ref m7, .ref m8, .long sp, .ref m9, .ref m10, .ref m11, .long ha], aI G m0 220 nw, aJ G m3 73 s3, aJ G m4 72 e4, aJ G m5 72 e5, aI G m6 72 e6, aJ G m7 72 e7, aJ G m8 12 e8, aJ G m9 72 e9, aJ G m10 72 e10, aJ G m11 72 e11]) (wr := []) (rest := []) (qc := 0) (c_X4_refusesEntry l hl G qm m0 m1 m2 m3 m4 m5 m6 m7 m8 m9 m10 m11 hc rf sp ha nw P M R n v g d s3 e4 e5 e7 e8 e9 e10 e11 e6 x (by first | assumption | omega) (by first | assumption | omega) (by first | assumption | omega) (by first | assumption | omega) (by first | assumption | omega) (by first | assumption | omega) (by first | assumption | omega) (by first | assumption | omega)) cd_X4_refusesEntry cv_X4_refusesEntry rfl rfl rfl tw_4_239 [0, 1, 2, 3, 4, 5, 6, 7, 8, 9, 10] [] rfl rfl rfl rfl (by decide) rfl ⟨(Nat.le_of_ble_eq_true rfl), (Nat.le_of_ble_eq_true rfl), (Nat.le_of_ble_eq_true rfl), (Nat.le_of_ble_eq_true rfl)⟩ (Nat.le_of_ble_eq_true rfl) rfl (dcq dc_X4_irregular_0 2 rfl) ?_
  rintro _ _ h9x
  rcases h9x with ⟨sp2, k3, k4, k5, k6, k7, k8, k9, k10, k11, j_2, rfl, rfl, hd, hmp, hxj_2, hj_2⟩ | ⟨rfl, rfl, hnd⟩ | ⟨sp2, k3, k4, k5, k6, k7, k8, k9, k10, k11, rfl, rfl, hd, hmp, hx_2⟩
  · skip
    have hd : dcm P n g := hd
    have hmp : MPT P M R n v sp2 k4 k5 k6 k7 k8 k9 k10 k11 := hmp
    have hxj_2 : x = nI j_2 := hxj_2
    have hj_2 : j_2 < n := hj_2
    change J p l e (cRm 6 128 0 0) s m args below meth c G A 2 (JQ below G A (po_X4_irregular G qm m0 m1 m2 m3 m4 m5 m6 m7 m8 m9 m10 m11 hc rf sp ha nw P M R n v g d s3 e4 e5 e7 e8 e9 e10 e11 e6 x) args s 0 0) 0 0 5 [(0, .ref qm), (1, .int x)] [.int (nI 0)] [oB 4 qm [.ref m0, .ref m1, .int (nI hc), .int (nI 0), .ref m2, .ref m3, .ref m4, .ref m5, .ref m6, .ref m7, .ref m8, .long sp2, .ref m9, .ref m10, .ref m11, .long ha], aI G m0 220 nw, aJ G m3 73 k3, aJ G m4 72 k4, aJ G m5 72 k5, aI G m6 72 k6, aJ G m7 72 k7, aJ G m8 12 k8, aJ G m9 72 k9, aJ G m10 72 k10, aJ G m11 72 k11]
    obtain ⟨q4, q5, q6, q7, q8, q9, q10, q11, qsp⟩ := id hmp
    have hdu := hd
    unfold dcm at hdu
    obtain ⟨h5n, hPn, hcg⟩ := hdu
    refine J_cast (lv2 := [(0, .ref qm), (1, .int (nI j_2))]) (st2 := [.int (nI 0)]) (ws2 := [oB 4 qm [.ref m0, .ref m1, .int (nI hc), .int (nI 0), .ref m2, .ref m3, .ref m4, .ref m5, .ref m6, .ref m7, .ref m8, .long sp2, .ref m9, .ref m10, .ref m11, .long ha], aI G m0 220 nw, aJ G m3 73 k3, aJ G m4 72 k4, aJ G m5 72 k5, aI G m6 72 k6, aJ G m7 72 k7, aJ G m8 12 k8, aJ G m9 72 k9, aJ G m10 72 k10, aJ G m11 72 k11]) (by rw [hxj_2]) (rfl) (rfl) ?_
    refine J_if_eq F 12 (dcq dc_X4_irregular_0 3 rfl) (by decide) (fun _ => ?_) (fun h_1 => absurd h_1 (by decide))
    refine J_aload_n F 0 (dcq dc_X4_irregular_0 6 rfl) rfl rfl ?_
    refine J_get F fcX4 0 14 rfl (Nat.le_of_ble_eq_true rfl) tw_3_237 rfl rfl (dcq dc_X4_irregular_0 7 rfl) ?_
    refine J_iload_n F 1 (dcq dc_X4_irregular_0 8 rfl) rfl rfl ?_
    refine J_lald F 10 rfl (by omega) (Nat.le_of_ble_eq_true rfl) (dcq dc_X4_irregular_0 9 rfl) ?_
    exact J_lret F (Or.inl ⟨sp2, k3, k4, k5, k6, k7, k8, k9, k10, k11, j_2, k11 j_2, rfl, rfl, hd, hmp, hxj_2, hj_2, q11 j_2 hj_2⟩) (Nat.le_of_ble_eq_true rfl) (Nat.le_of_ble_eq_true rfl) (dcq dc_X4_irregular_0 10 rfl)
  · skip
    have hnd : ¬ dcm P n g := hnd
    change J p l e (cRm 6 128 0 0) s m args below meth c G A 2 (JQ below G A (po_X4_irregular G qm m0 m1 m2 m3 m4 m5 m6 m7 m8 m9 m10 m11 hc rf sp ha nw P M R n v g d s3 e4 e5 e7 e8 e9 e10 e11 e6 x) args s 0 0) 0 0 5 [(0, .ref qm), (1, .int x)] [.int (nI 1)] [oB 4 qm [.ref m0, .ref m1, .int (nI hc), .int (nI 1), .ref m2, .ref m3, .ref m4, .ref m5, .ref m6, .ref m7, .ref m8, .long sp, .ref m9, .ref m10, .ref m11, .long ha], aI G m0 220 nw, aJ G m3 73 s3, aJ G m4 72 e4, aJ G m5 72 e5, aI G m6 72 e6, aJ G m7 72 e7, aJ G m8 12 e8, aJ G m9 72 e9, aJ G m10 72 e10, aJ G m11 72 e11]
    refine J_if_eq F 12 (dcq dc_X4_irregular_0 3 rfl) (by decide) (fun h_2 => absurd h_2 (by decide)) (fun _ => ?_)
    refine J_lconst F (dcq dc_X4_irregular_0 4 rfl) lc_0 ?_
    refine J_goto F 18 (dcq dc_X4_irregular_0 5 rfl) (by decide) ?_
    exact J_lret F (Or.inr (Or.inl ⟨rfl, rfl, hnd⟩)) (Nat.le_of_ble_eq_true rfl) (Nat.le_of_ble_eq_true rfl) (dcq dc_X4_irregular_0 10 rfl)
  · skip
    have hd : dcm P n g := hd
    have hmp : MPT P M R n v sp2 k4 k5 k6 k7 k8 k9 k10 k11 := hmp
    have hx_2 : ∀ j, j < n → x ≠ nI j := hx_2
    change J p l e (cRm 6 128 0 0) s m args below meth c G A 2 (JQ below G A (po_X4_irregular G qm m0 m1 m2 m3 m4 m5 m6 m7 m8 m9 m10 m11 hc rf sp ha nw P M R n v g d s3 e4 e5 e7 e8 e9 e10 e11 e6 x) args s 0 0) 0 0 5 [(0, .ref qm), (1, .int x)] [.int (nI 1)] [oB 4 qm [.ref m0, .ref m1, .int (nI hc), .int (nI 2), .ref m2, .ref m3, .ref m4, .ref m5, .ref m6, .ref m7, .ref m8, .long sp2, .ref m9, .ref m10, .ref m11, .long ha], aI G m0 220 nw, aJ G m3 73 k3, aJ G m4 72 k4, aJ G m5 72 k5, aI G m6 72 k6, aJ G m7 72 k7, aJ G m8 12 k8, aJ G m9 72 k9, aJ G m10 72 k10, aJ G m11 72 k11]
    obtain ⟨q4, q5, q6, q7, q8, q9, q10, q11, qsp⟩ := id hmp
    have hdu := hd
    unfold dcm at hdu
    obtain ⟨h5n, hPn, hcg⟩ := hdu
    refine J_if_eq F 12 (dcq dc_X4_irregular_0 3 rfl) (by decide) (fun h_3 => absurd h_3 (by decide)) (fun _ => ?_)
    refine J_lconst F (dcq dc_X4_irregular_0 4 rfl) lc_0 ?_
    refine J_goto F 18 (dcq dc_X4_irregular_0 5 rfl) (by decide) ?_
    exact J_lret F (Or.inr (Or.inr (⟨sp2, k3, k4, k5, k6, k7, k8, k9, k10, k11, rfl, rfl, hd, hmp, hx_2⟩))) (Nat.le_of_ble_eq_true rfl) (Nat.le_of_ble_eq_true rfl) (dcq dc_X4_irregular_0 10 rfl)

abbrev po_X4_spread (G : Gt) (qm m0 m1 m2 m3 m4 m5 m6 m7 m8 m9 m10 m11 hc rf : Nat) (sp ha : Int64) (nw : Nat → Int32) (P M R n : Nat) (v g d : Nat → Int32) (s3 : Nat → Int64) (e4 : Nat → Int64) (e5 : Nat → Int64) (e7 : Nat → Int64) (e8 : Nat → Int64) (e9 : Nat → Int64) (e10 : Nat → Int64) (e11 : Nat → Int64) (e6 : Nat → Int32) : Option Value → va_W → Prop := fun (v9 : Option Value) (w9 : va_W) => (∃ (sp2 : Int64), ∃ (k3 k4 k5 : Nat → Int64), ∃ (k6 : Nat → Int32), ∃ (k7 k8 k9 k10 k11 : Nat → Int64), ∃ (r : Int64), v9 = some (.long r) ∧ w9 = [oB 4 qm [.ref m0, .ref m1, .int (nI hc), .int (nI 0), .ref m2, .ref m3, .ref m4, .ref m5, .ref m6, .ref m7, .ref m8, .long sp2, .ref m9, .ref m10, .ref m11, .long ha], aI G m0 220 nw, aJ G m3 73 k3, aJ G m4 72 k4, aJ G m5 72 k5, aI G m6 72 k6, aJ G m7 72 k7, aJ G m8 12 k8, aJ G m9 72 k9, aJ G m10 72 k10, aJ G m11 72 k11] ∧ (dcm P n g) ∧ (MPT P M R n v sp2 k4 k5 k6 k7 k8 k9 k10 k11) ∧ (r = wid P M (P / 2) n v (wR P M R n v))) ∨ (v9 = some (.long 0) ∧ w9 = [oB 4 qm [.ref m0, .ref m1, .int (nI hc), .int (nI 1), .ref m2, .ref m3, .ref m4, .ref m5, .ref m6, .ref m7, .ref m8, .long sp, .ref m9, .ref m10, .ref m11, .long ha], aI G m0 220 nw, aJ G m3 73 s3, aJ G m4 72 e4, aJ G m5 72 e5, aI G m6 72 e6, aJ G m7 72 e7, aJ G m8 12 e8, aJ G m9 72 e9, aJ G m10 72 e10, aJ G m11 72 e11] ∧ (¬ dcm P n g))
set_option maxHeartbeats 4000000 in
set_option maxRecDepth 100000 in
theorem c_X4_spread (l : Launch) (hl : l.stackTraces = false) (G : Gt) (qm m0 m1 m2 m3 m4 m5 m6 m7 m8 m9 m10 m11 hc rf : Nat) (sp ha : Int64) (nw : Nat → Int32) (P M R n : Nat) (v g d : Nat → Int32) (s3 : Nat → Int64) (e4 : Nat → Int64) (e5 : Nat → Int64) (e7 : Nat → Int64) (e8 : Nat → Int64) (e9 : Nat → Int64) (e10 : Nat → Int64) (e11 : Nat → Int64) (e6 : Nat → Int32) (hRM : RM nw P M R n v g d) (hn : n ≤ 72) (h01 : G01 n g) (hP : 2 ≤ P) (hP12 : P ≤ 12) (hM : M ≤ 1) (hR : R ≤ 5) (hgv : GVg M n v g) : Con l G yX4_spread cX4_spread 1 (some .long) 5 107 0 0 [.ref qm] [oB 4 qm [.ref m0, .ref m1, .int (nI hc), .int (nI rf), .ref m2, .ref m3, .ref m4, .ref m5, .ref m6, .ref m7, .ref m8, .long sp, .ref m9, .ref m10, .ref m11, .long ha], aI G m0 220 nw, aJ G m3 73 s3, aJ G m4 72 e4, aJ G m5 72 e5, aI G m6 72 e6, aJ G m7 72 e7, aJ G m8 12 e8, aJ G m9 72 e9, aJ G m10 72 e10, aJ G m11 72 e11] (po_X4_spread G qm m0 m1 m2 m3 m4 m5 m6 m7 m8 m9 m10 m11 hc rf sp ha nw P M R n v g d s3 e4 e5 e7 e8 e9 e10 e11 e6) := by
  refine Con.of hl cd_X4_spread (Nat.le_of_ble_eq_true rfl) ?_
  intro p e s m args below meth c A F hin9
  change Fx p l s m args meth c G A "SeasonalAdjusterModel" cX4_spread 1 (some .long) at F
  change J p l e (cRm 5 107 0 0) s m args below meth c G A 1 (JQ below G A (po_X4_spread G qm m0 m1 m2 m3 m4 m5 m6 m7 m8 m9 m10 m11 hc rf sp ha nw P M R n v g d s3 e4 e5 e7 e8 e9 e10 e11 e6) args s 0 0) 0 0 0 [(0, .ref qm)] [] [oB 4 qm [.ref m0, .ref m1, .int (nI hc), .int (nI rf), .ref m2, .ref m3, .ref m4, .ref m5, .ref m6, .ref m7, .ref m8, .long sp, .ref m9, .ref m10, .ref m11, .long ha], aI G m0 220 nw, aJ G m3 73 s3, aJ G m4 72 e4, aJ G m5 72 e5, aI G m6 72 e6, aJ G m7 72 e7, aJ G m8 12 e8, aJ G m9 72 e9, aJ G m10 72 e10, aJ G m11 72 e11]
  refine J_aload_n F 0 (dcq dc_X4_spread_0 0 rfl) rfl rfl ?_
  refine J_aload_n F 0 (dcq dc_X4_spread_0 1 rfl) rfl rfl ?_
  refine J_callV F (wc := [oB 4 qm [.ref m0, .ref m1, .int (nI hc), .int (nI rf), .ref m2, .ref m3, .ref m4, .ref m5, .ref m6, .ref m7, .ref m8, .long sp, .ref m9, .ref m10, .ref m11, .long ha], aI G m0 220 nw, aJ G m3 73 s3, aJ G m4 72 e4, aJ G m5 72 e5, aI G m6 72 e6, aJ G m7 72 e7, aJ G m8 12 e8, aJ G m9 72 e9, aJ G m10 72 e10, aJ G m11 72 e11]) (wr := []) (rest := [.ref qm]) (qc := 0) (c_X4_decomposes l hl G qm m0 m1 m2 m3 m4 m5 m6 m7 m8 m9 m10 m11 hc rf sp ha nw P M R n v g d s3 e4 e5 e7 e8 e9 e10 e11 e6 (by first | assumption | omega) (by first | assumption | omega) (by first | assumption | omega) (by first | assumption | omega) (by first | assumption | omega) (by first | assumption | omega) (by first | assumption | omega) (by first | assumption | omega)) cd_X4_decomposes cv_X4_decomposes rfl rfl rfl tw_4_172 [0, 1, 2, 3, 4, 5, 6, 7, 8, 9, 10] [] rfl rfl rfl rfl (by decide) rfl ⟨(Nat.le_of_ble_eq_true rfl), (Nat.le_of_ble_eq_true rfl), (Nat.le_of_ble_eq_true rfl), (Nat.le_of_ble_eq_true rfl)⟩ (Nat.le_of_ble_eq_true rfl) rfl (dcq dc_X4_spread_0 2 rfl) ?_
  rintro _ _ h9x
  rcases h9x with ⟨sp2, k3, k4, k5, k6, k7, k8, k9, k10, k11, rfl, rfl, hd, hmp⟩ | ⟨rfl, rfl, hnd⟩
  · skip
    have hd : dcm P n g := hd
    have hmp : MPT P M R n v sp2 k4 k5 k6 k7 k8 k9 k10 k11 := hmp
    change J p l e (cRm 5 107 0 0) s m args below meth c G A 1 (JQ below G A (po_X4_spread G qm m0 m1 m2 m3 m4 m5 m6 m7 m8 m9 m10 m11 hc rf sp ha nw P M R n v g d s3 e4 e5 e7 e8 e9 e10 e11 e6) args s 0 0) 0 0 5 [(0, .ref qm)] [.int (nI 1), .ref qm] [oB 4 qm [.ref m0, .ref m1, .int (nI hc), .int (nI rf), .ref m2, .ref m3, .ref m4, .ref m5, .ref m6, .ref m7, .ref m8, .long sp2, .ref m9, .ref m10, .ref m11, .long ha], aI G m0 220 nw, aJ G m3 73 k3, aJ G m4 72 k4, aJ G m5 72 k5, aI G m6 72 k6, aJ G m7 72 k7, aJ G m8 12 k8, aJ G m9 72 k9, aJ G m10 72 k10, aJ G m11 72 k11]
    obtain ⟨q4, q5, q6, q7, q8, q9, q10, q11, qsp⟩ := id hmp
    have hdu := hd
    unfold dcm at hdu
    obtain ⟨h5n, hPn, hcg⟩ := hdu
    refine J_if_eq F 12 (dcq dc_X4_spread_0 3 rfl) (by decide) (fun h_1 => absurd h_1 (by decide)) (fun _ => ?_)
    refine J_iconst F (dcq dc_X4_spread_0 4 rfl) ic_0 ?_
    refine J_goto F 13 (dcq dc_X4_spread_0 5 rfl) (by decide) ?_
    refine J_callV F (wc := [oB 4 qm [.ref m0, .ref m1, .int (nI hc), .int (nI rf), .ref m2, .ref m3, .ref m4, .ref m5, .ref m6, .ref m7, .ref m8, .long sp2, .ref m9, .ref m10, .ref m11, .long ha]]) (wr := [aI G m0 220 nw, aJ G m3 73 k3, aJ G m4 72 k4, aJ G m5 72 k5, aI G m6 72 k6, aJ G m7 72 k7, aJ G m8 12 k8, aJ G m9 72 k9, aJ G m10 72 k10, aJ G m11 72 k11]) (rest := []) (qc := 0) (c_X4_refused_0 l hl G qm m0 m1 m2 m3 m4 m5 m6 m7 m8 m9 m10 m11 hc rf sp2 ha) cd_X4_refused cv_X4_refused rfl rfl rfl tw_4_40 [0] [1, 2, 3, 4, 5, 6, 7, 8, 9, 10] rfl rfl rfl rfl (by decide) rfl ⟨(Nat.le_of_ble_eq_true rfl), (Nat.le_of_ble_eq_true rfl), (Nat.le_of_ble_eq_true rfl), (Nat.le_of_ble_eq_true rfl)⟩ (Nat.le_of_ble_eq_true rfl) rfl (dcq dc_X4_spread_0 7 rfl) ?_
    rintro _ _ ⟨rfl, rfl⟩
    change J p l e (cRm 5 107 0 0) s m args below meth c G A 1 (JQ below G A (po_X4_spread G qm m0 m1 m2 m3 m4 m5 m6 m7 m8 m9 m10 m11 hc rf sp ha nw P M R n v g d s3 e4 e5 e7 e8 e9 e10 e11 e6) args s 0 0) 0 0 16 [(0, .ref qm)] [.int (nI 0)] [aI G m0 220 nw, aJ G m3 73 k3, aJ G m4 72 k4, aJ G m5 72 k5, aI G m6 72 k6, aJ G m7 72 k7, aJ G m8 12 k8, aJ G m9 72 k9, aJ G m10 72 k10, aJ G m11 72 k11, oB 4 qm [.ref m0, .ref m1, .int (nI hc), .int (nI 0), .ref m2, .ref m3, .ref m4, .ref m5, .ref m6, .ref m7, .ref m8, .long sp2, .ref m9, .ref m10, .ref m11, .long ha]]
    refine J_world (ws2 := [oB 4 qm [.ref m0, .ref m1, .int (nI hc), .int (nI 0), .ref m2, .ref m3, .ref m4, .ref m5, .ref m6, .ref m7, .ref m8, .long sp2, .ref m9, .ref m10, .ref m11, .long ha], aI G m0 220 nw, aJ G m3 73 k3, aJ G m4 72 k4, aJ G m5 72 k5, aI G m6 72 k6, aJ G m7 72 k7, aJ G m8 12 k8, aJ G m9 72 k9, aJ G m10 72 k10, aJ G m11 72 k11]) [10, 0, 1, 2, 3, 4, 5, 6, 7, 8, 9] rfl rfl ?_
    refine J_if_eq F 23 (dcq dc_X4_spread_0 8 rfl) (by decide) (fun _ => ?_) (fun h_2 => absurd h_2 (by decide))
    refine J_aload_n F 0 (dcq dc_X4_spread_0 11 rfl) rfl rfl ?_
    refine J_get F fcX4 0 11 rfl (Nat.le_of_ble_eq_true rfl) tw_3_234 rfl rfl (dcq dc_X4_spread_0 12 rfl) ?_
    exact J_lret F (Or.inl ⟨sp2, k3, k4, k5, k6, k7, k8, k9, k10, k11, sp2, rfl, rfl, hd, hmp, qsp⟩) (Nat.le_of_ble_eq_true rfl) (Nat.le_of_ble_eq_true rfl) (dcq dc_X4_spread_0 13 rfl)
  · skip
    have hnd : ¬ dcm P n g := hnd
    change J p l e (cRm 5 107 0 0) s m args below meth c G A 1 (JQ below G A (po_X4_spread G qm m0 m1 m2 m3 m4 m5 m6 m7 m8 m9 m10 m11 hc rf sp ha nw P M R n v g d s3 e4 e5 e7 e8 e9 e10 e11 e6) args s 0 0) 0 0 5 [(0, .ref qm)] [.int (nI 0), .ref qm] [oB 4 qm [.ref m0, .ref m1, .int (nI hc), .int (nI rf), .ref m2, .ref m3, .ref m4, .ref m5, .ref m6, .ref m7, .ref m8, .long sp, .ref m9, .ref m10, .ref m11, .long ha], aI G m0 220 nw, aJ G m3 73 s3, aJ G m4 72 e4, aJ G m5 72 e5, aI G m6 72 e6, aJ G m7 72 e7, aJ G m8 12 e8, aJ G m9 72 e9, aJ G m10 72 e10, aJ G m11 72 e11]
    refine J_if_eq F 12 (dcq dc_X4_spread_0 3 rfl) (by decide) (fun _ => ?_) (fun h_3 => absurd h_3 (by decide))
    refine J_iconst F (dcq dc_X4_spread_0 6 rfl) ic_1 ?_
    refine J_callV F (wc := [oB 4 qm [.ref m0, .ref m1, .int (nI hc), .int (nI rf), .ref m2, .ref m3, .ref m4, .ref m5, .ref m6, .ref m7, .ref m8, .long sp, .ref m9, .ref m10, .ref m11, .long ha]]) (wr := [aI G m0 220 nw, aJ G m3 73 s3, aJ G m4 72 e4, aJ G m5 72 e5, aI G m6 72 e6, aJ G m7 72 e7, aJ G m8 12 e8, aJ G m9 72 e9, aJ G m10 72 e10, aJ G m11 72 e11]) (rest := []) (qc := 0) (c_X4_refused_1 l hl G qm m0 m1 m2 m3 m4 m5 m6 m7 m8 m9 m10 m11 hc rf sp ha) cd_X4_refused cv_X4_refused rfl rfl rfl tw_4_40 [0] [1, 2, 3, 4, 5, 6, 7, 8, 9, 10] rfl rfl rfl rfl (by decide) rfl ⟨(Nat.le_of_ble_eq_true rfl), (Nat.le_of_ble_eq_true rfl), (Nat.le_of_ble_eq_true rfl), (Nat.le_of_ble_eq_true rfl)⟩ (Nat.le_of_ble_eq_true rfl) rfl (dcq dc_X4_spread_0 7 rfl) ?_
    rintro _ _ ⟨rfl, rfl⟩
    change J p l e (cRm 5 107 0 0) s m args below meth c G A 1 (JQ below G A (po_X4_spread G qm m0 m1 m2 m3 m4 m5 m6 m7 m8 m9 m10 m11 hc rf sp ha nw P M R n v g d s3 e4 e5 e7 e8 e9 e10 e11 e6) args s 0 0) 0 0 16 [(0, .ref qm)] [.int (nI 1)] [aI G m0 220 nw, aJ G m3 73 s3, aJ G m4 72 e4, aJ G m5 72 e5, aI G m6 72 e6, aJ G m7 72 e7, aJ G m8 12 e8, aJ G m9 72 e9, aJ G m10 72 e10, aJ G m11 72 e11, oB 4 qm [.ref m0, .ref m1, .int (nI hc), .int (nI 1), .ref m2, .ref m3, .ref m4, .ref m5, .ref m6, .ref m7, .ref m8, .long sp, .ref m9, .ref m10, .ref m11, .long ha]]
    refine J_world (ws2 := [oB 4 qm [.ref m0, .ref m1, .int (nI hc), .int (nI 1), .ref m2, .ref m3, .ref m4, .ref m5, .ref m6, .ref m7, .ref m8, .long sp, .ref m9, .ref m10, .ref m11, .long ha], aI G m0 220 nw, aJ G m3 73 s3, aJ G m4 72 e4, aJ G m5 72 e5, aI G m6 72 e6, aJ G m7 72 e7, aJ G m8 12 e8, aJ G m9 72 e9, aJ G m10 72 e10, aJ G m11 72 e11]) [10, 0, 1, 2, 3, 4, 5, 6, 7, 8, 9] rfl rfl ?_
    refine J_if_eq F 23 (dcq dc_X4_spread_0 8 rfl) (by decide) (fun h_4 => absurd h_4 (by decide)) (fun _ => ?_)
    refine J_lconst F (dcq dc_X4_spread_0 9 rfl) lc_0 ?_
    refine J_goto F 27 (dcq dc_X4_spread_0 10 rfl) (by decide) ?_
    exact J_lret F (Or.inr (⟨rfl, rfl, hnd⟩)) (Nat.le_of_ble_eq_true rfl) (Nat.le_of_ble_eq_true rfl) (dcq dc_X4_spread_0 13 rfl)

abbrev po_X4_factor (G : Gt) (qm m0 m1 m2 m3 m4 m5 m6 m7 m8 m9 m10 m11 hc rf : Nat) (sp ha : Int64) (nw : Nat → Int32) (P M R n : Nat) (v g d : Nat → Int32) (s3 : Nat → Int64) (e4 : Nat → Int64) (e5 : Nat → Int64) (e7 : Nat → Int64) (e8 : Nat → Int64) (e9 : Nat → Int64) (e10 : Nat → Int64) (e11 : Nat → Int64) (e6 : Nat → Int32) (x : Int32) : Option Value → va_W → Prop := fun (v9 : Option Value) (w9 : va_W) => (∃ (sp2 : Int64), ∃ (k3 k4 k5 : Nat → Int64), ∃ (k6 : Nat → Int32), ∃ (k7 k8 k9 k10 k11 : Nat → Int64), ∃ (j : Nat), ∃ (r : Int64), v9 = some (.long r) ∧ w9 = [oB 4 qm [.ref m0, .ref m1, .int (nI hc), .int (nI 0), .ref m2, .ref m3, .ref m4, .ref m5, .ref m6, .ref m7, .ref m8, .long sp2, .ref m9, .ref m10, .ref m11, .long ha], aI G m0 220 nw, aJ G m3 73 k3, aJ G m4 72 k4, aJ G m5 72 k5, aI G m6 72 k6, aJ G m7 72 k7, aJ G m8 12 k8, aJ G m9 72 k9, aJ G m10 72 k10, aJ G m11 72 k11] ∧ (dcm P n g) ∧ (MPT P M R n v sp2 k4 k5 k6 k7 k8 k9 k10 k11) ∧ (x = nI j) ∧ (j < P) ∧ (r = fR P M R n v j)) ∨ (v9 = some (.long 0) ∧ w9 = [oB 4 qm [.ref m0, .ref m1, .int (nI hc), .int (nI 1), .ref m2, .ref m3, .ref m4, .ref m5, .ref m6, .ref m7, .ref m8, .long sp, .ref m9, .ref m10, .ref m11, .long ha], aI G m0 220 nw, aJ G m3 73 s3, aJ G m4 72 e4, aJ G m5 72 e5, aI G m6 72 e6, aJ G m7 72 e7, aJ G m8 12 e8, aJ G m9 72 e9, aJ G m10 72 e10, aJ G m11 72 e11] ∧ (∀ j, j < P → x ≠ nI j)) ∨ (∃ (j : Nat), v9 = some (.long 0) ∧ w9 = [oB 4 qm [.ref m0, .ref m1, .int (nI hc), .int (nI 2), .ref m2, .ref m3, .ref m4, .ref m5, .ref m6, .ref m7, .ref m8, .long sp, .ref m9, .ref m10, .ref m11, .long ha], aI G m0 220 nw, aJ G m3 73 s3, aJ G m4 72 e4, aJ G m5 72 e5, aI G m6 72 e6, aJ G m7 72 e7, aJ G m8 12 e8, aJ G m9 72 e9, aJ G m10 72 e10, aJ G m11 72 e11] ∧ (¬ dcm P n g) ∧ (x = nI j) ∧ (j < P))
set_option maxHeartbeats 4000000 in
set_option maxRecDepth 100000 in
theorem c_X4_factor (l : Launch) (hl : l.stackTraces = false) (G : Gt) (qm m0 m1 m2 m3 m4 m5 m6 m7 m8 m9 m10 m11 hc rf : Nat) (sp ha : Int64) (nw : Nat → Int32) (P M R n : Nat) (v g d : Nat → Int32) (s3 : Nat → Int64) (e4 : Nat → Int64) (e5 : Nat → Int64) (e7 : Nat → Int64) (e8 : Nat → Int64) (e9 : Nat → Int64) (e10 : Nat → Int64) (e11 : Nat → Int64) (e6 : Nat → Int32) (x : Int32) (hRM : RM nw P M R n v g d) (hn : n ≤ 72) (h01 : G01 n g) (hP : 2 ≤ P) (hP12 : P ≤ 12) (hM : M ≤ 1) (hR : R ≤ 5) (hgv : GVg M n v g) : Con l G yX4_factor cX4_factor 2 (some .long) 5 107 0 0 [.ref qm, .int x] [oB 4 qm [.ref m0, .ref m1, .int (nI hc), .int (nI rf), .ref m2, .ref m3, .ref m4, .ref m5, .ref m6, .ref m7, .ref m8, .long sp, .ref m9, .ref m10, .ref m11, .long ha], aI G m0 220 nw, aJ G m3 73 s3, aJ G m4 72 e4, aJ G m5 72 e5, aI G m6 72 e6, aJ G m7 72 e7, aJ G m8 12 e8, aJ G m9 72 e9, aJ G m10 72 e10, aJ G m11 72 e11] (po_X4_factor G qm m0 m1 m2 m3 m4 m5 m6 m7 m8 m9 m10 m11 hc rf sp ha nw P M R n v g d s3 e4 e5 e7 e8 e9 e10 e11 e6 x) := by
  refine Con.of hl cd_X4_factor (Nat.le_of_ble_eq_true rfl) ?_
  intro p e s m args below meth c A F hin9
  change Fx p l s m args meth c G A "SeasonalAdjusterModel" cX4_factor 2 (some .long) at F
  change J p l e (cRm 5 107 0 0) s m args below meth c G A 2 (JQ below G A (po_X4_factor G qm m0 m1 m2 m3 m4 m5 m6 m7 m8 m9 m10 m11 hc rf sp ha nw P M R n v g d s3 e4 e5 e7 e8 e9 e10 e11 e6 x) args s 0 0) 0 0 0 [(0, .ref qm), (1, .int x)] [] [oB 4 qm [.ref m0, .ref m1, .int (nI hc), .int (nI rf), .ref m2, .ref m3, .ref m4, .ref m5, .ref m6, .ref m7, .ref m8, .long sp, .ref m9, .ref m10, .ref m11, .long ha], aI G m0 220 nw, aJ G m3 73 s3, aJ G m4 72 e4, aJ G m5 72 e5, aI G m6 72 e6, aJ G m7 72 e7, aJ G m8 12 e8, aJ G m9 72 e9, aJ G m10 72 e10, aJ G m11 72 e11]
  refine J_aload_n F 0 (dcq dc_X4_factor_0 0 rfl) rfl rfl ?_
  refine J_aload_n F 0 (dcq dc_X4_factor_0 1 rfl) rfl rfl ?_
  refine J_iload_n F 1 (dcq dc_X4_factor_0 2 rfl) rfl rfl ?_
  refine J_callV F (wc := [oB 4 qm [.ref m0, .ref m1, .int (nI hc), .int (nI rf), .ref m2, .ref m3, .ref m4, .ref m5, .ref m6, .ref m7, .ref m8, .long sp, .ref m9, .ref m10, .ref m11, .long ha], aI G m0 220 nw]) (wr := [aJ G m3 73 s3, aJ G m4 72 e4, aJ G m5 72 e5, aI G m6 72 e6, aJ G m7 72 e7, aJ G m8 12 e8, aJ G m9 72 e9, aJ G m10 72 e10, aJ G m11 72 e11]) (rest := [.ref qm]) (qc := 0) (c_X4_isSeason l hl G qm m0 m1 m2 m3 m4 m5 m6 m7 m8 m9 m10 m11 hc rf sp ha nw P M R n v g d x (by first | assumption | omega) (by first | assumption | omega) (by first | assumption | omega)) cd_X4_isSeason cv_X4_isSeason rfl rfl rfl tw_4_231 [0, 1] [2, 3, 4, 5, 6, 7, 8, 9, 10] rfl rfl rfl rfl (by decide) rfl ⟨(Nat.le_of_ble_eq_true rfl), (Nat.le_of_ble_eq_true rfl), (Nat.le_of_ble_eq_true rfl), (Nat.le_of_ble_eq_true rfl)⟩ (Nat.le_of_ble_eq_true rfl) rfl (dcq dc_X4_factor_0 3 rfl) ?_
  rintro _ _ h9x
  rcases h9x with ⟨j_3, rfl, rfl, hxj_3, hj_3⟩ | ⟨rfl, rfl, hx_3⟩
  · skip
    have hxj_3 : x = nI j_3 := hxj_3
    have hj_3 : j_3 < P := hj_3
    change J p l e (cRm 5 107 0 0) s m args below meth c G A 2 (JQ below G A (po_X4_factor G qm m0 m1 m2 m3 m4 m5 m6 m7 m8 m9 m10 m11 hc rf sp ha nw P M R n v g d s3 e4 e5 e7 e8 e9 e10 e11 e6 x) args s 0 0) 0 0 6 [(0, .ref qm), (1, .int x)] [.int (nI 1), .ref qm] [aJ G m3 73 s3, aJ G m4 72 e4, aJ G m5 72 e5, aI G m6 72 e6, aJ G m7 72 e7, aJ G m8 12 e8, aJ G m9 72 e9, aJ G m10 72 e10, aJ G m11 72 e11, oB 4 qm [.ref m0, .ref m1, .int (nI hc), .int (nI rf), .ref m2, .ref m3, .ref m4, .ref m5, .ref m6, .ref m7, .ref m8, .long sp, .ref m9, .ref m10, .ref m11, .long ha], aI G m0 220 nw]
    refine J_world (ws2 := [oB 4 qm [.ref m0, .ref m1, .int (nI hc), .int (nI rf), .ref m2, .ref m3, .ref m4, .ref m5, .ref m6, .ref m7, .ref m8, .long sp, .ref m9, .ref m10, .ref m11, .long ha], aI G m0 220 nw, aJ G m3 73 s3, aJ G m4 72 e4, aJ G m5 72 e5, aI G m6 72 e6, aJ G m7 72 e7, aJ G m8 12 e8, aJ G m9 72 e9, aJ G m10 72 e10, aJ G m11 72 e11]) [9, 10, 0, 1, 2, 3, 4, 5, 6, 7, 8] rfl rfl ?_
    refine J_cast (lv2 := [(0, .ref qm), (1, .int (nI j_3))]) (st2 := [.int (nI 1), .ref qm]) (ws2 := [oB 4 qm [.ref m0, .ref m1, .int (nI hc), .int (nI rf), .ref m2, .ref m3, .ref m4, .ref m5, .ref m6, .ref m7, .ref m8, .long sp, .ref m9, .ref m10, .ref m11, .long ha], aI G m0 220 nw, aJ G m3 73 s3, aJ G m4 72 e4, aJ G m5 72 e5, aI G m6 72 e6, aJ G m7 72 e7, aJ G m8 12 e8, aJ G m9 72 e9, aJ G m10 72 e10, aJ G m11 72 e11]) (by rw [hxj_3]) (rfl) (rfl) ?_
    refine J_if_ne F 13 (dcq dc_X4_factor_0 4 rfl) (by decide) (fun _ => ?_) (fun h_1 => absurd h_1 (by decide))
    refine J_aload_n F 0 (dcq dc_X4_factor_0 7 rfl) rfl rfl ?_
    refine J_callV F (wc := [oB 4 qm [.ref m0, .ref m1, .int (nI hc), .int (nI rf), .ref m2, .ref m3, .ref m4, .ref m5, .ref m6, .ref m7, .ref m8, .long sp, .ref m9, .ref m10, .ref m11, .long ha], aI G m0 220 nw, aJ G m3 73 s3, aJ G m4 72 e4, aJ G m5 72 e5, aI G m6 72 e6, aJ G m7 72 e7, aJ G m8 12 e8, aJ G m9 72 e9, aJ G m10 72 e10, aJ G m11 72 e11]) (wr := []) (rest := [.ref qm]) (qc := 0) (c_X4_decomposes l hl G qm m0 m1 m2 m3 m4 m5 m6 m7 m8 m9 m10 m11 hc rf sp ha nw P M R n v g d s3 e4 e5 e7 e8 e9 e10 e11 e6 (by first | assumption | omega) (by first | assumption | omega) (by first | assumption | omega) (by first | assumption | omega) (by first | assumption | omega) (by first | assumption | omega) (by first | assumption | omega) (by first | assumption | omega)) cd_X4_decomposes cv_X4_decomposes rfl rfl rfl tw_4_172 [0, 1, 2, 3, 4, 5, 6, 7, 8, 9, 10] [] rfl rfl rfl rfl (by decide) rfl ⟨(Nat.le_of_ble_eq_true rfl), (Nat.le_of_ble_eq_true rfl), (Nat.le_of_ble_eq_true rfl), (Nat.le_of_ble_eq_true rfl)⟩ (Nat.le_of_ble_eq_true rfl) rfl (dcq dc_X4_factor_0 8 rfl) ?_
    rintro _ _ h9x
    rcases h9x with ⟨sp2, k3, k4, k5, k6, k7, k8, k9, k10, k11, rfl, rfl, hd, hmp⟩ | ⟨rfl, rfl, hnd⟩
    · skip
      have hd : dcm P n g := hd
      have hmp : MPT P M R n v sp2 k4 k5 k6 k7 k8 k9 k10 k11 := hmp
      change J p l e (cRm 5 107 0 0) s m args below meth c G A 2 (JQ below G A (po_X4_factor G qm m0 m1 m2 m3 m4 m5 m6 m7 m8 m9 m10 m11 hc rf sp ha nw P M R n v g d s3 e4 e5 e7 e8 e9 e10 e11 e6 x) args s 0 0) 0 0 17 [(0, .ref qm), (1, .int (nI j_3))] [.int (nI 1), .ref qm] [oB 4 qm [.ref m0, .ref m1, .int (nI hc), .int (nI rf), .ref m2, .ref m3, .ref m4, .ref m5, .ref m6, .ref m7, .ref m8, .long sp2, .ref m9, .ref m10, .ref m11, .long ha], aI G m0 220 nw, aJ G m3 73 k3, aJ G m4 72 k4, aJ G m5 72 k5, aI G m6 72 k6, aJ G m7 72 k7, aJ G m8 12 k8, aJ G m9 72 k9, aJ G m10 72 k10, aJ G m11 72 k11]
      obtain ⟨q4, q5, q6, q7, q8, q9, q10, q11, qsp⟩ := id hmp
      have hdu := hd
      unfold dcm at hdu
      obtain ⟨h5n, hPn, hcg⟩ := hdu
      refine J_if_eq F 24 (dcq dc_X4_factor_0 9 rfl) (by decide) (fun h_2 => absurd h_2 (by decide)) (fun _ => ?_)
      refine J_iconst F (dcq dc_X4_factor_0 10 rfl) ic_0 ?_
      refine J_goto F 25 (dcq dc_X4_factor_0 11 rfl) (by decide) ?_
      refine J_callV F (wc := [oB 4 qm [.ref m0, .ref m1, .int (nI hc), .int (nI rf), .ref m2, .ref m3, .ref m4, .ref m5, .ref m6, .ref m7, .ref m8, .long sp2, .ref m9, .ref m10, .ref m11, .long ha]]) (wr := [aI G m0 220 nw, aJ G m3 73 k3, aJ G m4 72 k4, aJ G m5 72 k5, aI G m6 72 k6, aJ G m7 72 k7, aJ G m8 12 k8, aJ G m9 72 k9, aJ G m10 72 k10, aJ G m11 72 k11]) (rest := []) (qc := 0) (c_X4_refused_0 l hl G qm m0 m1 m2 m3 m4 m5 m6 m7 m8 m9 m10 m11 hc rf sp2 ha) cd_X4_refused cv_X4_refused rfl rfl rfl tw_4_40 [0] [1, 2, 3, 4, 5, 6, 7, 8, 9, 10] rfl rfl rfl rfl (by decide) rfl ⟨(Nat.le_of_ble_eq_true rfl), (Nat.le_of_ble_eq_true rfl), (Nat.le_of_ble_eq_true rfl), (Nat.le_of_ble_eq_true rfl)⟩ (Nat.le_of_ble_eq_true rfl) rfl (dcq dc_X4_factor_0 13 rfl) ?_
      rintro _ _ ⟨rfl, rfl⟩
      change J p l e (cRm 5 107 0 0) s m args below meth c G A 2 (JQ below G A (po_X4_factor G qm m0 m1 m2 m3 m4 m5 m6 m7 m8 m9 m10 m11 hc rf sp ha nw P M R n v g d s3 e4 e5 e7 e8 e9 e10 e11 e6 x) args s 0 0) 0 0 28 [(0, .ref qm), (1, .int (nI j_3))] [.int (nI 0)] [aI G m0 220 nw, aJ G m3 73 k3, aJ G m4 72 k4, aJ G m5 72 k5, aI G m6 72 k6, aJ G m7 72 k7, aJ G m8 12 k8, aJ G m9 72 k9, aJ G m10 72 k10, aJ G m11 72 k11, oB 4 qm [.ref m0, .ref m1, .int (nI hc), .int (nI 0), .ref m2, .ref m3, .ref m4, .ref m5, .ref m6, .ref m7, .ref m8, .long sp2, .ref m9, .ref m10, .ref m11, .long ha]]
      refine J_world (ws2 := [oB 4 qm [.ref m0, .ref m1, .int (nI hc), .int (nI 0), .ref m2, .ref m3, .ref m4, .ref m5, .ref m6, .ref m7, .ref m8, .long sp2, .ref m9, .ref m10, .ref m11, .long ha], aI G m0 220 nw, aJ G m3 73 k3, aJ G m4 72 k4, aJ G m5 72 k5, aI G m6 72 k6, aJ G m7 72 k7, aJ G m8 12 k8, aJ G m9 72 k9, aJ G m10 72 k10, aJ G m11 72 k11]) [10, 0, 1, 2, 3, 4, 5, 6, 7, 8, 9] rfl rfl ?_
      refine J_if_eq F 35 (dcq dc_X4_factor_0 14 rfl) (by decide) (fun _ => ?_) (fun h_3 => absurd h_3 (by decide))
      refine J_aload_n F 0 (dcq dc_X4_factor_0 17 rfl) rfl rfl ?_
      refine J_get F fcX4 0 10 rfl (Nat.le_of_ble_eq_true rfl) tw_3_233 rfl rfl (dcq dc_X4_factor_0 18 rfl) ?_
      refine J_iload_n F 1 (dcq dc_X4_factor_0 19 rfl) rfl rfl ?_
      refine J_lald F 7 rfl (by omega) (Nat.le_of_ble_eq_true rfl) (dcq dc_X4_factor_0 20 rfl) ?_
      exact J_lret F (Or.inl ⟨sp2, k3, k4, k5, k6, k7, k8, k9, k10, k11, j_3, k8 j_3, rfl, rfl, hd, hmp, hxj_3, hj_3, q8 j_3 hj_3⟩) (Nat.le_of_ble_eq_true rfl) (Nat.le_of_ble_eq_true rfl) (dcq dc_X4_factor_0 21 rfl)
    · skip
      have hnd : ¬ dcm P n g := hnd
      change J p l e (cRm 5 107 0 0) s m args below meth c G A 2 (JQ below G A (po_X4_factor G qm m0 m1 m2 m3 m4 m5 m6 m7 m8 m9 m10 m11 hc rf sp ha nw P M R n v g d s3 e4 e5 e7 e8 e9 e10 e11 e6 x) args s 0 0) 0 0 17 [(0, .ref qm), (1, .int (nI j_3))] [.int (nI 0), .ref qm] [oB 4 qm [.ref m0, .ref m1, .int (nI hc), .int (nI rf), .ref m2, .ref m3, .ref m4, .ref m5, .ref m6, .ref m7, .ref m8, .long sp, .ref m9, .ref m10, .ref m11, .long ha], aI G m0 220 nw, aJ G m3 73 s3, aJ G m4 72 e4, aJ G m5 72 e5, aI G m6 72 e6, aJ G m7 72 e7, aJ G m8 12 e8, aJ G m9 72 e9, aJ G m10 72 e10, aJ G m11 72 e11]
      refine J_if_eq F 24 (dcq dc_X4_factor_0 9 rfl) (by decide) (fun _ => ?_) (fun h_4 => absurd h_4 (by decide))
      refine J_iconst F (dcq dc_X4_factor_0 12 rfl) ic_2 ?_
      refine J_callV F (wc := [oB 4 qm [.ref m0, .ref m1, .int (nI hc), .int (nI rf), .ref m2, .ref m3, .ref m4, .ref m5, .ref m6, .ref m7, .ref m8, .long sp, .ref m9, .ref m10, .ref m11, .long ha]]) (wr := [aI G m0 220 nw, aJ G m3 73 s3, aJ G m4 72 e4, aJ G m5 72 e5, aI G m6 72 e6, aJ G m7 72 e7, aJ G m8 12 e8, aJ G m9 72 e9, aJ G m10 72 e10, aJ G m11 72 e11]) (rest := []) (qc := 0) (c_X4_refused_2 l hl G qm m0 m1 m2 m3 m4 m5 m6 m7 m8 m9 m10 m11 hc rf sp ha) cd_X4_refused cv_X4_refused rfl rfl rfl tw_4_40 [0] [1, 2, 3, 4, 5, 6, 7, 8, 9, 10] rfl rfl rfl rfl (by decide) rfl ⟨(Nat.le_of_ble_eq_true rfl), (Nat.le_of_ble_eq_true rfl), (Nat.le_of_ble_eq_true rfl), (Nat.le_of_ble_eq_true rfl)⟩ (Nat.le_of_ble_eq_true rfl) rfl (dcq dc_X4_factor_0 13 rfl) ?_
      rintro _ _ ⟨rfl, rfl⟩
      change J p l e (cRm 5 107 0 0) s m args below meth c G A 2 (JQ below G A (po_X4_factor G qm m0 m1 m2 m3 m4 m5 m6 m7 m8 m9 m10 m11 hc rf sp ha nw P M R n v g d s3 e4 e5 e7 e8 e9 e10 e11 e6 x) args s 0 0) 0 0 28 [(0, .ref qm), (1, .int (nI j_3))] [.int (nI 1)] [aI G m0 220 nw, aJ G m3 73 s3, aJ G m4 72 e4, aJ G m5 72 e5, aI G m6 72 e6, aJ G m7 72 e7, aJ G m8 12 e8, aJ G m9 72 e9, aJ G m10 72 e10, aJ G m11 72 e11, oB 4 qm [.ref m0, .ref m1, .int (nI hc), .int (nI 2), .ref m2, .ref m3, .ref m4, .ref m5, .ref m6, .ref m7, .ref m8, .long sp, .ref m9, .ref m10, .ref m11, .long ha]]
      refine J_world (ws2 := [oB 4 qm [.ref m0, .ref m1, .int (nI hc), .int (nI 2), .ref m2, .ref m3, .ref m4, .ref m5, .ref m6, .ref m7, .ref m8, .long sp, .ref m9, .ref m10, .ref m11, .long ha], aI G m0 220 nw, aJ G m3 73 s3, aJ G m4 72 e4, aJ G m5 72 e5, aI G m6 72 e6, aJ G m7 72 e7, aJ G m8 12 e8, aJ G m9 72 e9, aJ G m10 72 e10, aJ G m11 72 e11]) [10, 0, 1, 2, 3, 4, 5, 6, 7, 8, 9] rfl rfl ?_
      refine J_if_eq F 35 (dcq dc_X4_factor_0 14 rfl) (by decide) (fun h_5 => absurd h_5 (by decide)) (fun _ => ?_)
      refine J_lconst F (dcq dc_X4_factor_0 15 rfl) lc_0 ?_
      refine J_goto F 41 (dcq dc_X4_factor_0 16 rfl) (by decide) ?_
      exact J_lret F (Or.inr (Or.inr (⟨j_3, rfl, rfl, hnd, hxj_3, hj_3⟩))) (Nat.le_of_ble_eq_true rfl) (Nat.le_of_ble_eq_true rfl) (dcq dc_X4_factor_0 21 rfl)
  · skip
    have hx_3 : ∀ j, j < P → x ≠ nI j := hx_3
    change J p l e (cRm 5 107 0 0) s m args below meth c G A 2 (JQ below G A (po_X4_factor G qm m0 m1 m2 m3 m4 m5 m6 m7 m8 m9 m10 m11 hc rf sp ha nw P M R n v g d s3 e4 e5 e7 e8 e9 e10 e11 e6 x) args s 0 0) 0 0 6 [(0, .ref qm), (1, .int x)] [.int (nI 0), .ref qm] [aJ G m3 73 s3, aJ G m4 72 e4, aJ G m5 72 e5, aI G m6 72 e6, aJ G m7 72 e7, aJ G m8 12 e8, aJ G m9 72 e9, aJ G m10 72 e10, aJ G m11 72 e11, oB 4 qm [.ref m0, .ref m1, .int (nI hc), .int (nI rf), .ref m2, .ref m3, .ref m4, .ref m5, .ref m6, .ref m7, .ref m8, .long sp, .ref m9, .ref m10, .ref m11, .long ha], aI G m0 220 nw]
    refine J_world (ws2 := [oB 4 qm [.ref m0, .ref m1, .int (nI hc), .int (nI rf), .ref m2, .ref m3, .ref m4, .ref m5, .ref m6, .ref m7, .ref m8, .long sp, .ref m9, .ref m10, .ref m11, .long ha], aI G m0 220 nw, aJ G m3 73 s3, aJ G m4 72 e4, aJ G m5 72 e5, aI G m6 72 e6, aJ G m7 72 e7, aJ G m8 12 e8, aJ G m9 72 e9, aJ G m10 72 e10, aJ G m11 72 e11]) [9, 10, 0, 1, 2, 3, 4, 5, 6, 7, 8] rfl rfl ?_
    refine J_if_ne F 13 (dcq dc_X4_factor_0 4 rfl) (by decide) (fun h_6 => absurd h_6 (by decide)) (fun _ => ?_)
    refine J_iconst F (dcq dc_X4_factor_0 5 rfl) ic_1 ?_
    refine J_goto F 25 (dcq dc_X4_factor_0 6 rfl) (by decide) ?_
    refine J_callV F (wc := [oB 4 qm [.ref m0, .ref m1, .int (nI hc), .int (nI rf), .ref m2, .ref m3, .ref m4, .ref m5, .ref m6, .ref m7, .ref m8, .long sp, .ref m9, .ref m10, .ref m11, .long ha]]) (wr := [aI G m0 220 nw, aJ G m3 73 s3, aJ G m4 72 e4, aJ G m5 72 e5, aI G m6 72 e6, aJ G m7 72 e7, aJ G m8 12 e8, aJ G m9 72 e9, aJ G m10 72 e10, aJ G m11 72 e11]) (rest := []) (qc := 0) (c_X4_refused_1 l hl G qm m0 m1 m2 m3 m4 m5 m6 m7 m8 m9 m10 m11 hc rf sp ha) cd_X4_refused cv_X4_refused rfl rfl rfl tw_4_40 [0] [1, 2, 3, 4, 5, 6, 7, 8, 9, 10] rfl rfl rfl rfl (by decide) rfl ⟨(Nat.le_of_ble_eq_true rfl), (Nat.le_of_ble_eq_true rfl), (Nat.le_of_ble_eq_true rfl), (Nat.le_of_ble_eq_true rfl)⟩ (Nat.le_of_ble_eq_true rfl) rfl (dcq dc_X4_factor_0 13 rfl) ?_
    rintro _ _ ⟨rfl, rfl⟩
    change J p l e (cRm 5 107 0 0) s m args below meth c G A 2 (JQ below G A (po_X4_factor G qm m0 m1 m2 m3 m4 m5 m6 m7 m8 m9 m10 m11 hc rf sp ha nw P M R n v g d s3 e4 e5 e7 e8 e9 e10 e11 e6 x) args s 0 0) 0 0 28 [(0, .ref qm), (1, .int x)] [.int (nI 1)] [aI G m0 220 nw, aJ G m3 73 s3, aJ G m4 72 e4, aJ G m5 72 e5, aI G m6 72 e6, aJ G m7 72 e7, aJ G m8 12 e8, aJ G m9 72 e9, aJ G m10 72 e10, aJ G m11 72 e11, oB 4 qm [.ref m0, .ref m1, .int (nI hc), .int (nI 1), .ref m2, .ref m3, .ref m4, .ref m5, .ref m6, .ref m7, .ref m8, .long sp, .ref m9, .ref m10, .ref m11, .long ha]]
    refine J_world (ws2 := [oB 4 qm [.ref m0, .ref m1, .int (nI hc), .int (nI 1), .ref m2, .ref m3, .ref m4, .ref m5, .ref m6, .ref m7, .ref m8, .long sp, .ref m9, .ref m10, .ref m11, .long ha], aI G m0 220 nw, aJ G m3 73 s3, aJ G m4 72 e4, aJ G m5 72 e5, aI G m6 72 e6, aJ G m7 72 e7, aJ G m8 12 e8, aJ G m9 72 e9, aJ G m10 72 e10, aJ G m11 72 e11]) [10, 0, 1, 2, 3, 4, 5, 6, 7, 8, 9] rfl rfl ?_
    refine J_if_eq F 35 (dcq dc_X4_factor_0 14 rfl) (by decide) (fun h_7 => absurd h_7 (by decide)) (fun _ => ?_)
    refine J_lconst F (dcq dc_X4_factor_0 15 rfl) lc_0 ?_
    refine J_goto F 41 (dcq dc_X4_factor_0 16 rfl) (by decide) ?_
    exact J_lret F (Or.inr (Or.inl ⟨rfl, rfl, hx_3⟩)) (Nat.le_of_ble_eq_true rfl) (Nat.le_of_ble_eq_true rfl) (dcq dc_X4_factor_0 21 rfl)
