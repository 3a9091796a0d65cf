theorem up_abs {f : Nat → Int64} {s : Nat → Int64} {lo t : Nat} {x : Int64} (h : ∀ j, lo ≤ j → j < t → absL (f j) = s j) (hx : absL x = s t) : ∀ j, lo ≤ j → j < t + 1 → absL (vp_updL f t x j) = s j := by
  intro j a b
  by_cases e : j = t
  · subst e; rw [pk_uLs]; exact hx
  · rw [pk_uLn e]; exact h j a (by omega)

abbrev po_X4_findFirsts (G : Gt) (qm m0 m1 m2 m3 m4 m5 m6 m7 m8 m9 m10 m11 hc rf : Nat) (sp ha : Int64) (nw : Nat → Int32) (P M R n : Nat) (v g d : Nat → Int32) (s3 : Nat → Int64) (e4 : Nat → Int64) (e5 : Nat → Int64) (e6 : Nat → Int32) : Option Value → va_W → Prop := fun (v9 : Option Value) (w9 : va_W) => ∃ (k3 k4 k5 : Nat → Int64), ∃ (k6 : Nat → Int32), v9 = none ∧ w9 = [oB 4 qm [.ref m0, .ref m1, .int (nI hc), .int (nI rf), .ref m2, .ref m3, .ref m4, .ref m5, .ref m6, .ref m7, .ref m8, .long sp, .ref m9, .ref m10, .ref m11, .long ha], aI G m0 220 nw, aJ G m3 73 k3, aJ G m4 72 k4, aJ G m5 72 k5, aI G m6 72 k6] ∧ (∀ t, P / 2 ≤ t → t + P / 2 < n → k4 t = ft P (P / 2) v t) ∧ (∀ t, P / 2 ≤ t → t + P / 2 < n → k5 t = dv P M (P / 2) v t) ∧ (∀ t, P / 2 ≤ t → t + P / 2 < n → k6 t = nI 100)
set_option maxHeartbeats 4000000 in
set_option maxRecDepth 100000 in
theorem c_X4_findFirsts (l : Launch) (hl : l.stackTraces = false) (G : Gt) (qm m0 m1 m2 m3 m4 m5 m6 m7 m8 m9 m10 m11 hc rf : Nat) (sp ha : Int64) (nw : Nat → Int32) (P M R n : Nat) (v g d : Nat → Int32) (s3 : Nat → Int64) (e4 : Nat → Int64) (e5 : Nat → Int64) (e6 : Nat → Int32) (hRM : RM nw P M R n v g d) (hn : n ≤ 72) (hP : 2 ≤ P) (hP12 : P ≤ 12) (hM : M ≤ 1) (hPn : P + 2 * (P / 2) ≤ n) (hv : GV M n v) : Con l G yX4_findFirsts cX4_findFirsts 6 none 1 31 0 0 [.ref qm] [oB 4 qm [.ref m0, .ref m1, .int (nI hc), .int (nI rf), .ref m2, .ref m3, .ref m4, .ref m5, .ref m6, .ref m7, .ref m8, .long sp, .ref m9, .ref m10, .ref m11, .long ha], aI G m0 220 nw, aJ G m3 73 s3, aJ G m4 72 e4, aJ G m5 72 e5, aI G m6 72 e6] (po_X4_findFirsts G qm m0 m1 m2 m3 m4 m5 m6 m7 m8 m9 m10 m11 hc rf sp ha nw P M R n v g d s3 e4 e5 e6) := by
  refine Con.of hl cd_X4_findFirsts (Nat.le_of_ble_eq_true rfl) ?_
  intro p e s m args below meth c A F hin9
  change Fx p l s m args meth c G A "SeasonalAdjusterModel" cX4_findFirsts 6 none at F
  change J p l e (cRm 1 31 0 0) s m args below meth c G A 6 (JQ below G A (po_X4_findFirsts G qm m0 m1 m2 m3 m4 m5 m6 m7 m8 m9 m10 m11 hc rf sp ha nw P M R n v g d s3 e4 e5 e6) args s 0 0) 0 0 0 [(0, .ref qm)] [] [oB 4 qm [.ref m0, .ref m1, .int (nI hc), .int (nI rf), .ref m2, .ref m3, .ref m4, .ref m5, .ref m6, .ref m7, .ref m8, .long sp, .ref m9, .ref m10, .ref m11, .long ha], aI G m0 220 nw, aJ G m3 73 s3, aJ G m4 72 e4, aJ G m5 72 e5, aI G m6 72 e6]
  refine J_aload_n F 0 (dcq dc_X4_findFirsts_0 0 rfl) rfl rfl ?_
  refine J_get F fcX4 0 5 rfl (Nat.le_of_ble_eq_true rfl) tw_3_228 rfl rfl (dcq dc_X4_findFirsts_0 1 rfl) ?_
  refine J_iconst F (dcq dc_X4_findFirsts_0 2 rfl) ic_0 ?_
  refine J_lconst F (dcq dc_X4_findFirsts_0 3 rfl) lc_0 ?_
  refine J_last F (ws2 := [oB 4 qm [.ref m0, .ref m1, .int (nI hc), .int (nI rf), .ref m2, .ref m3, .ref m4, .ref m5, .ref m6, .ref m7, .ref m8, .long sp, .ref m9, .ref m10, .ref m11, .long ha], aI G m0 220 nw, aJ G m3 73 (vp_updL s3 0 0), aJ G m4 72 e4, aJ G m5 72 e5, aI G m6 72 e6]) 2 rfl (by omega) (Nat.le_of_ble_eq_true rfl) rfl (dcq dc_X4_findFirsts_0 4 rfl) ?_
  refine J_iconst F (dcq dc_X4_findFirsts_0 5 rfl) ic_0 ?_
  refine J_istore_n F (lv2 := [(1, .int (nI 0)), (0, .ref qm)]) (dcq dc_X4_findFirsts_0 6 rfl) rfl (Nat.le_of_ble_eq_true rfl) rfl ?_
  have L9 : ∀ (fu9 : Nat), ∀ (t : Nat) (sa : Nat → Int64), (t ≤ n) → (∀ j, j ≤ t → sa j = sm (xv v) 0 j) → n - t < fu9 → J p l e (cRm 1 31 0 0) s m args below meth c G A 6 (JQ below G A (po_X4_findFirsts G qm m0 m1 m2 m3 m4 m5 m6 m7 m8 m9 m10 m11 hc rf sp ha nw P M R n v g d s3 e4 e5 e6) args s 0 0) 0 0 9 [(0, .ref qm), (1, .int (nI t))] [] [oB 4 qm [.ref m0, .ref m1, .int (nI hc), .int (nI rf), .ref m2, .ref m3, .ref m4, .ref m5, .ref m6, .ref m7, .ref m8, .long sp, .ref m9, .ref m10, .ref m11, .long ha], aI G m0 220 nw, aJ G m3 73 sa, aJ G m4 72 e4, aJ G m5 72 e5, aI G m6 72 e6] := by
    intro fu9
    induction fu9 with
    | zero => intro t sa ht isa hm9; exact absurd hm9 (Nat.not_lt_zero _)
    | succ fu9 ih9 =>
      intro t sa ht isa hm9
      refine J_iload_n F 1 (dcq dc_X4_findFirsts_0 7 rfl) rfl rfl ?_
      refine J_aload_n F 0 (dcq dc_X4_findFirsts_0 8 rfl) rfl rfl ?_
      refine J_get F fcX4 0 0 rfl (Nat.le_of_ble_eq_true rfl) tw_3_223 rfl rfl (dcq dc_X4_findFirsts_0 9 rfl) ?_
      refine J_iconst F (dcq dc_X4_findFirsts_0 10 rfl) ic_3 ?_
      refine J_iald F 1 rfl (by omega) (Nat.le_of_ble_eq_true rfl) (dcq dc_X4_findFirsts_0 11 rfl) ?_
      refine J_cast rfl (st2 := [.int (nI n), .int (nI t)]) (by rw [hRM.2.2.2.1]) rfl ?_
      refine J_ncmp_ge F 46 (by omega) (by omega) (dcq dc_X4_findFirsts_0 12 rfl) (by decide) (fun h_1 => ?_) (fun h_1 => ?_)
      · skip
        refine J_aload_n F 0 (dcq dc_X4_findFirsts_0 30 rfl) rfl rfl ?_
        refine J_callV F (wc := [oB 4 qm [.ref m0, .ref m1, .int (nI hc), .int (nI rf), .ref m2, .ref m3, .ref m4, .ref m5, .ref m6, .ref m7, .ref m8, .long sp, .ref m9, .ref m10, .ref m11, .long ha], aI G m0 220 nw]) (wr := [aJ G m3 73 sa, aJ G m4 72 e4, aJ G m5 72 e5, aI G m6 72 e6]) (rest := []) (qc := 0) (c_X4_half l hl G qm m0 m1 m2 m3 m4 m5 m6 m7 m8 m9 m10 m11 hc rf sp ha nw P M R n v g d (by first | assumption | omega) (by first | assumption | omega)) cd_X4_half cv_X4_half rfl rfl rfl tw_4_160 [0, 1] [2, 3, 4, 5] rfl rfl rfl rfl (by decide) rfl ⟨(Nat.le_of_ble_eq_true rfl), (Nat.le_of_ble_eq_true rfl), (Nat.le_of_ble_eq_true rfl), (Nat.le_of_ble_eq_true rfl)⟩ (Nat.le_of_ble_eq_true rfl) rfl (dcq dc_X4_findFirsts_0 31 rfl) ?_
        rintro _ _ ⟨rfl, rfl⟩
        change J p l e (cRm 1 31 0 0) s m args below meth c G A 6 (JQ below G A (po_X4_findFirsts G qm m0 m1 m2 m3 m4 m5 m6 m7 m8 m9 m10 m11 hc rf sp ha nw P M R n v g d s3 e4 e5 e6) args s 0 0) 0 0 50 [(0, .ref qm), (1, .int (nI t))] [.int (nI (P / 2))] [aJ G m3 73 sa, aJ G m4 72 e4, aJ G m5 72 e5, aI G m6 72 e6, oB 4 qm [.ref m0, .ref m1, .int (nI hc), .int (nI rf), .ref m2, .ref m3, .ref m4, .ref m5, .ref m6, .ref m7, .ref m8, .long sp, .ref m9, .ref m10, .ref m11, .long ha], aI G m0 220 nw]
        refine J_world (ws2 := [oB 4 qm [.ref m0, .ref m1, .int (nI hc), .int (nI rf), .ref m2, .ref m3, .ref m4, .ref m5, .ref m6, .ref m7, .ref m8, .long sp, .ref m9, .ref m10, .ref m11, .long ha], aI G m0 220 nw, aJ G m3 73 sa, aJ G m4 72 e4, aJ G m5 72 e5, aI G m6 72 e6]) [4, 5, 0, 1, 2, 3] rfl rfl ?_
        refine J_istore_n F (lv2 := [(1, .int (nI (P / 2))), (0, .ref qm)]) (dcq dc_X4_findFirsts_0 32 rfl) rfl (Nat.le_of_ble_eq_true rfl) rfl ?_
        refine J_aload_n F 1 (dcq dc_X4_findFirsts_0 33 rfl) rfl rfl ?_
        refine J_get F fcX4 0 0 rfl (Nat.le_of_ble_eq_true rfl) tw_3_223 rfl rfl (dcq dc_X4_findFirsts_0 34 rfl) ?_
        refine J_iconst F (dcq dc_X4_findFirsts_0 35 rfl) ic_0 ?_
        refine J_iald F 1 rfl (by omega) (Nat.le_of_ble_eq_true rfl) (dcq dc_X4_findFirsts_0 36 rfl) ?_
        refine J_cast rfl (st2 := [.int (nI P)]) (by rw [hRM.1]) rfl ?_
        refine J_istore_n F (lv2 := [(2, .int (nI P)), (1, .int (nI (P / 2))), (0, .ref qm)]) (dcq dc_X4_findFirsts_0 37 rfl) rfl (Nat.le_of_ble_eq_true rfl) rfl ?_
        refine J_iload_n F 1 (dcq dc_X4_findFirsts_0 38 rfl) rfl rfl ?_
        refine J_istore_n F (lv2 := [(3, .int (nI (P / 2))), (2, .int (nI P)), (1, .int (nI (P / 2))), (0, .ref qm)]) (dcq dc_X4_findFirsts_0 39 rfl) rfl (Nat.le_of_ble_eq_true rfl) rfl ?_
        have L60 : ∀ (fu60 : Nat), ∀ (t : Nat) (ka kb : Nat → Int64) (kc9 : Nat → Int32), (P / 2 ≤ t) → (t ≤ n - P / 2) → (∀ j, P / 2 ≤ j → j < t → ka j = ft P (P / 2) v j) → (∀ j, P / 2 ≤ j → j < t → kb j = dv P M (P / 2) v j) → (∀ j, P / 2 ≤ j → j < t → kc9 j = nI 100) → n - P / 2 - t < fu60 → J p l e (cRm 1 31 0 0) s m args below meth c G A 6 (JQ below G A (po_X4_findFirsts G qm m0 m1 m2 m3 m4 m5 m6 m7 m8 m9 m10 m11 hc rf sp ha nw P M R n v g d s3 e4 e5 e6) args s 0 0) 0 0 60 [(0, .ref qm), (1, .int (nI (P / 2))), (2, .int (nI P)), (3, .int (nI t))] [] [oB 4 qm [.ref m0, .ref m1, .int (nI hc), .int (nI rf), .ref m2, .ref m3, .ref m4, .ref m5, .ref m6, .ref m7, .ref m8, .long sp, .ref m9, .ref m10, .ref m11, .long ha], aI G m0 220 nw, aJ G m3 73 sa, aJ G m4 72 ka, aJ G m5 72 kb, aI G m6 72 kc9] := by
          intro fu60
          induction fu60 with
          | zero => intro t ka kb kc9 ht1 ht2 i4 i5 i6 hm60; exact absurd hm60 (Nat.not_lt_zero _)
          | succ fu60 ih60 =>
            intro t ka kb kc9 ht1 ht2 i4 i5 i6 hm60
            refine J_iload_n F 3 (dcq dc_X4_findFirsts_0 40 rfl) rfl rfl ?_
            refine J_aload_n F 0 (dcq dc_X4_findFirsts_0 41 rfl) rfl rfl ?_
            refine J_get F fcX4 0 0 rfl (Nat.le_of_ble_eq_true rfl) tw_3_223 rfl rfl (dcq dc_X4_findFirsts_0 42 rfl) ?_
            refine J_iconst F (dcq dc_X4_findFirsts_0 43 rfl) ic_3 ?_
            refine J_iald F 1 rfl (by omega) (Nat.le_of_ble_eq_true rfl) (dcq dc_X4_findFirsts_0 44 rfl) ?_
            refine J_cast rfl (st2 := [.int (nI n), .int (nI t)]) (by rw [hRM.2.2.2.1]) rfl ?_
            refine J_iload_n F 1 (dcq dc_X4_findFirsts_0 45 rfl) rfl rfl ?_
            refine J_isub F (v := nI (n - P / 2)) (dcq dc_X4_findFirsts_0 46 rfl) (pk_sub (by omega)) ?_
            refine J_ncmp_ge F 213 (by omega) (by omega) (dcq dc_X4_findFirsts_0 47 rfl) (by decide) (fun h_2 => ?_) (fun h_2 => ?_)
            · skip
              exact J_vret F ⟨sa, ka, kb, kc9, rfl, rfl, fun j h1 h2 => i4 j h1 (by omega), fun j h1 h2 => i5 j h1 (by omega), fun j h1 h2 => i6 j h1 (by omega)⟩ (Nat.le_of_ble_eq_true rfl) (Nat.le_of_ble_eq_true rfl) (dcq dc_X4_findFirsts_2 41 rfl)
            · skip
              refine J_aload_n F 0 (dcq dc_X4_findFirsts_1 0 rfl) rfl rfl ?_
              refine J_get F fcX4 0 5 rfl (Nat.le_of_ble_eq_true rfl) tw_3_228 rfl rfl (dcq dc_X4_findFirsts_1 1 rfl) ?_
              refine J_iload_n F 3 (dcq dc_X4_findFirsts_1 2 rfl) rfl rfl ?_
              refine J_iload_n F 1 (dcq dc_X4_findFirsts_1 3 rfl) rfl rfl ?_
              refine J_iadd F (v := nI (t + P / 2)) (dcq dc_X4_findFirsts_1 4 rfl) (nI_add _ _) ?_
              refine J_iconst F (dcq dc_X4_findFirsts_1 5 rfl) ic_1 ?_
              refine J_iadd F (v := nI (t + P / 2 + 1)) (dcq dc_X4_findFirsts_1 6 rfl) (nI_add _ _) ?_
              refine J_lald F 2 rfl (by omega) (Nat.le_of_ble_eq_true rfl) (dcq dc_X4_findFirsts_1 7 rfl) ?_
              refine J_aload_n F 0 (dcq dc_X4_findFirsts_1 8 rfl) rfl rfl ?_
              refine J_get F fcX4 0 5 rfl (Nat.le_of_ble_eq_true rfl) tw_3_228 rfl rfl (dcq dc_X4_findFirsts_1 9 rfl) ?_
              refine J_iload_n F 3 (dcq dc_X4_findFirsts_1 10 rfl) rfl rfl ?_
              refine J_iload_n F 1 (dcq dc_X4_findFirsts_1 11 rfl) rfl rfl ?_
              refine J_isub F (v := nI (t - P / 2)) (dcq dc_X4_findFirsts_1 12 rfl) (pk_sub (by omega)) ?_
              refine J_lald F 2 rfl (by omega) (Nat.le_of_ble_eq_true rfl) (dcq dc_X4_findFirsts_1 13 rfl) ?_
              refine J_lsub F (v := (sa (t + P / 2 + 1)) - (sa (t - P / 2))) (dcq dc_X4_findFirsts_1 14 rfl) rfl ?_
              refine J_lstore F (lv2 := [(4, .long ((sa (t + P / 2 + 1)) - (sa (t - P / 2)))), (0, .ref qm), (1, .int (nI (P / 2))), (2, .int (nI P)), (3, .int (nI t))]) (dcq dc_X4_findFirsts_1 15 rfl) (Nat.le_of_ble_eq_true rfl) rfl ?_
              refine J_aload_n F 1 (dcq dc_X4_findFirsts_1 16 rfl) rfl rfl ?_
              refine J_get F fcX4 0 6 rfl (Nat.le_of_ble_eq_true rfl) tw_3_229 rfl rfl (dcq dc_X4_findFirsts_1 17 rfl) ?_
              refine J_iload_n F 4 (dcq dc_X4_findFirsts_1 18 rfl) rfl rfl ?_
              refine J_iload_n F 3 (dcq dc_X4_findFirsts_1 19 rfl) rfl rfl ?_
              refine J_iconst F (dcq dc_X4_findFirsts_1 20 rfl) ic_2 ?_
              refine J_irem F (v := nI (P % 2)) (dcq dc_X4_findFirsts_1 21 rfl) (nI_ne0 (by omega) (by omega)) (pk_rem (by omega) (by omega) (by omega)) ?_
              refine J_iconst F (dcq dc_X4_findFirsts_1 22 rfl) ic_1 ?_
              refine J_ncmp_ne F 115 (by omega) (by omega) (dcq dc_X4_findFirsts_1 23 rfl) (by decide) (fun h_3 => ?_) (fun h_3 => ?_)
              · skip
                have hodd := h_3
                refine J_ldc2 F (v2 := (2)) tw_4_48 rfl (dcq dc_X4_findFirsts_1 29 rfl) ?_
                refine J_lload F 0 (dcq dc_X4_findFirsts_1 30 rfl) rfl ?_
                refine J_lmul F (v := 2 * ((sa (t + P / 2 + 1)) - (sa (t - P / 2)))) (dcq dc_X4_findFirsts_1 31 rfl) rfl ?_
                refine J_aload_n F 1 (dcq dc_X4_findFirsts_1 32 rfl) rfl rfl ?_
                refine J_iload_n F 4 (dcq dc_X4_findFirsts_1 33 rfl) rfl rfl ?_
                refine J_iload_n F 2 (dcq dc_X4_findFirsts_1 34 rfl) rfl rfl ?_
                refine J_isub F (v := nI (t - P / 2)) (dcq dc_X4_findFirsts_1 35 rfl) (pk_sub (by omega)) ?_
                refine J_callV F (wc := [oB 4 qm [.ref m0, .ref m1, .int (nI hc), .int (nI rf), .ref m2, .ref m3, .ref m4, .ref m5, .ref m6, .ref m7, .ref m8, .long sp, .ref m9, .ref m10, .ref m11, .long ha], aI G m0 220 nw]) (wr := [aJ G m3 73 sa, aJ G m4 72 ka, aJ G m5 72 kb, aI G m6 72 kc9]) (rest := [.long (2 * ((sa (t + P / 2 + 1)) - (sa (t - P / 2)))), .int (nI t), .ref m4]) (qc := 0) (c_X4_valueAt l hl G qm m0 m1 m2 m3 m4 m5 m6 m7 m8 m9 m10 m11 hc rf sp ha nw P M R n v g d (t - P / 2) (by first | assumption | omega) (by first | assumption | omega) (by first | assumption | omega)) cd_X4_valueAt cv_X4_valueAt rfl rfl rfl tw_4_73 [0, 1] [2, 3, 4, 5] rfl rfl rfl rfl (by decide) rfl ⟨(Nat.le_of_ble_eq_true rfl), (Nat.le_of_ble_eq_true rfl), (Nat.le_of_ble_eq_true rfl), (Nat.le_of_ble_eq_true rfl)⟩ (Nat.le_of_ble_eq_true rfl) rfl (dcq dc_X4_findFirsts_1 36 rfl) ?_
                rintro _ _ ⟨rfl, rfl⟩
                change J p l e (cRm 1 31 0 0) s m args below meth c G A 6 (JQ below G A (po_X4_findFirsts G qm m0 m1 m2 m3 m4 m5 m6 m7 m8 m9 m10 m11 hc rf sp ha nw P M R n v g d s3 e4 e5 e6) args s 0 0) 0 0 128 [(4, .long ((sa (t + P / 2 + 1)) - (sa (t - P / 2)))), (0, .ref qm), (1, .int (nI (P / 2))), (2, .int (nI P)), (3, .int (nI t))] [.int (v (t - P / 2)), .long (2 * ((sa (t + P / 2 + 1)) - (sa (t - P / 2)))), .int (nI t), .ref m4] [aJ G m3 73 sa, aJ G m4 72 ka, aJ G m5 72 kb, aI G m6 72 kc9, oB 4 qm [.ref m0, .ref m1, .int (nI hc), .int (nI rf), .ref m2, .ref m3, .ref m4, .ref m5, .ref m6, .ref m7, .ref m8, .long sp, .ref m9, .ref m10, .ref m11, .long ha], aI G m0 220 nw]
                refine J_world (ws2 := [oB 4 qm [.ref m0, .ref m1, .int (nI hc), .int (nI rf), .ref m2, .ref m3, .ref m4, .ref m5, .ref m6, .ref m7, .ref m8, .long sp, .ref m9, .ref m10, .ref m11, .long ha], aI G m0 220 nw, aJ G m3 73 sa, aJ G m4 72 ka, aJ G m5 72 kb, aI G m6 72 kc9]) [4, 5, 0, 1, 2, 3] rfl rfl ?_
                refine J_i2l F (v := (v (t - P / 2)).toInt64) (dcq dc_X4_findFirsts_1 37 rfl) rfl ?_
                refine J_lsub F (v := (2 * ((sa (t + P / 2 + 1)) - (sa (t - P / 2)))) - ((v (t - P / 2)).toInt64)) (dcq dc_X4_findFirsts_1 38 rfl) rfl ?_
                refine J_aload_n F 1 (dcq dc_X4_findFirsts_1 39 rfl) rfl rfl ?_
                refine J_iload_n F 4 (dcq dc_X4_findFirsts_1 40 rfl) rfl rfl ?_
                refine J_iload_n F 2 (dcq dc_X4_findFirsts_1 41 rfl) rfl rfl ?_
                refine J_iadd F (v := nI (t + P / 2)) (dcq dc_X4_findFirsts_1 42 rfl) (nI_add _ _) ?_
                refine J_callV F (wc := [oB 4 qm [.ref m0, .ref m1, .int (nI hc), .int (nI rf), .ref m2, .ref m3, .ref m4, .ref m5, .ref m6, .ref m7, .ref m8, .long sp, .ref m9, .ref m10, .ref m11, .long ha], aI G m0 220 nw]) (wr := [aJ G m3 73 sa, aJ G m4 72 ka, aJ G m5 72 kb, aI G m6 72 kc9]) (rest := [.long ((2 * ((sa (t + P / 2 + 1)) - (sa (t - P / 2)))) - ((v (t - P / 2)).toInt64)), .int (nI t), .ref m4]) (qc := 0) (c_X4_valueAt l hl G qm m0 m1 m2 m3 m4 m5 m6 m7 m8 m9 m10 m11 hc rf sp ha nw P M R n v g d (t + P / 2) (by first | assumption | omega) (by first | assumption | omega) (by first | assumption | omega)) cd_X4_valueAt cv_X4_valueAt rfl rfl rfl tw_4_73 [0, 1] [2, 3, 4, 5] rfl rfl rfl rfl (by decide) rfl ⟨(Nat.le_of_ble_eq_true rfl), (Nat.le_of_ble_eq_true rfl), (Nat.le_of_ble_eq_true rfl), (Nat.le_of_ble_eq_true rfl)⟩ (Nat.le_of_ble_eq_true rfl) rfl (dcq dc_X4_findFirsts_1 43 rfl) ?_
                rintro _ _ ⟨rfl, rfl⟩
                change J p l e (cRm 1 31 0 0) s m args below meth c G A 6 (JQ below G A (po_X4_findFirsts G qm m0 m1 m2 m3 m4 m5 m6 m7 m8 m9 m10 m11 hc rf sp ha nw P M R n v g d s3 e4 e5 e6) args s 0 0) 0 0 137 [(4, .long ((sa (t + P / 2 + 1)) - (sa (t - P / 2)))), (0, .ref qm), (1, .int (nI (P / 2))), (2, .int (nI P)), (3, .int (nI t))] [.int (v (t + P / 2)), .long ((2 * ((sa (t + P / 2 + 1)) - (sa (t - P / 2)))) - ((v (t - P / 2)).toInt64)), .int (nI t), .ref m4] [aJ G m3 73 sa, aJ G m4 72 ka, aJ G m5 72 kb, aI G m6 72 kc9, oB 4 qm [.ref m0, .ref m1, .int (nI hc), .int (nI rf), .ref m2, .ref m3, .ref m4, .ref m5, .ref m6, .ref m7, .ref m8, .long sp, .ref m9, .ref m10, .ref m11, .long ha], aI G m0 220 nw]
                refine J_world (ws2 := [oB 4 qm [.ref m0, .ref m1, .int (nI hc), .int (nI rf), .ref m2, .ref m3, .ref m4, .ref m5, .ref m6, .ref m7, .ref m8, .long sp, .ref m9, .ref m10, .ref m11, .long ha], aI G m0 220 nw, aJ G m3 73 sa, aJ G m4 72 ka, aJ G m5 72 kb, aI G m6 72 kc9]) [4, 5, 0, 1, 2, 3] rfl rfl ?_
                refine J_i2l F (v := (v (t + P / 2)).toInt64) (dcq dc_X4_findFirsts_1 44 rfl) rfl ?_
                refine J_lsub F (v := ((2 * ((sa (t + P / 2 + 1)) - (sa (t - P / 2)))) - ((v (t - P / 2)).toInt64)) - ((v (t + P / 2)).toInt64)) (dcq dc_X4_findFirsts_1 45 rfl) rfl ?_
                refine J_ldc2 F (v2 := (2)) tw_4_48 rfl (dcq dc_X4_findFirsts_1 46 rfl) ?_
                refine J_iload_n F 3 (dcq dc_X4_findFirsts_1 47 rfl) rfl rfl ?_
                refine J_i2l F (v := lN P) (dcq dc_X4_findFirsts_2 0 rfl) (nI_l (by omega)) ?_
                refine J_lmul F (v := 2 * (lN P)) (dcq dc_X4_findFirsts_2 1 rfl) rfl ?_
                refine J_callS F (wc := []) (wr := [oB 4 qm [.ref m0, .ref m1, .int (nI hc), .int (nI rf), .ref m2, .ref m3, .ref m4, .ref m5, .ref m6, .ref m7, .ref m8, .long sp, .ref m9, .ref m10, .ref m11, .long ha], aI G m0 220 nw, aJ G m3 73 sa, aJ G m4 72 ka, aJ G m5 72 kb, aI G m6 72 kc9]) (rest := [.int (nI t), .ref m4]) (c_X4_over l hl G (((2 * ((sa (t + P / 2 + 1)) - (sa (t - P / 2)))) - ((v (t - P / 2)).toInt64)) - ((v (t + P / 2)).toInt64)) (2 * (lN P)) (by exact lNpos2 (by decide) (by decide) (by omega) (by omega))) cd_X4_over tw_4_138 tw_4_137 [] [0, 1, 2, 3, 4, 5] rfl rfl rfl rfl (by decide) rfl ⟨(Nat.le_of_ble_eq_true rfl), (Nat.le_of_ble_eq_true rfl), (Nat.le_of_ble_eq_true rfl), (Nat.le_of_ble_eq_true rfl)⟩ (Nat.le_of_ble_eq_true rfl) rfl (dcq dc_X4_findFirsts_2 2 rfl) ?_
                rintro _ _ ⟨rf9, rfl, rfl, hrf⟩
                change J p l e (cRm 1 31 0 0) s m args below meth c G A 6 (JQ below G A (po_X4_findFirsts G qm m0 m1 m2 m3 m4 m5 m6 m7 m8 m9 m10 m11 hc rf sp ha nw P M R n v g d s3 e4 e5 e6) args s 0 0) 0 0 148 [(4, .long ((sa (t + P / 2 + 1)) - (sa (t - P / 2)))), (0, .ref qm), (1, .int (nI (P / 2))), (2, .int (nI P)), (3, .int (nI t))] [.long rf9, .int (nI t), .ref m4] [oB 4 qm [.ref m0, .ref m1, .int (nI hc), .int (nI rf), .ref m2, .ref m3, .ref m4, .ref m5, .ref m6, .ref m7, .ref m8, .long sp, .ref m9, .ref m10, .ref m11, .long ha], aI G m0 220 nw, aJ G m3 73 sa, aJ G m4 72 ka, aJ G m5 72 kb, aI G m6 72 kc9]
                have hrf : rf9 = quo (((2 * ((sa (t + P / 2 + 1)) - (sa (t - P / 2)))) - ((v (t - P / 2)).toInt64)) - ((v (t + P / 2)).toInt64)) (2 * (lN P)) := hrf
                have hft : rf9 = ft P (P / 2) v t := by
                  rw [hrf, isa (t + P / 2 + 1) (by omega), isa (t - P / 2) (by omega)]
                  exact ft_even hP ht1 hodd
                refine J_last F (ws2 := [oB 4 qm [.ref m0, .ref m1, .int (nI hc), .int (nI rf), .ref m2, .ref m3, .ref m4, .ref m5, .ref m6, .ref m7, .ref m8, .long sp, .ref m9, .ref m10, .ref m11, .long ha], aI G m0 220 nw, aJ G m3 73 sa, aJ G m4 72 (vp_updL ka t rf9), aJ G m5 72 kb, aI G m6 72 kc9]) 3 rfl (by omega) (Nat.le_of_ble_eq_true rfl) rfl (dcq dc_X4_findFirsts_2 3 rfl) ?_
                refine J_aload_n F 1 (dcq dc_X4_findFirsts_2 4 rfl) rfl rfl ?_
                refine J_get F fcX4 0 7 rfl (Nat.le_of_ble_eq_true rfl) tw_3_230 rfl rfl (dcq dc_X4_findFirsts_2 5 rfl) ?_
                refine J_iload_n F 4 (dcq dc_X4_findFirsts_2 6 rfl) rfl rfl ?_
                refine J_aload_n F 1 (dcq dc_X4_findFirsts_2 7 rfl) rfl rfl ?_
                refine J_get F fcX4 0 0 rfl (Nat.le_of_ble_eq_true rfl) tw_3_223 rfl rfl (dcq dc_X4_findFirsts_2 8 rfl) ?_
                refine J_iconst F (dcq dc_X4_findFirsts_2 9 rfl) ic_1 ?_
                refine J_iald F 1 rfl (by omega) (Nat.le_of_ble_eq_true rfl) (dcq dc_X4_findFirsts_2 10 rfl) ?_
                refine J_cast rfl (st2 := [.int (nI M), .int (nI t), .ref m5]) (by rw [hRM.2.1]) rfl ?_
                refine J_nif_ne F 179 (by omega) (dcq dc_X4_findFirsts_2 11 rfl) (by decide) (fun h_4 => ?_) (fun h_4 => ?_)
                · skip
                  have hm := h_4
                  refine J_ldc2 F (v2 := (10000)) tw_4_180 rfl (dcq dc_X4_findFirsts_2 22 rfl) ?_
                  refine J_aload_n F 1 (dcq dc_X4_findFirsts_2 23 rfl) rfl rfl ?_
                  refine J_iload_n F 4 (dcq dc_X4_findFirsts_2 24 rfl) rfl rfl ?_
                  refine J_callV F (wc := [oB 4 qm [.ref m0, .ref m1, .int (nI hc), .int (nI rf), .ref m2, .ref m3, .ref m4, .ref m5, .ref m6, .ref m7, .ref m8, .long sp, .ref m9, .ref m10, .ref m11, .long ha], aI G m0 220 nw]) (wr := [aJ G m3 73 sa, aJ G m4 72 (vp_updL ka t rf9), aJ G m5 72 kb, aI G m6 72 kc9]) (rest := [.long 10000, .int (nI t), .ref m5]) (qc := 0) (c_X4_valueAt l hl G qm m0 m1 m2 m3 m4 m5 m6 m7 m8 m9 m10 m11 hc rf sp ha nw P M R n v g d t (by first | assumption | omega) (by first | assumption | omega) (by first | assumption | omega)) cd_X4_valueAt cv_X4_valueAt rfl rfl rfl tw_4_73 [0, 1] [2, 3, 4, 5] rfl rfl rfl rfl (by decide) rfl ⟨(Nat.le_of_ble_eq_true rfl), (Nat.le_of_ble_eq_true rfl), (Nat.le_of_ble_eq_true rfl), (Nat.le_of_ble_eq_true rfl)⟩ (Nat.le_of_ble_eq_true rfl) rfl (dcq dc_X4_findFirsts_2 25 rfl) ?_
                  rintro _ _ ⟨rfl, rfl⟩
                  change J p l e (cRm 1 31 0 0) s m args below meth c G A 6 (JQ below G A (po_X4_findFirsts G qm m0 m1 m2 m3 m4 m5 m6 m7 m8 m9 m10 m11 hc rf sp ha nw P M R n v g d s3 e4 e5 e6) args s 0 0) 0 0 187 [(4, .long ((sa (t + P / 2 + 1)) - (sa (t - P / 2)))), (0, .ref qm), (1, .int (nI (P / 2))), (2, .int (nI P)), (3, .int (nI t))] [.int (v t), .long 10000, .int (nI t), .ref m5] [aJ G m3 73 sa, aJ G m4 72 (vp_updL ka t rf9), aJ G m5 72 kb, aI G m6 72 kc9, oB 4 qm [.ref m0, .ref m1, .int (nI hc), .int (nI rf), .ref m2, .ref m3, .ref m4, .ref m5, .ref m6, .ref m7, .ref m8, .long sp, .ref m9, .ref m10, .ref m11, .long ha], aI G m0 220 nw]
                  refine J_world (ws2 := [oB 4 qm [.ref m0, .ref m1, .int (nI hc), .int (nI rf), .ref m2, .ref m3, .ref m4, .ref m5, .ref m6, .ref m7, .ref m8, .long sp, .ref m9, .ref m10, .ref m11, .long ha], aI G m0 220 nw, aJ G m3 73 sa, aJ G m4 72 (vp_updL ka t rf9), aJ G m5 72 kb, aI G m6 72 kc9]) [4, 5, 0, 1, 2, 3] rfl rfl ?_
                  refine J_i2l F (v := (v t).toInt64) (dcq dc_X4_findFirsts_2 26 rfl) rfl ?_
                  refine J_lmul F (v := 10000 * ((v t).toInt64)) (dcq dc_X4_findFirsts_2 27 rfl) rfl ?_
                  refine J_aload_n F 1 (dcq dc_X4_findFirsts_2 28 rfl) rfl rfl ?_
                  refine J_get F fcX4 0 6 rfl (Nat.le_of_ble_eq_true rfl) tw_3_229 rfl rfl (dcq dc_X4_findFirsts_2 29 rfl) ?_
                  refine J_iload_n F 4 (dcq dc_X4_findFirsts_2 30 rfl) rfl rfl ?_
                  refine J_lald F 3 rfl (by omega) (Nat.le_of_ble_eq_true rfl) (dcq dc_X4_findFirsts_2 31 rfl) ?_
                  refine J_callS F (wc := []) (wr := [oB 4 qm [.ref m0, .ref m1, .int (nI hc), .int (nI rf), .ref m2, .ref m3, .ref m4, .ref m5, .ref m6, .ref m7, .ref m8, .long sp, .ref m9, .ref m10, .ref m11, .long ha], aI G m0 220 nw, aJ G m3 73 sa, aJ G m4 72 (vp_updL ka t rf9), aJ G m5 72 kb, aI G m6 72 kc9]) (rest := [.int (nI t), .ref m5]) (c_X4_over l hl G (10000 * ((v t).toInt64)) ((vp_updL ka t rf9) t) (by rw [pk_uLs, hft, tI0]; have hbt := (ft_btw hP hP12 hn hv ht1 (by omega)).1; rw [if_neg (by omega)] at hbt; omega)) cd_X4_over tw_4_138 tw_4_137 [] [0, 1, 2, 3, 4, 5] rfl rfl rfl rfl (by decide) rfl ⟨(Nat.le_of_ble_eq_true rfl), (Nat.le_of_ble_eq_true rfl), (Nat.le_of_ble_eq_true rfl), (Nat.le_of_ble_eq_true rfl)⟩ (Nat.le_of_ble_eq_true rfl) rfl (dcq dc_X4_findFirsts_2 32 rfl) ?_
                  rintro _ _ ⟨rd9, rfl, rfl, hrd⟩
                  change J p l e (cRm 1 31 0 0) s m args below meth c G A 6 (JQ below G A (po_X4_findFirsts G qm m0 m1 m2 m3 m4 m5 m6 m7 m8 m9 m10 m11 hc rf sp ha nw P M R n v g d s3 e4 e5 e6) args s 0 0) 0 0 198 [(4, .long ((sa (t + P / 2 + 1)) - (sa (t - P / 2)))), (0, .ref qm), (1, .int (nI (P / 2))), (2, .int (nI P)), (3, .int (nI t))] [.long rd9, .int (nI t), .ref m5] [oB 4 qm [.ref m0, .ref m1, .int (nI hc), .int (nI rf), .ref m2, .ref m3, .ref m4, .ref m5, .ref m6, .ref m7, .ref m8, .long sp, .ref m9, .ref m10, .ref m11, .long ha], aI G m0 220 nw, aJ G m3 73 sa, aJ G m4 72 (vp_updL ka t rf9), aJ G m5 72 kb, aI G m6 72 kc9]
                  have hrd : rd9 = quo (10000 * ((v t).toInt64)) ((vp_updL ka t rf9) t) := hrd
                  refine J_last F (ws2 := [oB 4 qm [.ref m0, .ref m1, .int (nI hc), .int (nI rf), .ref m2, .ref m3, .ref m4, .ref m5, .ref m6, .ref m7, .ref m8, .long sp, .ref m9, .ref m10, .ref m11, .long ha], aI G m0 220 nw, aJ G m3 73 sa, aJ G m4 72 (vp_updL ka t rf9), aJ G m5 72 (vp_updL kb t rd9), aI G m6 72 kc9]) 4 rfl (by omega) (Nat.le_of_ble_eq_true rfl) rfl (dcq dc_X4_findFirsts_2 33 rfl) ?_
                  refine J_aload_n F 1 (dcq dc_X4_findFirsts_2 34 rfl) rfl rfl ?_
                  refine J_get F fcX4 0 8 rfl (Nat.le_of_ble_eq_true rfl) tw_3_231 rfl rfl (dcq dc_X4_findFirsts_2 35 rfl) ?_
                  refine J_iload_n F 4 (dcq dc_X4_findFirsts_2 36 rfl) rfl rfl ?_
                  refine J_bipush F (dcq dc_X4_findFirsts_2 37 rfl) bc_100 ?_
                  refine J_iast F (ws2 := [oB 4 qm [.ref m0, .ref m1, .int (nI hc), .int (nI rf), .ref m2, .ref m3, .ref m4, .ref m5, .ref m6, .ref m7, .ref m8, .long sp, .ref m9, .ref m10, .ref m11, .long ha], aI G m0 220 nw, aJ G m3 73 sa, aJ G m4 72 (vp_updL ka t rf9), aJ G m5 72 (vp_updL kb t rd9), aI G m6 72 (upd kc9 t (nI 100))]) 5 rfl (by omega) (Nat.le_of_ble_eq_true rfl) rfl (dcq dc_X4_findFirsts_2 38 rfl) ?_
                  refine J_iinc F (lv2 := [(3, .int (nI (t + 1))), (4, .long ((sa (t + P / 2 + 1)) - (sa (t - P / 2)))), (0, .ref qm), (1, .int (nI (P / 2))), (2, .int (nI P))]) (v := nI (t + 1)) 4 (dcq dc_X4_findFirsts_2 39 rfl) rfl (nI_inc _) (Nat.le_of_ble_eq_true rfl) rfl ?_
                  refine J_goto F 60 (dcq dc_X4_findFirsts_2 40 rfl) (by decide) ?_
                  refine J_locs [2, 3, 4, 0] rfl ?_
                  exact ih60 (t + 1) (vp_updL ka t rf9) (vp_updL kb t rd9) (upd kc9 t (nI 100)) (by omega) (by omega) (up_l i4 hft) (up_l i5 (by unfold dv; first | (rw [if_pos hm, pk_uLs, hft]; rfl) | (rw [if_neg (by omega), hrd, pk_uLs, hft]; rfl))) (up_i (s := fun _ => nI 100) i6 rfl) (by omega)
                · skip
                  have hm := h_4
                  refine J_aload_n F 1 (dcq dc_X4_findFirsts_2 12 rfl) rfl rfl ?_
                  refine J_iload_n F 4 (dcq dc_X4_findFirsts_2 13 rfl) rfl rfl ?_
                  refine J_callV F (wc := [oB 4 qm [.ref m0, .ref m1, .int (nI hc), .int (nI rf), .ref m2, .ref m3, .ref m4, .ref m5, .ref m6, .ref m7, .ref m8, .long sp, .ref m9, .ref m10, .ref m11, .long ha], aI G m0 220 nw]) (wr := [aJ G m3 73 sa, aJ G m4 72 (vp_updL ka t rf9), aJ G m5 72 kb, aI G m6 72 kc9]) (rest := [.int (nI t), .ref m5]) (qc := 0) (c_X4_valueAt l hl G qm m0 m1 m2 m3 m4 m5 m6 m7 m8 m9 m10 m11 hc rf sp ha nw P M R n v g d t (by first | assumption | omega) (by first | assumption | omega) (by first | assumption | omega)) cd_X4_valueAt cv_X4_valueAt rfl rfl rfl tw_4_73 [0, 1] [2, 3, 4, 5] rfl rfl rfl rfl (by decide) rfl ⟨(Nat.le_of_ble_eq_true rfl), (Nat.le_of_ble_eq_true rfl), (Nat.le_of_ble_eq_true rfl), (Nat.le_of_ble_eq_true rfl)⟩ (Nat.le_of_ble_eq_true rfl) rfl (dcq dc_X4_findFirsts_2 14 rfl) ?_
                  rintro _ _ ⟨rfl, rfl⟩
                  change J p l e (cRm 1 31 0 0) s m args below meth c G A 6 (JQ below G A (po_X4_findFirsts G qm m0 m1 m2 m3 m4 m5 m6 m7 m8 m9 m10 m11 hc rf sp ha nw P M R n v g d s3 e4 e5 e6) args s 0 0) 0 0 168 [(4, .long ((sa (t + P / 2 + 1)) - (sa (t - P / 2)))), (0, .ref qm), (1, .int (nI (P / 2))), (2, .int (nI P)), (3, .int (nI t))] [.int (v t), .int (nI t), .ref m5] [aJ G m3 73 sa, aJ G m4 72 (vp_updL ka t rf9), aJ G m5 72 kb, aI G m6 72 kc9, oB 4 qm [.ref m0, .ref m1, .int (nI hc), .int (nI rf), .ref m2, .ref m3, .ref m4, .ref m5, .ref m6, .ref m7, .ref m8, .long sp, .ref m9, .ref m10, .ref m11, .long ha], aI G m0 220 nw]
                  refine J_world (ws2 := [oB 4 qm [.ref m0, .ref m1, .int (nI hc), .int (nI rf), .ref m2, .ref m3, .ref m4, .ref m5, .ref m6, .ref m7, .ref m8, .long sp, .ref m9, .ref m10, .ref m11, .long ha], aI G m0 220 nw, aJ G m3 73 sa, aJ G m4 72 (vp_updL ka t rf9), aJ G m5 72 kb, aI G m6 72 kc9]) [4, 5, 0, 1, 2, 3] rfl rfl ?_
                  refine J_i2l F (v := (v t).toInt64) (dcq dc_X4_findFirsts_2 15 rfl) rfl ?_
                  refine J_aload_n F 1 (dcq dc_X4_findFirsts_2 16 rfl) rfl rfl ?_
                  refine J_get F fcX4 0 6 rfl (Nat.le_of_ble_eq_true rfl) tw_3_229 rfl rfl (dcq dc_X4_findFirsts_2 17 rfl) ?_
                  refine J_iload_n F 4 (dcq dc_X4_findFirsts_2 18 rfl) rfl rfl ?_
                  refine J_lald F 3 rfl (by omega) (Nat.le_of_ble_eq_true rfl) (dcq dc_X4_findFirsts_2 19 rfl) ?_
                  refine J_lsub F (v := ((v t).toInt64) - ((vp_updL ka t rf9) t)) (dcq dc_X4_findFirsts_2 20 rfl) rfl ?_
                  refine J_goto F 198 (dcq dc_X4_findFirsts_2 21 rfl) (by decide) ?_
                  refine J_last F (ws2 := [oB 4 qm [.ref m0, .ref m1, .int (nI hc), .int (nI rf), .ref m2, .ref m3, .ref m4, .ref m5, .ref m6, .ref m7, .ref m8, .long sp, .ref m9, .ref m10, .ref m11, .long ha], aI G m0 220 nw, aJ G m3 73 sa, aJ G m4 72 (vp_updL ka t rf9), aJ G m5 72 (vp_updL kb t (((v t).toInt64) - ((vp_updL ka t rf9) t))), aI G m6 72 kc9]) 4 rfl (by omega) (Nat.le_of_ble_eq_true rfl) rfl (dcq dc_X4_findFirsts_2 33 rfl) ?_
                  refine J_aload_n F 1 (dcq dc_X4_findFirsts_2 34 rfl) rfl rfl ?_
                  refine J_get F fcX4 0 8 rfl (Nat.le_of_ble_eq_true rfl) tw_3_231 rfl rfl (dcq dc_X4_findFirsts_2 35 rfl) ?_
                  refine J_iload_n F 4 (dcq dc_X4_findFirsts_2 36 rfl) rfl rfl ?_
                  refine J_bipush F (dcq dc_X4_findFirsts_2 37 rfl) bc_100 ?_
                  refine J_iast F (ws2 := [oB 4 qm [.ref m0, .ref m1, .int (nI hc), .int (nI rf), .ref m2, .ref m3, .ref m4, .ref m5, .ref m6, .ref m7, .ref m8, .long sp, .ref m9, .ref m10, .ref m11, .long ha], aI G m0 220 nw, aJ G m3 73 sa, aJ G m4 72 (vp_updL ka t rf9), aJ G m5 72 (vp_updL kb t (((v t).toInt64) - ((vp_updL ka t rf9) t))), aI G m6 72 (upd kc9 t (nI 100))]) 5 rfl (by omega) (Nat.le_of_ble_eq_true rfl) rfl (dcq dc_X4_findFirsts_2 38 rfl) ?_
                  refine J_iinc F (lv2 := [(3, .int (nI (t + 1))), (4, .long ((sa (t + P / 2 + 1)) - (sa (t - P / 2)))), (0, .ref qm), (1, .int (nI (P / 2))), (2, .int (nI P))]) (v := nI (t + 1)) 4 (dcq dc_X4_findFirsts_2 39 rfl) rfl (nI_inc _) (Nat.le_of_ble_eq_true rfl) rfl ?_
                  refine J_goto F 60 (dcq dc_X4_findFirsts_2 40 rfl) (by decide) ?_
                  refine J_locs [2, 3, 4, 0] rfl ?_
                  exact ih60 (t + 1) (vp_updL ka t rf9) (vp_updL kb t (((v t).toInt64) - ((vp_updL ka t rf9) t))) (upd kc9 t (nI 100)) (by omega) (by omega) (up_l i4 hft) (up_l i5 (by unfold dv; first | (rw [if_pos hm, pk_uLs, hft]; rfl) | (rw [if_neg (by omega), hrd, pk_uLs, hft]; rfl))) (up_i (s := fun _ => nI 100) i6 rfl) (by omega)
              · skip
                have hodd := h_3
                refine J_lload F 0 (dcq dc_X4_findFirsts_1 24 rfl) rfl ?_
                refine J_iload_n F 3 (dcq dc_X4_findFirsts_1 25 rfl) rfl rfl ?_
                refine J_i2l F (v := lN P) (dcq dc_X4_findFirsts_1 26 rfl) (nI_l (by omega)) ?_
                refine J_callS F (wc := []) (wr := [oB 4 qm [.ref m0, .ref m1, .int (nI hc), .int (nI rf), .ref m2, .ref m3, .ref m4, .ref m5, .ref m6, .ref m7, .ref m8, .long sp, .ref m9, .ref m10, .ref m11, .long ha], aI G m0 220 nw, aJ G m3 73 sa, aJ G m4 72 ka, aJ G m5 72 kb, aI G m6 72 kc9]) (rest := [.int (nI t), .ref m4]) (c_X4_over l hl G ((sa (t + P / 2 + 1)) - (sa (t - P / 2))) (lN P) (by exact lNpos (by omega) (by omega))) cd_X4_over tw_4_138 tw_4_137 [] [0, 1, 2, 3, 4, 5] rfl rfl rfl rfl (by decide) rfl ⟨(Nat.le_of_ble_eq_true rfl), (Nat.le_of_ble_eq_true rfl), (Nat.le_of_ble_eq_true rfl), (Nat.le_of_ble_eq_true rfl)⟩ (Nat.le_of_ble_eq_true rfl) rfl (dcq dc_X4_findFirsts_1 27 rfl) ?_
                rintro _ _ ⟨rf9, rfl, rfl, hrf⟩
                change J p l e (cRm 1 31 0 0) s m args below meth c G A 6 (JQ below G A (po_X4_findFirsts G qm m0 m1 m2 m3 m4 m5 m6 m7 m8 m9 m10 m11 hc rf sp ha nw P M R n v g d s3 e4 e5 e6) args s 0 0) 0 0 112 [(4, .long ((sa (t + P / 2 + 1)) - (sa (t - P / 2)))), (0, .ref qm), (1, .int (nI (P / 2))), (2, .int (nI P)), (3, .int (nI t))] [.long rf9, .int (nI t), .ref m4] [oB 4 qm [.ref m0, .ref m1, .int (nI hc), .int (nI rf), .ref m2, .ref m3, .ref m4, .ref m5, .ref m6, .ref m7, .ref m8, .long sp, .ref m9, .ref m10, .ref m11, .long ha], aI G m0 220 nw, aJ G m3 73 sa, aJ G m4 72 ka, aJ G m5 72 kb, aI G m6 72 kc9]
                have hrf : rf9 = quo ((sa (t + P / 2 + 1)) - (sa (t - P / 2))) (lN P) := hrf
                have hft : rf9 = ft P (P / 2) v t := by
                  rw [hrf, isa (t + P / 2 + 1) (by omega), isa (t - P / 2) (by omega)]
                  exact ft_odd hP ht1 hodd
                refine J_goto F 148 (dcq dc_X4_findFirsts_1 28 rfl) (by decide) ?_
                refine J_last F (ws2 := [oB 4 qm [.ref m0, .ref m1, .int (nI hc), .int (nI rf), .ref m2, .ref m3, .ref m4, .ref m5, .ref m6, .ref m7, .ref m8, .long sp, .ref m9, .ref m10, .ref m11, .long ha], aI G m0 220 nw, aJ G m3 73 sa, aJ G m4 72 (vp_updL ka t rf9), aJ G m5 72 kb, aI G m6 72 kc9]) 3 rfl (by omega) (Nat.le_of_ble_eq_true rfl) rfl (dcq dc_X4_findFirsts_2 3 rfl) ?_
                refine J_aload_n F 1 (dcq dc_X4_findFirsts_2 4 rfl) rfl rfl ?_
                refine J_get F fcX4 0 7 rfl (Nat.le_of_ble_eq_true rfl) tw_3_230 rfl rfl (dcq dc_X4_findFirsts_2 5 rfl) ?_
                refine J_iload_n F 4 (dcq dc_X4_findFirsts_2 6 rfl) rfl rfl ?_
                refine J_aload_n F 1 (dcq dc_X4_findFirsts_2 7 rfl) rfl rfl ?_
                refine J_get F fcX4 0 0 rfl (Nat.le_of_ble_eq_true rfl) tw_3_223 rfl rfl (dcq dc_X4_findFirsts_2 8 rfl) ?_
                refine J_iconst F (dcq dc_X4_findFirsts_2 9 rfl) ic_1 ?_
                refine J_iald F 1 rfl (by omega) (Nat.le_of_ble_eq_true rfl) (dcq dc_X4_findFirsts_2 10 rfl) ?_
                refine J_cast rfl (st2 := [.int (nI M), .int (nI t), .ref m5]) (by rw [hRM.2.1]) rfl ?_
                refine J_nif_ne F 179 (by omega) (dcq dc_X4_findFirsts_2 11 rfl) (by decide) (fun h_5 => ?_) (fun h_5 => ?_)
                · skip
                  have hm := h_5
                  refine J_ldc2 F (v2 := (10000)) tw_4_180 rfl (dcq dc_X4_findFirsts_2 22 rfl) ?_
                  refine J_aload_n F 1 (dcq dc_X4_findFirsts_2 23 rfl) rfl rfl ?_
                  refine J_iload_n F 4 (dcq dc_X4_findFirsts_2 24 rfl) rfl rfl ?_
                  refine J_callV F (wc := [oB 4 qm [.ref m0, .ref m1, .int (nI hc), .int (nI rf), .ref m2, .ref m3, .ref m4, .ref m5, .ref m6, .ref m7, .ref m8, .long sp, .ref m9, .ref m10, .ref m11, .long ha], aI G m0 220 nw]) (wr := [aJ G m3 73 sa, aJ G m4 72 (vp_updL ka t rf9), aJ G m5 72 kb, aI G m6 72 kc9]) (rest := [.long 10000, .int (nI t), .ref m5]) (qc := 0) (c_X4_valueAt l hl G qm m0 m1 m2 m3 m4 m5 m6 m7 m8 m9 m10 m11 hc rf sp ha nw P M R n v g d t (by first | assumption | omega) (by first | assumption | omega) (by first | assumption | omega)) cd_X4_valueAt cv_X4_valueAt rfl rfl rfl tw_4_73 [0, 1] [2, 3, 4, 5] rfl rfl rfl rfl (by decide) rfl ⟨(Nat.le_of_ble_eq_true rfl), (Nat.le_of_ble_eq_true rfl), (Nat.le_of_ble_eq_true rfl), (Nat.le_of_ble_eq_true rfl)⟩ (Nat.le_of_ble_eq_true rfl) rfl (dcq dc_X4_findFirsts_2 25 rfl) ?_
                  rintro _ _ ⟨rfl, rfl⟩
                  change J p l e (cRm 1 31 0 0) s m args below meth c G A 6 (JQ below G A (po_X4_findFirsts G qm m0 m1 m2 m3 m4 m5 m6 m7 m8 m9 m10 m11 hc rf sp ha nw P M R n v g d s3 e4 e5 e6) args s 0 0) 0 0 187 [(4, .long ((sa (t + P / 2 + 1)) - (sa (t - P / 2)))), (0, .ref qm), (1, .int (nI (P / 2))), (2, .int (nI P)), (3, .int (nI t))] [.int (v t), .long 10000, .int (nI t), .ref m5] [aJ G m3 73 sa, aJ G m4 72 (vp_updL ka t rf9), aJ G m5 72 kb, aI G m6 72 kc9, oB 4 qm [.ref m0, .ref m1, .int (nI hc), .int (nI rf), .ref m2, .ref m3, .ref m4, .ref m5, .ref m6, .ref m7, .ref m8, .long sp, .ref m9, .ref m10, .ref m11, .long ha], aI G m0 220 nw]
                  refine J_world (ws2 := [oB 4 qm [.ref m0, .ref m1, .int (nI hc), .int (nI rf), .ref m2, .ref m3, .ref m4, .ref m5, .ref m6, .ref m7, .ref m8, .long sp, .ref m9, .ref m10, .ref m11, .long ha], aI G m0 220 nw, aJ G m3 73 sa, aJ G m4 72 (vp_updL ka t rf9), aJ G m5 72 kb, aI G m6 72 kc9]) [4, 5, 0, 1, 2, 3] rfl rfl ?_
                  refine J_i2l F (v := (v t).toInt64) (dcq dc_X4_findFirsts_2 26 rfl) rfl ?_
                  refine J_lmul F (v := 10000 * ((v t).toInt64)) (dcq dc_X4_findFirsts_2 27 rfl) rfl ?_
                  refine J_aload_n F 1 (dcq dc_X4_findFirsts_2 28 rfl) rfl rfl ?_
                  refine J_get F fcX4 0 6 rfl (Nat.le_of_ble_eq_true rfl) tw_3_229 rfl rfl (dcq dc_X4_findFirsts_2 29 rfl) ?_
                  refine J_iload_n F 4 (dcq dc_X4_findFirsts_2 30 rfl) rfl rfl ?_
                  refine J_lald F 3 rfl (by omega) (Nat.le_of_ble_eq_true rfl) (dcq dc_X4_findFirsts_2 31 rfl) ?_
                  refine J_callS F (wc := []) (wr := [oB 4 qm [.ref m0, .ref m1, .int (nI hc), .int (nI rf), .ref m2, .ref m3, .ref m4, .ref m5, .ref m6, .ref m7, .ref m8, .long sp, .ref m9, .ref m10, .ref m11, .long ha], aI G m0 220 nw, aJ G m3 73 sa, aJ G m4 72 (vp_updL ka t rf9), aJ G m5 72 kb, aI G m6 72 kc9]) (rest := [.int (nI t), .ref m5]) (c_X4_over l hl G (10000 * ((v t).toInt64)) ((vp_updL ka t rf9) t) (by rw [pk_uLs, hft, tI0]; have hbt := (ft_btw hP hP12 hn hv ht1 (by omega)).1; rw [if_neg (by omega)] at hbt; omega)) cd_X4_over tw_4_138 tw_4_137 [] [0, 1, 2, 3, 4, 5] rfl rfl rfl rfl (by decide) rfl ⟨(Nat.le_of_ble_eq_true rfl), (Nat.le_of_ble_eq_true rfl), (Nat.le_of_ble_eq_true rfl), (Nat.le_of_ble_eq_true rfl)⟩ (Nat.le_of_ble_eq_true rfl) rfl (dcq dc_X4_findFirsts_2 32 rfl) ?_
                  rintro _ _ ⟨rd9, rfl, rfl, hrd⟩
                  change J p l e (cRm 1 31 0 0) s m args below meth c G A 6 (JQ below G A (po_X4_findFirsts G qm m0 m1 m2 m3 m4 m5 m6 m7 m8 m9 m10 m11 hc rf sp ha nw P M R n v g d s3 e4 e5 e6) args s 0 0) 0 0 198 [(4, .long ((sa (t + P / 2 + 1)) - (sa (t - P / 2)))), (0, .ref qm), (1, .int (nI (P / 2))), (2, .int (nI P)), (3, .int (nI t))] [.long rd9, .int (nI t), .ref m5] [oB 4 qm [.ref m0, .ref m1, .int (nI hc), .int (nI rf), .ref m2, .ref m3, .ref m4, .ref m5, .ref m6, .ref m7, .ref m8, .long sp, .ref m9, .ref m10, .ref m11, .long ha], aI G m0 220 nw, aJ G m3 73 sa, aJ G m4 72 (vp_updL ka t rf9), aJ G m5 72 kb, aI G m6 72 kc9]
                  have hrd : rd9 = quo (10000 * ((v t).toInt64)) ((vp_updL ka t rf9) t) := hrd
                  refine J_last F (ws2 := [oB 4 qm [.ref m0, .ref m1, .int (nI hc), .int (nI rf), .ref m2, .ref m3, .ref m4, .ref m5, .ref m6, .ref m7, .ref m8, .long sp, .ref m9, .ref m10, .ref m11, .long ha], aI G m0 220 nw, aJ G m3 73 sa, aJ G m4 72 (vp_updL ka t rf9), aJ G m5 72 (vp_updL kb t rd9), aI G m6 72 kc9]) 4 rfl (by omega) (Nat.le_of_ble_eq_true rfl) rfl (dcq dc_X4_findFirsts_2 33 rfl) ?_
                  refine J_aload_n F 1 (dcq dc_X4_findFirsts_2 34 rfl) rfl rfl ?_
                  refine J_get F fcX4 0 8 rfl (Nat.le_of_ble_eq_true rfl) tw_3_231 rfl rfl (dcq dc_X4_findFirsts_2 35 rfl) ?_
                  refine J_iload_n F 4 (dcq dc_X4_findFirsts_2 36 rfl) rfl rfl ?_
                  refine J_bipush F (dcq dc_X4_findFirsts_2 37 rfl) bc_100 ?_
                  refine J_iast F (ws2 := [oB 4 qm [.ref m0, .ref m1, .int (nI hc), .int (nI rf), .ref m2, .ref m3, .ref m4, .ref m5, .ref m6, .ref m7, .ref m8, .long sp, .ref m9, .ref m10, .ref m11, .long ha], aI G m0 220 nw, aJ G m3 73 sa, aJ G m4 72 (vp_updL ka t rf9), aJ G m5 72 (vp_updL kb t rd9), aI G m6 72 (upd kc9 t (nI 100))]) 5 rfl (by omega) (Nat.le_of_ble_eq_true rfl) rfl (dcq dc_X4_findFirsts_2 38 rfl) ?_
                  refine J_iinc F (lv2 := [(3, .int (nI (t + 1))), (4, .long ((sa (t + P / 2 + 1)) - (sa (t - P / 2)))), (0, .ref qm), (1, .int (nI (P / 2))), (2, .int (nI P))]) (v := nI (t + 1)) 4 (dcq dc_X4_findFirsts_2 39 rfl) rfl (nI_inc _) (Nat.le_of_ble_eq_true rfl) rfl ?_
                  refine J_goto F 60 (dcq dc_X4_findFirsts_2 40 rfl) (by decide) ?_
                  refine J_locs [2, 3, 4, 0] rfl ?_
                  exact ih60 (t + 1) (vp_updL ka t rf9) (vp_updL kb t rd9) (upd kc9 t (nI 100)) (by omega) (by omega) (up_l i4 hft) (up_l i5 (by unfold dv; first | (rw [if_pos hm, pk_uLs, hft]; rfl) | (rw [if_neg (by omega), hrd, pk_uLs, hft]; rfl))) (up_i (s := fun _ => nI 100) i6 rfl) (by omega)
                · skip
                  have hm := h_5
                  refine J_aload_n F 1 (dcq dc_X4_findFirsts_2 12 rfl) rfl rfl ?_
                  refine J_iload_n F 4 (dcq dc_X4_findFirsts_2 13 rfl) rfl rfl ?_
                  refine J_callV F (wc := [oB 4 qm [.ref m0, .ref m1, .int (nI hc), .int (nI rf), .ref m2, .ref m3, .ref m4, .ref m5, .ref m6, .ref m7, .ref m8, .long sp, .ref m9, .ref m10, .ref m11, .long ha], aI G m0 220 nw]) (wr := [aJ G m3 73 sa, aJ G m4 72 (vp_updL ka t rf9), aJ G m5 72 kb, aI G m6 72 kc9]) (rest := [.int (nI t), .ref m5]) (qc := 0) (c_X4_valueAt l hl G qm m0 m1 m2 m3 m4 m5 m6 m7 m8 m9 m10 m11 hc rf sp ha nw P M R n v g d t (by first | assumption | omega) (by first | assumption | omega) (by first | assumption | omega)) cd_X4_valueAt cv_X4_valueAt rfl rfl rfl tw_4_73 [0, 1] [2, 3, 4, 5] rfl rfl rfl rfl (by decide) rfl ⟨(Nat.le_of_ble_eq_true rfl), (Nat.le_of_ble_eq_true rfl), (Nat.le_of_ble_eq_true rfl), (Nat.le_of_ble_eq_true rfl)⟩ (Nat.le_of_ble_eq_true rfl) rfl (dcq dc_X4_findFirsts_2 14 rfl) ?_
                  rintro _ _ ⟨rfl, rfl⟩
                  change J p l e (cRm 1 31 0 0) s m args below meth c G A 6 (JQ below G A (po_X4_findFirsts G qm m0 m1 m2 m3 m4 m5 m6 m7 m8 m9 m10 m11 hc rf sp ha nw P M R n v g d s3 e4 e5 e6) args s 0 0) 0 0 168 [(4, .long ((sa (t + P / 2 + 1)) - (sa (t - P / 2)))), (0, .ref qm), (1, .int (nI (P / 2))), (2, .int (nI P)), (3, .int (nI t))] [.int (v t), .int (nI t), .ref m5] [aJ G m3 73 sa, aJ G m4 72 (vp_updL ka t rf9), aJ G m5 72 kb, aI G m6 72 kc9, oB 4 qm [.ref m0, .ref m1, .int (nI hc), .int (nI rf), .ref m2, .ref m3, .ref m4, .ref m5, .ref m6, .ref m7, .ref m8, .long sp, .ref m9, .ref m10, .ref m11, .long ha], aI G m0 220 nw]
                  refine J_world (ws2 := [oB 4 qm [.ref m0, .ref m1, .int (nI hc), .int (nI rf), .ref m2, .ref m3, .ref m4, .ref m5, .ref m6, .ref m7, .ref m8, .long sp, .ref m9, .ref m10, .ref m11, .long ha], aI G m0 220 nw, aJ G m3 73 sa, aJ G m4 72 (vp_updL ka t rf9), aJ G m5 72 kb, aI G m6 72 kc9]) [4, 5, 0, 1, 2, 3] rfl rfl ?_
                  refine J_i2l F (v := (v t).toInt64) (dcq dc_X4_findFirsts_2 15 rfl) rfl ?_
                  refine J_aload_n F 1 (dcq dc_X4_findFirsts_2 16 rfl) rfl rfl ?_
                  refine J_get F fcX4 0 6 rfl (Nat.le_of_ble_eq_true rfl) tw_3_229 rfl rfl (dcq dc_X4_findFirsts_2 17 rfl) ?_
                  refine J_iload_n F 4 (dcq dc_X4_findFirsts_2 18 rfl) rfl rfl ?_
                  refine J_lald F 3 rfl (by omega) (Nat.le_of_ble_eq_true rfl) (dcq dc_X4_findFirsts_2 19 rfl) ?_
                  refine J_lsub F (v := ((v t).toInt64) - ((vp_updL ka t rf9) t)) (dcq dc_X4_findFirsts_2 20 rfl) rfl ?_
                  refine J_goto F 198 (dcq dc_X4_findFirsts_2 21 rfl) (by decide) ?_
                  refine J_last F (ws2 := [oB 4 qm [.ref m0, .ref m1, .int (nI hc), .int (nI rf), .ref m2, .ref m3, .ref m4, .ref m5, .ref m6, .ref m7, .ref m8, .long sp, .ref m9, .ref m10, .ref m11, .long ha], aI G m0 220 nw, aJ G m3 73 sa, aJ G m4 72 (vp_updL ka t rf9), aJ G m5 72 (vp_updL kb t (((v t).toInt64) - ((vp_updL ka t rf9) t))), aI G m6 72 kc9]) 4 rfl (by omega) (Nat.le_of_ble_eq_true rfl) rfl (dcq dc_X4_findFirsts_2 33 rfl) ?_
                  refine J_aload_n F 1 (dcq dc_X4_findFirsts_2 34 rfl) rfl rfl ?_
                  refine J_get F fcX4 0 8 rfl (Nat.le_of_ble_eq_true rfl) tw_3_231 rfl rfl (dcq dc_X4_findFirsts_2 35 rfl) ?_
                  refine J_iload_n F 4 (dcq dc_X4_findFirsts_2 36 rfl) rfl rfl ?_
                  refine J_bipush F (dcq dc_X4_findFirsts_2 37 rfl) bc_100 ?_
                  refine J_iast F (ws2 := [oB 4 qm [.ref m0, .ref m1, .int (nI hc), .int (nI rf), .ref m2, .ref m3, .ref m4, .ref m5, .ref m6, .ref m7, .ref m8, .long sp, .ref m9, .ref m10, .ref m11, .long ha], aI G m0 220 nw, aJ G m3 73 sa, aJ G m4 72 (vp_updL ka t rf9), aJ G m5 72 (vp_updL kb t (((v t).toInt64) - ((vp_updL ka t rf9) t))), aI G m6 72 (upd kc9 t (nI 100))]) 5 rfl (by omega) (Nat.le_of_ble_eq_true rfl) rfl (dcq dc_X4_findFirsts_2 38 rfl) ?_
                  refine J_iinc F (lv2 := [(3, .int (nI (t + 1))), (4, .long ((sa (t + P / 2 + 1)) - (sa (t - P / 2)))), (0, .ref qm), (1, .int (nI (P / 2))), (2, .int (nI P))]) (v := nI (t + 1)) 4 (dcq dc_X4_findFirsts_2 39 rfl) rfl (nI_inc _) (Nat.le_of_ble_eq_true rfl) rfl ?_
                  refine J_goto F 60 (dcq dc_X4_findFirsts_2 40 rfl) (by decide) ?_
                  refine J_locs [2, 3, 4, 0] rfl ?_
                  exact ih60 (t + 1) (vp_updL ka t rf9) (vp_updL kb t (((v t).toInt64) - ((vp_updL ka t rf9) t))) (upd kc9 t (nI 100)) (by omega) (by omega) (up_l i4 hft) (up_l i5 (by unfold dv; first | (rw [if_pos hm, pk_uLs, hft]; rfl) | (rw [if_neg (by omega), hrd, pk_uLs, hft]; rfl))) (up_i (s := fun _ => nI 100) i6 rfl) (by omega)
        refine J_locs [3, 2, 1, 0] rfl ?_
        exact L60 (n - P / 2 - (P / 2) + 1) (P / 2) e4 e5 e6 (by omega) (by omega) (fun j h1 h2 => absurd h2 (by omega)) (fun j h1 h2 => absurd h2 (by omega)) (fun j h1 h2 => absurd h2 (by omega)) (Nat.lt_succ_self _)
      · skip
        refine J_aload_n F 0 (dcq dc_X4_findFirsts_0 13 rfl) rfl rfl ?_
        refine J_get F fcX4 0 5 rfl (Nat.le_of_ble_eq_true rfl) tw_3_228 rfl rfl (dcq dc_X4_findFirsts_0 14 rfl) ?_
        refine J_iload_n F 1 (dcq dc_X4_findFirsts_0 15 rfl) rfl rfl ?_
        refine J_iconst F (dcq dc_X4_findFirsts_0 16 rfl) ic_1 ?_
        refine J_iadd F (v := nI (t + 1)) (dcq dc_X4_findFirsts_0 17 rfl) (nI_add _ _) ?_
        refine J_aload_n F 0 (dcq dc_X4_findFirsts_0 18 rfl) rfl rfl ?_
        refine J_get F fcX4 0 5 rfl (Nat.le_of_ble_eq_true rfl) tw_3_228 rfl rfl (dcq dc_X4_findFirsts_0 19 rfl) ?_
        refine J_iload_n F 1 (dcq dc_X4_findFirsts_0 20 rfl) rfl rfl ?_
        refine J_lald F 2 rfl (by omega) (Nat.le_of_ble_eq_true rfl) (dcq dc_X4_findFirsts_0 21 rfl) ?_
        refine J_aload_n F 0 (dcq dc_X4_findFirsts_0 22 rfl) rfl rfl ?_
        refine J_iload_n F 1 (dcq dc_X4_findFirsts_0 23 rfl) rfl rfl ?_
        refine J_callV F (wc := [oB 4 qm [.ref m0, .ref m1, .int (nI hc), .int (nI rf), .ref m2, .ref m3, .ref m4, .ref m5, .ref m6, .ref m7, .ref m8, .long sp, .ref m9, .ref m10, .ref m11, .long ha], aI G m0 220 nw]) (wr := [aJ G m3 73 sa, aJ G m4 72 e4, aJ G m5 72 e5, aI G m6 72 e6]) (rest := [.long (sa t), .int (nI (t + 1)), .ref m3]) (qc := 0) (c_X4_valueAt l hl G qm m0 m1 m2 m3 m4 m5 m6 m7 m8 m9 m10 m11 hc rf sp ha nw P M R n v g d t (by first | assumption | omega) (by first | assumption | omega) (by first | assumption | omega)) cd_X4_valueAt cv_X4_valueAt rfl rfl rfl tw_4_73 [0, 1] [2, 3, 4, 5] rfl rfl rfl rfl (by decide) rfl ⟨(Nat.le_of_ble_eq_true rfl), (Nat.le_of_ble_eq_true rfl), (Nat.le_of_ble_eq_true rfl), (Nat.le_of_ble_eq_true rfl)⟩ (Nat.le_of_ble_eq_true rfl) rfl (dcq dc_X4_findFirsts_0 24 rfl) ?_
        rintro _ _ ⟨rfl, rfl⟩
        change J p l e (cRm 1 31 0 0) s m args below meth c G A 6 (JQ below G A (po_X4_findFirsts G qm m0 m1 m2 m3 m4 m5 m6 m7 m8 m9 m10 m11 hc rf sp ha nw P M R n v g d s3 e4 e5 e6) args s 0 0) 0 0 37 [(0, .ref qm), (1, .int (nI t))] [.int (v t), .long (sa t), .int (nI (t + 1)), .ref m3] [aJ G m3 73 sa, aJ G m4 72 e4, aJ G m5 72 e5, aI G m6 72 e6, oB 4 qm [.ref m0, .ref m1, .int (nI hc), .int (nI rf), .ref m2, .ref m3, .ref m4, .ref m5, .ref m6, .ref m7, .ref m8, .long sp, .ref m9, .ref m10, .ref m11, .long ha], aI G m0 220 nw]
        refine J_world (ws2 := [oB 4 qm [.ref m0, .ref m1, .int (nI hc), .int (nI rf), .ref m2, .ref m3, .ref m4, .ref m5, .ref m6, .ref m7, .ref m8, .long sp, .ref m9, .ref m10, .ref m11, .long ha], aI G m0 220 nw, aJ G m3 73 sa, aJ G m4 72 e4, aJ G m5 72 e5, aI G m6 72 e6]) [4, 5, 0, 1, 2, 3] rfl rfl ?_
        refine J_i2l F (v := (v t).toInt64) (dcq dc_X4_findFirsts_0 25 rfl) rfl ?_
        refine J_ladd F (v := (sa t) + ((v t).toInt64)) (dcq dc_X4_findFirsts_0 26 rfl) rfl ?_
        refine J_last F (ws2 := [oB 4 qm [.ref m0, .ref m1, .int (nI hc), .int (nI rf), .ref m2, .ref m3, .ref m4, .ref m5, .ref m6, .ref m7, .ref m8, .long sp, .ref m9, .ref m10, .ref m11, .long ha], aI G m0 220 nw, aJ G m3 73 (vp_updL sa (t + 1) ((sa t) + ((v t).toInt64))), aJ G m4 72 e4, aJ G m5 72 e5, aI G m6 72 e6]) 2 rfl (by omega) (Nat.le_of_ble_eq_true rfl) rfl (dcq dc_X4_findFirsts_0 27 rfl) ?_
        refine J_iinc F (lv2 := [(1, .int (nI (t + 1))), (0, .ref qm)]) (v := nI (t + 1)) 1 (dcq dc_X4_findFirsts_0 28 rfl) rfl (nI_inc _) (Nat.le_of_ble_eq_true rfl) rfl ?_
        refine J_goto F 9 (dcq dc_X4_findFirsts_0 29 rfl) (by decide) ?_
        refine J_locs [1, 0] rfl ?_
        exact ih9 (t + 1) (vp_updL sa (t + 1) ((sa t) + ((v t).toInt64))) (by omega) (fun j h => by rcases Nat.lt_or_ge j (t + 1) with h9 | h9; (rw [pk_uLn (by omega)]; exact isa j (by omega)); (rw [show j = t + 1 by omega, pk_uLs, isa t (Nat.le_refl _)]; simp only [sm, Nat.zero_add]; rfl)) (by omega)
  refine J_locs [1, 0] rfl ?_
  exact L9 (n - 0 + 1) 0 (vp_updL s3 0 0) (by omega) (fun j h => by rw [show j = 0 by omega, pk_uLs]; rfl) (Nat.lt_succ_self _)

abbrev po_X4_findFactors (G : Gt) (qm m0 m1 m2 m3 m4 m5 m6 m7 m8 m9 m10 m11 hc rf : Nat) (sp ha : Int64) (nw : Nat → Int32) (P M R n : Nat) (v g d : Nat → Int32) (e5 : Nat → Int64) (e8 : Nat → Int64) (e6 : Nat → Int32) (w : Nat → Int32) : Option Value → va_W → Prop := fun (v9 : Option Value) (w9 : va_W) => ∃ (k8 : Nat → Int64), v9 = none ∧ w9 = [oB 4 qm [.ref m0, .ref m1, .int (nI hc), .int (nI rf), .ref m2, .ref m3, .ref m4, .ref m5, .ref m6, .ref m7, .ref m8, .long sp, .ref m9, .ref m10, .ref m11, .long ha], aI G m0 220 nw, aJ G m5 72 e5, aI G m6 72 e6, aJ G m8 12 k8] ∧ (∀ j, j < P → k8 j = fac P M (P / 2) n v w j)
set_option maxHeartbeats 4000000 in
set_option maxRecDepth 100000 in
theorem c_X4_findFactors (l : Launch) (hl : l.stackTraces = false) (G : Gt) (qm m0 m1 m2 m3 m4 m5 m6 m7 m8 m9 m10 m11 hc rf : Nat) (sp ha : Int64) (nw : Nat → Int32) (P M R n : Nat) (v g d : Nat → Int32) (e5 : Nat → Int64) (e8 : Nat → Int64) (e6 : Nat → Int32) (w : Nat → Int32) (hRM : RM nw P M R n v g d) (hn : n ≤ 72) (hP : 2 ≤ P) (hP12 : P ≤ 12) (hM : M ≤ 1) (hPn : P + 2 * (P / 2) ≤ n) (hv : GV M n v) (hdv : ∀ t, P / 2 ≤ t → t + P / 2 < n → e5 t = dv P M (P / 2) v t) (hw6 : ∀ t, P / 2 ≤ t → t + P / 2 < n → e6 t = w t) (hgw : GW P n w) : Con l G yX4_findFactors cX4_findFactors 13 none 2 46 0 0 [.ref qm] [oB 4 qm [.ref m0, .ref m1, .int (nI hc), .int (nI rf), .ref m2, .ref m3, .ref m4, .ref m5, .ref m6, .ref m7, .ref m8, .long sp, .ref m9, .ref m10, .ref m11, .long ha], aI G m0 220 nw, aJ G m5 72 e5, aI G m6 72 e6, aJ G m8 12 e8] (po_X4_findFactors G qm m0 m1 m2 m3 m4 m5 m6 m7 m8 m9 m10 m11 hc rf sp ha nw P M R n v g d e5 e8 e6 w) := by
  refine Con.of hl cd_X4_findFactors (Nat.le_of_ble_eq_true rfl) ?_
  intro p e s m args below meth c A F hin9
  change Fx p l s m args meth c G A "SeasonalAdjusterModel" cX4_findFactors 13 none at F
  change J p l e (cRm 2 46 0 0) s m args below meth c G A 13 (JQ below G A (po_X4_findFactors G qm m0 m1 m2 m3 m4 m5 m6 m7 m8 m9 m10 m11 hc rf sp ha nw P M R n v g d e5 e8 e6 w) args s 0 0) 0 0 0 [(0, .ref qm)] [] [oB 4 qm [.ref m0, .ref m1, .int (nI hc), .int (nI rf), .ref m2, .ref m3, .ref m4, .ref m5, .ref m6, .ref m7, .ref m8, .long sp, .ref m9, .ref m10, .ref m11, .long ha], aI G m0 220 nw, aJ G m5 72 e5, aI G m6 72 e6, aJ G m8 12 e8]
  refine J_aload_n F 0 (dcq dc_X4_findFactors_0 0 rfl) rfl rfl ?_
  refine J_get F fcX4 0 0 rfl (Nat.le_of_ble_eq_true rfl) tw_3_223 rfl rfl (dcq dc_X4_findFactors_0 1 rfl) ?_
  refine J_iconst F (dcq dc_X4_findFactors_0 2 rfl) ic_0 ?_
  refine J_iald F 1 rfl (by omega) (Nat.le_of_ble_eq_true rfl) (dcq dc_X4_findFactors_0 3 rfl) ?_
  refine J_cast rfl (st2 := [.int (nI P)]) (by rw [hRM.1]) rfl ?_
  refine J_istore_n F (lv2 := [(1, .int (nI P)), (0, .ref qm)]) (dcq dc_X4_findFactors_0 4 rfl) rfl (Nat.le_of_ble_eq_true rfl) rfl ?_
  refine J_lconst F (dcq dc_X4_findFactors_0 5 rfl) lc_0 ?_
  refine J_lstore_n F (lv2 := [(2, .long 0), (1, .int (nI P)), (0, .ref qm)]) (dcq dc_X4_findFactors_0 6 rfl) rfl (Nat.le_of_ble_eq_true rfl) rfl ?_
  refine J_iconst F (dcq dc_X4_findFactors_0 7 rfl) ic_0 ?_
  refine J_istore F (lv2 := [(4, .int (nI 0)), (2, .long 0), (1, .int (nI P)), (0, .ref qm)]) (dcq dc_X4_findFactors_0 8 rfl) (Nat.le_of_ble_eq_true rfl) rfl ?_
  have L12 : ∀ (fu12 : Nat), ∀ (s9 : Nat) (xa : Int64) (ka : Nat → Int64), (s9 ≤ P) → (xa = sm (raw P M (P / 2) n v w) 0 s9) → (∀ j, 0 ≤ j → j < s9 → ka j = raw P M (P / 2) n v w j) → P - s9 < fu12 → J p l e (cRm 2 46 0 0) s m args below meth c G A 13 (JQ below G A (po_X4_findFactors G qm m0 m1 m2 m3 m4 m5 m6 m7 m8 m9 m10 m11 hc rf sp ha nw P M R n v g d e5 e8 e6 w) args s 0 0) 0 0 12 [(0, .ref qm), (1, .int (nI P)), (2, .long xa), (4, .int (nI s9))] [] [oB 4 qm [.ref m0, .ref m1, .int (nI hc), .int (nI rf), .ref m2, .ref m3, .ref m4, .ref m5, .ref m6, .ref m7, .ref m8, .long sp, .ref m9, .ref m10, .ref m11, .long ha], aI G m0 220 nw, aJ G m5 72 e5, aI G m6 72 e6, aJ G m8 12 ka] := by
    intro fu12
    induction fu12 with
    | zero => intro s9 xa ka hs ixa i8 hm12; exact absurd hm12 (Nat.not_lt_zero _)
    | succ fu12 ih12 =>
      intro s9 xa ka hs ixa i8 hm12
      refine J_iload F 3 (dcq dc_X4_findFactors_0 9 rfl) rfl ?_
      refine J_iload_n F 1 (dcq dc_X4_findFactors_0 10 rfl) rfl rfl ?_
      refine J_ncmp_ge F 160 (by omega) (by omega) (dcq dc_X4_findFactors_0 11 rfl) (by decide) (fun h_1 => ?_) (fun h_1 => ?_)
      · skip
        have hzz : xa = zz P M (P / 2) n v w := by rw [ixa, show s9 = P by omega]; rfl
        refine J_iconst F (dcq dc_X4_findFactors_1 43 rfl) ic_0 ?_
        refine J_istore F (lv2 := [(4, .int (nI 0)), (0, .ref qm), (1, .int (nI P)), (2, .long xa)]) (dcq dc_X4_findFactors_1 44 rfl) (Nat.le_of_ble_eq_true rfl) rfl ?_
        have L163 : ∀ (fu163 : Nat), ∀ (s2 : Nat) (kb : Nat → Int64), (s2 ≤ P) → (∀ j, 0 ≤ j → j < s2 → kb j = fac P M (P / 2) n v w j) → (∀ j, s2 ≤ j → j < P → kb j = raw P M (P / 2) n v w j) → P - s2 < fu163 → J p l e (cRm 2 46 0 0) s m args below meth c G A 13 (JQ below G A (po_X4_findFactors G qm m0 m1 m2 m3 m4 m5 m6 m7 m8 m9 m10 m11 hc rf sp ha nw P M R n v g d e5 e8 e6 w) args s 0 0) 0 0 163 [(0, .ref qm), (1, .int (nI P)), (2, .long xa), (4, .int (nI s2))] [] [oB 4 qm [.ref m0, .ref m1, .int (nI hc), .int (nI rf), .ref m2, .ref m3, .ref m4, .ref m5, .ref m6, .ref m7, .ref m8, .long sp, .ref m9, .ref m10, .ref m11, .long ha], aI G m0 220 nw, aJ G m5 72 e5, aI G m6 72 e6, aJ G m8 12 kb] := by
          intro fu163
          induction fu163 with
          | zero => intro s2 kb hs2 j8 j9 hm163; exact absurd hm163 (Nat.not_lt_zero _)
          | succ fu163 ih163 =>
            intro s2 kb hs2 j8 j9 hm163
            refine J_iload F 3 (dcq dc_X4_findFactors_1 45 rfl) rfl ?_
            refine J_iload_n F 1 (dcq dc_X4_findFactors_1 46 rfl) rfl rfl ?_
            refine J_ncmp_ge F 253 (by omega) (by omega) (dcq dc_X4_findFactors_1 47 rfl) (by decide) (fun h_2 => ?_) (fun h_2 => ?_)
            · skip
              exact J_vret F ⟨kb, rfl, rfl, fun j h => j8 j (Nat.zero_le _) (by omega)⟩ (Nat.le_of_ble_eq_true rfl) (Nat.le_of_ble_eq_true rfl) (dcq dc_X4_findFactors_3 0 rfl)
            · skip
              refine J_aload_n F 0 (dcq dc_X4_findFactors_2 0 rfl) rfl rfl ?_
              refine J_get F fcX4 0 0 rfl (Nat.le_of_ble_eq_true rfl) tw_3_223 rfl rfl (dcq dc_X4_findFactors_2 1 rfl) ?_
              refine J_iconst F (dcq dc_X4_findFactors_2 2 rfl) ic_1 ?_
              refine J_iald F 1 rfl (by omega) (Nat.le_of_ble_eq_true rfl) (dcq dc_X4_findFactors_2 3 rfl) ?_
              refine J_cast rfl (st2 := [.int (nI M)]) (by rw [hRM.2.1]) rfl ?_
              refine J_nif_ne F 197 (by omega) (dcq dc_X4_findFactors_2 4 rfl) (by decide) (fun h_3 => ?_) (fun h_3 => ?_)
              · skip
                have hm := h_3
                refine J_lload_n F 2 (dcq dc_X4_findFactors_2 17 rfl) rfl rfl ?_
                refine J_lconst F (dcq dc_X4_findFactors_2 18 rfl) lc_0 ?_
                refine J_lcmp_ne F 207 (dcq dc_X4_findFactors_2 19 rfl) (dcq dc_X4_findFactors_2 20 rfl) (by decide) (fun h_4 => ?_) (fun h_4 => ?_)
                · skip
                  have hz := h_4
                  refine J_ldc2 F (v2 := (10000)) tw_4_180 rfl (dcq dc_X4_findFactors_2 23 rfl) ?_
                  refine J_iload_n F 1 (dcq dc_X4_findFactors_2 24 rfl) rfl rfl ?_
                  refine J_i2l F (v := lN P) (dcq dc_X4_findFactors_2 25 rfl) (nI_l (by omega)) ?_
                  refine J_lmul F (v := 10000 * (lN P)) (dcq dc_X4_findFactors_2 26 rfl) rfl ?_
                  refine J_aload_n F 0 (dcq dc_X4_findFactors_2 27 rfl) rfl rfl ?_
                  refine J_get F fcX4 0 10 rfl (Nat.le_of_ble_eq_true rfl) tw_3_233 rfl rfl (dcq dc_X4_findFactors_2 28 rfl) ?_
                  refine J_iload F 3 (dcq dc_X4_findFactors_2 29 rfl) rfl ?_
                  refine J_lald F 4 rfl (by omega) (Nat.le_of_ble_eq_true rfl) (dcq dc_X4_findFactors_2 30 rfl) ?_
                  refine J_lmul F (v := (10000 * (lN P)) * (kb s2)) (dcq dc_X4_findFactors_2 31 rfl) rfl ?_
                  refine J_lload_n F 2 (dcq dc_X4_findFactors_2 32 rfl) rfl rfl ?_
                  refine J_callS F (wc := []) (wr := [oB 4 qm [.ref m0, .ref m1, .int (nI hc), .int (nI rf), .ref m2, .ref m3, .ref m4, .ref m5, .ref m6, .ref m7, .ref m8, .long sp, .ref m9, .ref m10, .ref m11, .long ha], aI G m0 220 nw, aJ G m5 72 e5, aI G m6 72 e6, aJ G m8 12 kb]) (rest := []) (c_X4_over l hl G ((10000 * (lN P)) * (kb s2)) xa (by rw [hzz]; exact zz_nn hP hP12 hn hPn hv hgw (by omega) (by rw [← hzz]; exact hz))) cd_X4_over tw_4_138 tw_4_137 [] [0, 1, 2, 3, 4] rfl rfl rfl rfl (by decide) rfl ⟨(Nat.le_of_ble_eq_true rfl), (Nat.le_of_ble_eq_true rfl), (Nat.le_of_ble_eq_true rfl), (Nat.le_of_ble_eq_true rfl)⟩ (Nat.le_of_ble_eq_true rfl) rfl (dcq dc_X4_findFactors_2 33 rfl) ?_
                  rintro _ _ ⟨rt, rfl, rfl, hrt⟩
                  change J p l e (cRm 2 46 0 0) s m args below meth c G A 13 (JQ below G A (po_X4_findFactors G qm m0 m1 m2 m3 m4 m5 m6 m7 m8 m9 m10 m11 hc rf sp ha nw P M R n v g d e5 e8 e6 w) args s 0 0) 0 0 225 [(0, .ref qm), (1, .int (nI P)), (2, .long xa), (4, .int (nI s2))] [.long rt] [oB 4 qm [.ref m0, .ref m1, .int (nI hc), .int (nI rf), .ref m2, .ref m3, .ref m4, .ref m5, .ref m6, .ref m7, .ref m8, .long sp, .ref m9, .ref m10, .ref m11, .long ha], aI G m0 220 nw, aJ G m5 72 e5, aI G m6 72 e6, aJ G m8 12 kb]
                  have hrt : rt = quo ((10000 * (lN P)) * (kb s2)) xa := hrt
                  refine J_lstore F (lv2 := [(5, .long rt), (0, .ref qm), (1, .int (nI P)), (2, .long xa), (4, .int (nI s2))]) (dcq dc_X4_findFactors_2 34 rfl) (Nat.le_of_ble_eq_true rfl) rfl ?_
                  refine J_aload_n F 1 (dcq dc_X4_findFactors_2 35 rfl) rfl rfl ?_
                  refine J_get F fcX4 0 10 rfl (Nat.le_of_ble_eq_true rfl) tw_3_233 rfl rfl (dcq dc_X4_findFactors_2 36 rfl) ?_
                  refine J_iload F 4 (dcq dc_X4_findFactors_2 37 rfl) rfl ?_
                  refine J_lload F 0 (dcq dc_X4_findFactors_2 38 rfl) rfl ?_
                  refine J_lconst F (dcq dc_X4_findFactors_2 39 rfl) lc_1 ?_
                  refine J_lcmp_ge F 244 (dcq dc_X4_findFactors_2 40 rfl) (dcq dc_X4_findFactors_2 41 rfl) (by decide) (fun h_5 => ?_) (fun h_5 => ?_)
                  · skip
                    have hq1 := h_5
                    refine J_lload F 0 (dcq dc_X4_findFactors_2 44 rfl) rfl ?_
                    refine J_last F (ws2 := [oB 4 qm [.ref m0, .ref m1, .int (nI hc), .int (nI rf), .ref m2, .ref m3, .ref m4, .ref m5, .ref m6, .ref m7, .ref m8, .long sp, .ref m9, .ref m10, .ref m11, .long ha], aI G m0 220 nw, aJ G m5 72 e5, aI G m6 72 e6, aJ G m8 12 (vp_updL kb s2 rt)]) 4 rfl (by omega) (Nat.le_of_ble_eq_true rfl) rfl (dcq dc_X4_findFactors_2 45 rfl) ?_
                    refine J_iinc F (lv2 := [(4, .int (nI (s2 + 1))), (5, .long rt), (0, .ref qm), (1, .int (nI P)), (2, .long xa)]) (v := nI (s2 + 1)) 4 (dcq dc_X4_findFactors_2 46 rfl) rfl (nI_inc _) (Nat.le_of_ble_eq_true rfl) rfl ?_
                    refine J_goto F 163 (dcq dc_X4_findFactors_2 47 rfl) (by decide) ?_
                    refine J_locs [2, 3, 4, 0] rfl ?_
                    exact ih163 (s2 + 1) (vp_updL kb s2 rt) (by omega) (up_l j8 (by unfold fac; first | (rw [if_pos hm, hrs, hzz, j9 s2 (Nat.le_refl _) (by omega)]; done) | (rw [if_neg (by omega)]; unfold rat; first | (rw [← hzz, if_pos hz]; done) | (rw [← hzz, if_neg hz]; unfold mx1; rw [← j9 s2 (Nat.le_refl _) (by omega), ← hrt]; first | exact (if_neg (Int64.not_lt.mpr hq1)).symm | exact (if_pos (Int64.not_le.mp hq1)).symm)))) (fun j h1 h2 => by rw [pk_uLn (by omega)]; exact j9 j (by omega) h2) (by omega)
                  · skip
                    have hq1 := h_5
                    refine J_lconst F (dcq dc_X4_findFactors_2 42 rfl) lc_1 ?_
                    refine J_goto F 246 (dcq dc_X4_findFactors_2 43 rfl) (by decide) ?_
                    refine J_last F (ws2 := [oB 4 qm [.ref m0, .ref m1, .int (nI hc), .int (nI rf), .ref m2, .ref m3, .ref m4, .ref m5, .ref m6, .ref m7, .ref m8, .long sp, .ref m9, .ref m10, .ref m11, .long ha], aI G m0 220 nw, aJ G m5 72 e5, aI G m6 72 e6, aJ G m8 12 (vp_updL kb s2 1)]) 4 rfl (by omega) (Nat.le_of_ble_eq_true rfl) rfl (dcq dc_X4_findFactors_2 45 rfl) ?_
                    refine J_iinc F (lv2 := [(4, .int (nI (s2 + 1))), (5, .long rt), (0, .ref qm), (1, .int (nI P)), (2, .long xa)]) (v := nI (s2 + 1)) 4 (dcq dc_X4_findFactors_2 46 rfl) rfl (nI_inc _) (Nat.le_of_ble_eq_true rfl) rfl ?_
                    refine J_goto F 163 (dcq dc_X4_findFactors_2 47 rfl) (by decide) ?_
                    refine J_locs [2, 3, 4, 0] rfl ?_
                    exact ih163 (s2 + 1) (vp_updL kb s2 1) (by omega) (up_l j8 (by unfold fac; first | (rw [if_pos hm, hrs, hzz, j9 s2 (Nat.le_refl _) (by omega)]; done) | (rw [if_neg (by omega)]; unfold rat; first | (rw [← hzz, if_pos hz]; done) | (rw [← hzz, if_neg hz]; unfold mx1; rw [← j9 s2 (Nat.le_refl _) (by omega), ← hrt]; first | exact (if_neg (Int64.not_lt.mpr hq1)).symm | exact (if_pos (Int64.not_le.mp hq1)).symm)))) (fun j h1 h2 => by rw [pk_uLn (by omega)]; exact j9 j (by omega) h2) (by omega)
                · skip
                  have hz := h_4
                  refine J_lconst F (dcq dc_X4_findFactors_2 21 rfl) lc_1 ?_
                  refine J_goto F 225 (dcq dc_X4_findFactors_2 22 rfl) (by decide) ?_
                  refine J_lstore F (lv2 := [(5, .long 1), (0, .ref qm), (1, .int (nI P)), (2, .long xa), (4, .int (nI s2))]) (dcq dc_X4_findFactors_2 34 rfl) (Nat.le_of_ble_eq_true rfl) rfl ?_
                  refine J_aload_n F 1 (dcq dc_X4_findFactors_2 35 rfl) rfl rfl ?_
                  refine J_get F fcX4 0 10 rfl (Nat.le_of_ble_eq_true rfl) tw_3_233 rfl rfl (dcq dc_X4_findFactors_2 36 rfl) ?_
                  refine J_iload F 4 (dcq dc_X4_findFactors_2 37 rfl) rfl ?_
                  refine J_lload F 0 (dcq dc_X4_findFactors_2 38 rfl) rfl ?_
                  refine J_lconst F (dcq dc_X4_findFactors_2 39 rfl) lc_1 ?_
                  refine J_lcmp_ge F 244 (dcq dc_X4_findFactors_2 40 rfl) (dcq dc_X4_findFactors_2 41 rfl) (by decide) (fun h_6 => ?_) (fun h_6 => ?_)
                  · skip
                    have hq1 := h_6
                    refine J_lload F 0 (dcq dc_X4_findFactors_2 44 rfl) rfl ?_
                    refine J_last F (ws2 := [oB 4 qm [.ref m0, .ref m1, .int (nI hc), .int (nI rf), .ref m2, .ref m3, .ref m4, .ref m5, .ref m6, .ref m7, .ref m8, .long sp, .ref m9, .ref m10, .ref m11, .long ha], aI G m0 220 nw, aJ G m5 72 e5, aI G m6 72 e6, aJ G m8 12 (vp_updL kb s2 1)]) 4 rfl (by omega) (Nat.le_of_ble_eq_true rfl) rfl (dcq dc_X4_findFactors_2 45 rfl) ?_
                    refine J_iinc F (lv2 := [(4, .int (nI (s2 + 1))), (5, .long 1), (0, .ref qm), (1, .int (nI P)), (2, .long xa)]) (v := nI (s2 + 1)) 4 (dcq dc_X4_findFactors_2 46 rfl) rfl (nI_inc _) (Nat.le_of_ble_eq_true rfl) rfl ?_
                    refine J_goto F 163 (dcq dc_X4_findFactors_2 47 rfl) (by decide) ?_
                    refine J_locs [2, 3, 4, 0] rfl ?_
                    exact ih163 (s2 + 1) (vp_updL kb s2 1) (by omega) (up_l j8 (by unfold fac; first | (rw [if_pos hm, hrs, hzz, j9 s2 (Nat.le_refl _) (by omega)]; done) | (rw [if_neg (by omega)]; unfold rat; first | (rw [← hzz, if_pos hz]; done) | (rw [← hzz, if_neg hz]; unfold mx1; rw [← j9 s2 (Nat.le_refl _) (by omega), ← hrt]; first | exact (if_neg (Int64.not_lt.mpr hq1)).symm | exact (if_pos (Int64.not_le.mp hq1)).symm)))) (fun j h1 h2 => by rw [pk_uLn (by omega)]; exact j9 j (by omega) h2) (by omega)
                  · skip
                    have hq1 := h_6
                    refine J_lconst F (dcq dc_X4_findFactors_2 42 rfl) lc_1 ?_
                    refine J_goto F 246 (dcq dc_X4_findFactors_2 43 rfl) (by decide) ?_
                    refine J_last F (ws2 := [oB 4 qm [.ref m0, .ref m1, .int (nI hc), .int (nI rf), .ref m2, .ref m3, .ref m4, .ref m5, .ref m6, .ref m7, .ref m8, .long sp, .ref m9, .ref m10, .ref m11, .long ha], aI G m0 220 nw, aJ G m5 72 e5, aI G m6 72 e6, aJ G m8 12 (vp_updL kb s2 1)]) 4 rfl (by omega) (Nat.le_of_ble_eq_true rfl) rfl (dcq dc_X4_findFactors_2 45 rfl) ?_
                    refine J_iinc F (lv2 := [(4, .int (nI (s2 + 1))), (5, .long 1), (0, .ref qm), (1, .int (nI P)), (2, .long xa)]) (v := nI (s2 + 1)) 4 (dcq dc_X4_findFactors_2 46 rfl) rfl (nI_inc _) (Nat.le_of_ble_eq_true rfl) rfl ?_
                    refine J_goto F 163 (dcq dc_X4_findFactors_2 47 rfl) (by decide) ?_
                    refine J_locs [2, 3, 4, 0] rfl ?_
                    exact ih163 (s2 + 1) (vp_updL kb s2 1) (by omega) (up_l j8 (by unfold fac; first | (rw [if_pos hm, hrs, hzz, j9 s2 (Nat.le_refl _) (by omega)]; done) | (rw [if_neg (by omega)]; unfold rat; first | (rw [← hzz, if_pos hz]; done) | (rw [← hzz, if_neg hz]; unfold mx1; rw [← j9 s2 (Nat.le_refl _) (by omega), ← hrt]; first | exact (if_neg (Int64.not_lt.mpr hq1)).symm | exact (if_pos (Int64.not_le.mp hq1)).symm)))) (fun j h1 h2 => by rw [pk_uLn (by omega)]; exact j9 j (by omega) h2) (by omega)
              · skip
                have hm := h_3
                refine J_aload_n F 0 (dcq dc_X4_findFactors_2 5 rfl) rfl rfl ?_
                refine J_get F fcX4 0 10 rfl (Nat.le_of_ble_eq_true rfl) tw_3_233 rfl rfl (dcq dc_X4_findFactors_2 6 rfl) ?_
                refine J_iload F 3 (dcq dc_X4_findFactors_2 7 rfl) rfl ?_
                refine J_dup2 F (dcq dc_X4_findFactors_2 8 rfl) rfl rfl ?_
                refine J_lald F 4 rfl (by omega) (Nat.le_of_ble_eq_true rfl) (dcq dc_X4_findFactors_2 9 rfl) ?_
                refine J_lload_n F 2 (dcq dc_X4_findFactors_2 10 rfl) rfl rfl ?_
                refine J_iload_n F 1 (dcq dc_X4_findFactors_2 11 rfl) rfl rfl ?_
                refine J_i2l F (v := lN P) (dcq dc_X4_findFactors_2 12 rfl) (nI_l (by omega)) ?_
                refine J_callS F (wc := []) (wr := [oB 4 qm [.ref m0, .ref m1, .int (nI hc), .int (nI rf), .ref m2, .ref m3, .ref m4, .ref m5, .ref m6, .ref m7, .ref m8, .long sp, .ref m9, .ref m10, .ref m11, .long ha], aI G m0 220 nw, aJ G m5 72 e5, aI G m6 72 e6, aJ G m8 12 kb]) (rest := [.long (kb s2), .int (nI s2), .ref m8]) (c_X4_over l hl G xa (lN P) (by exact lNpos (by omega) (by omega))) cd_X4_over tw_4_138 tw_4_137 [] [0, 1, 2, 3, 4] rfl rfl rfl rfl (by decide) rfl ⟨(Nat.le_of_ble_eq_true rfl), (Nat.le_of_ble_eq_true rfl), (Nat.le_of_ble_eq_true rfl), (Nat.le_of_ble_eq_true rfl)⟩ (Nat.le_of_ble_eq_true rfl) rfl (dcq dc_X4_findFactors_2 13 rfl) ?_
                rintro _ _ ⟨rs, rfl, rfl, hrs⟩
                change J p l e (cRm 2 46 0 0) s m args below meth c G A 13 (JQ below G A (po_X4_findFactors G qm m0 m1 m2 m3 m4 m5 m6 m7 m8 m9 m10 m11 hc rf sp ha nw P M R n v g d e5 e8 e6 w) args s 0 0) 0 0 192 [(0, .ref qm), (1, .int (nI P)), (2, .long xa), (4, .int (nI s2))] [.long rs, .long (kb s2), .int (nI s2), .ref m8] [oB 4 qm [.ref m0, .ref m1, .int (nI hc), .int (nI rf), .ref m2, .ref m3, .ref m4, .ref m5, .ref m6, .ref m7, .ref m8, .long sp, .ref m9, .ref m10, .ref m11, .long ha], aI G m0 220 nw, aJ G m5 72 e5, aI G m6 72 e6, aJ G m8 12 kb]
                have hrs : rs = quo xa (lN P) := hrs
                refine J_lsub F (v := (kb s2) - rs) (dcq dc_X4_findFactors_2 14 rfl) rfl ?_
                refine J_last F (ws2 := [oB 4 qm [.ref m0, .ref m1, .int (nI hc), .int (nI rf), .ref m2, .ref m3, .ref m4, .ref m5, .ref m6, .ref m7, .ref m8, .long sp, .ref m9, .ref m10, .ref m11, .long ha], aI G m0 220 nw, aJ G m5 72 e5, aI G m6 72 e6, aJ G m8 12 (vp_updL kb s2 ((kb s2) - rs))]) 4 rfl (by omega) (Nat.le_of_ble_eq_true rfl) rfl (dcq dc_X4_findFactors_2 15 rfl) ?_
                refine J_goto F 247 (dcq dc_X4_findFactors_2 16 rfl) (by decide) ?_
                refine J_iinc F (lv2 := [(4, .int (nI (s2 + 1))), (0, .ref qm), (1, .int (nI P)), (2, .long xa)]) (v := nI (s2 + 1)) 3 (dcq dc_X4_findFactors_2 46 rfl) rfl (nI_inc _) (Nat.le_of_ble_eq_true rfl) rfl ?_
                refine J_goto F 163 (dcq dc_X4_findFactors_2 47 rfl) (by decide) ?_
                refine J_locs [1, 2, 3, 0] rfl ?_
                exact ih163 (s2 + 1) (vp_updL kb s2 ((kb s2) - rs)) (by omega) (up_l j8 (by unfold fac; first | (rw [if_pos hm, hrs, hzz, j9 s2 (Nat.le_refl _) (by omega)]; done) | (rw [if_neg (by omega)]; unfold rat; first | (rw [← hzz, if_pos hz]; done) | (rw [← hzz, if_neg hz]; unfold mx1; rw [← j9 s2 (Nat.le_refl _) (by omega), ← hrt]; first | exact (if_neg (Int64.not_lt.mpr hq1)).symm | exact (if_pos (Int64.not_le.mp hq1)).symm)))) (fun j h1 h2 => by rw [pk_uLn (by omega)]; exact j9 j (by omega) h2) (by omega)
        refine J_locs [1, 2, 3, 0] rfl ?_
        exact L163 (P - 0 + 1) 0 ka (by omega) (fun j _ h => absurd h (Nat.not_lt_zero _)) (fun j _ h => i8 j (Nat.zero_le _) (by omega)) (Nat.lt_succ_self _)
      · skip
        refine J_lconst F (dcq dc_X4_findFactors_0 12 rfl) lc_0 ?_
        refine J_lstore F (lv2 := [(5, .long 0), (0, .ref qm), (1, .int (nI P)), (2, .long xa), (4, .int (nI s9))]) (dcq dc_X4_findFactors_0 13 rfl) (Nat.le_of_ble_eq_true rfl) rfl ?_
        refine J_lconst F (dcq dc_X4_findFactors_0 14 rfl) lc_0 ?_
        refine J_lstore F (lv2 := [(7, .long 0), (5, .long 0), (0, .ref qm), (1, .int (nI P)), (2, .long xa), (4, .int (nI s9))]) (dcq dc_X4_findFactors_0 15 rfl) (Nat.le_of_ble_eq_true rfl) rfl ?_
        refine J_lconst F (dcq dc_X4_findFactors_0 16 rfl) lc_0 ?_
        refine J_lstore F (lv2 := [(9, .long 0), (7, .long 0), (5, .long 0), (0, .ref qm), (1, .int (nI P)), (2, .long xa), (4, .int (nI s9))]) (dcq dc_X4_findFactors_0 17 rfl) (Nat.le_of_ble_eq_true rfl) rfl ?_
        refine J_iconst F (dcq dc_X4_findFactors_0 18 rfl) ic_0 ?_
        refine J_istore F (lv2 := [(11, .int (nI 0)), (9, .long 0), (7, .long 0), (5, .long 0), (0, .ref qm), (1, .int (nI P)), (2, .long xa), (4, .int (nI s9))]) (dcq dc_X4_findFactors_0 19 rfl) (Nat.le_of_ble_eq_true rfl) rfl ?_
        refine J_iload F 7 (dcq dc_X4_findFactors_0 20 rfl) rfl ?_
        refine J_istore F (lv2 := [(12, .int (nI s9)), (11, .int (nI 0)), (9, .long 0), (7, .long 0), (5, .long 0), (0, .ref qm), (1, .int (nI P)), (2, .long xa), (4, .int (nI s9))]) (dcq dc_X4_findFactors_0 21 rfl) (Nat.le_of_ble_eq_true rfl) rfl ?_
        have L34 : ∀ (fu34 : Nat), ∀ (t mk : Nat) (xw xs xp : Int64), (t < n + P) → (t % P = s9) → (xw = sif P s9 (fun t => xv w t * dv P M (P / 2) v t) (P / 2) (min t (n - P / 2) - P / 2)) → (xs = sif P s9 (xv w) (P / 2) (min t (n - P / 2) - P / 2)) → (xp = sif P s9 (dv P M (P / 2) v) (P / 2) (min t (n - P / 2) - P / 2)) → (mk = nif P s9 (P / 2) (min t (n - P / 2) - P / 2)) → (mk ≤ 72) → n + P - t < fu34 → J p l e (cRm 2 46 0 0) s m args below meth c G A 13 (JQ below G A (po_X4_findFactors G qm m0 m1 m2 m3 m4 m5 m6 m7 m8 m9 m10 m11 hc rf sp ha nw P M R n v g d e5 e8 e6 w) args s 0 0) 0 0 34 [(0, .ref qm), (1, .int (nI P)), (2, .long xa), (4, .int (nI s9)), (5, .long xw), (7, .long xs), (9, .long xp), (11, .int (nI mk)), (12, .int (nI t))] [] [oB 4 qm [.ref m0, .ref m1, .int (nI hc), .int (nI rf), .ref m2, .ref m3, .ref m4, .ref m5, .ref m6, .ref m7, .ref m8, .long sp, .ref m9, .ref m10, .ref m11, .long ha], aI G m0 220 nw, aJ G m5 72 e5, aI G m6 72 e6, aJ G m8 12 ka] := by
          intro fu34
          induction fu34 with
          | zero => intro t mk xw xs xp ht hts iw is ip imk hmk hm34; exact absurd hm34 (Nat.not_lt_zero _)
          | succ fu34 ih34 =>
            intro t mk xw xs xp ht hts iw is ip imk hmk hm34
            have hnl := nif_le P s9 (P / 2) (min (t + P) (n - P / 2) - P / 2)
            refine J_iload F 8 (dcq dc_X4_findFactors_0 22 rfl) rfl ?_
            refine J_aload_n F 0 (dcq dc_X4_findFactors_0 23 rfl) rfl rfl ?_
            refine J_get F fcX4 0 0 rfl (Nat.le_of_ble_eq_true rfl) tw_3_223 rfl rfl (dcq dc_X4_findFactors_0 24 rfl) ?_
            refine J_iconst F (dcq dc_X4_findFactors_0 25 rfl) ic_3 ?_
            refine J_iald F 1 rfl (by omega) (Nat.le_of_ble_eq_true rfl) (dcq dc_X4_findFactors_0 26 rfl) ?_
            refine J_cast rfl (st2 := [.int (nI n), .int (nI t)]) (by rw [hRM.2.2.2.1]) rfl ?_
            refine J_ncmp_ge F 112 (by omega) (by omega) (dcq dc_X4_findFactors_0 27 rfl) (by decide) (fun h_7 => ?_) (fun h_7 => ?_)
            · skip
              have hcov : min t (n - P / 2) - P / 2 = n - 2 * (P / 2) := by omega
              rw [hcov] at iw is ip imk
              have hnp := nif_p (P := P) (n := n) hP hPn (s := s9) (by omega)
              have hsw := sw_btw hn hgw s9
              refine J_aload_n F 0 (dcq dc_X4_findFactors_1 18 rfl) rfl rfl ?_
              refine J_get F fcX4 0 10 rfl (Nat.le_of_ble_eq_true rfl) tw_3_233 rfl rfl (dcq dc_X4_findFactors_1 19 rfl) ?_
              refine J_iload F 3 (dcq dc_X4_findFactors_1 20 rfl) rfl ?_
              refine J_lload F 5 (dcq dc_X4_findFactors_1 21 rfl) rfl ?_
              refine J_lconst F (dcq dc_X4_findFactors_1 22 rfl) lc_0 ?_
              refine J_lcmp_ne F 136 (dcq dc_X4_findFactors_1 23 rfl) (dcq dc_X4_findFactors_1 24 rfl) (by decide) (fun h_8 => ?_) (fun h_8 => ?_)
              · skip
                have hsz := h_8
                refine J_lload F 4 (dcq dc_X4_findFactors_1 30 rfl) rfl ?_
                refine J_lload F 5 (dcq dc_X4_findFactors_1 31 rfl) rfl ?_
                refine J_callS F (wc := []) (wr := [oB 4 qm [.ref m0, .ref m1, .int (nI hc), .int (nI rf), .ref m2, .ref m3, .ref m4, .ref m5, .ref m6, .ref m7, .ref m8, .long sp, .ref m9, .ref m10, .ref m11, .long ha], aI G m0 220 nw, aJ G m5 72 e5, aI G m6 72 e6, aJ G m8 12 ka]) (rest := [.int (nI s9), .ref m8]) (c_X4_over l hl G xw xs (by rw [tI0, is]; have z0 : ¬ (sif P s9 (xv w) (P / 2) (n - 2 * (P / 2))).toInt = 0 := fun z => hsz (by rw [is]; exact Int64.toInt_inj.mp (by rw [z]; rfl)); omega)) cd_X4_over tw_4_138 tw_4_137 [] [0, 1, 2, 3, 4] rfl rfl rfl rfl (by decide) rfl ⟨(Nat.le_of_ble_eq_true rfl), (Nat.le_of_ble_eq_true rfl), (Nat.le_of_ble_eq_true rfl), (Nat.le_of_ble_eq_true rfl)⟩ (Nat.le_of_ble_eq_true rfl) rfl (dcq dc_X4_findFactors_1 32 rfl) ?_
                rintro _ _ ⟨rr, rfl, rfl, hrr⟩
                change J p l e (cRm 2 46 0 0) s m args below meth c G A 13 (JQ below G A (po_X4_findFactors G qm m0 m1 m2 m3 m4 m5 m6 m7 m8 m9 m10 m11 hc rf sp ha nw P M R n v g d e5 e8 e6 w) args s 0 0) 0 0 143 [(0, .ref qm), (1, .int (nI P)), (2, .long xa), (4, .int (nI s9)), (5, .long xw), (7, .long xs), (9, .long xp), (11, .int (nI mk)), (12, .int (nI t))] [.long rr, .int (nI s9), .ref m8] [oB 4 qm [.ref m0, .ref m1, .int (nI hc), .int (nI rf), .ref m2, .ref m3, .ref m4, .ref m5, .ref m6, .ref m7, .ref m8, .long sp, .ref m9, .ref m10, .ref m11, .long ha], aI G m0 220 nw, aJ G m5 72 e5, aI G m6 72 e6, aJ G m8 12 ka]
                have hrr : rr = quo xw xs := hrr
                have hraw : rr = raw P M (P / 2) n v w s9 := by
                  unfold raw
                  first | (rw [if_pos (by rw [← is]; exact hsz), hrr, ip, imk]; done) | rw [if_neg (by rw [← is]; exact hsz), hrr, iw, is]
                refine J_last F (ws2 := [oB 4 qm [.ref m0, .ref m1, .int (nI hc), .int (nI rf), .ref m2, .ref m3, .ref m4, .ref m5, .ref m6, .ref m7, .ref m8, .long sp, .ref m9, .ref m10, .ref m11, .long ha], aI G m0 220 nw, aJ G m5 72 e5, aI G m6 72 e6, aJ G m8 12 (vp_updL ka s9 rr)]) 4 rfl (by omega) (Nat.le_of_ble_eq_true rfl) rfl (dcq dc_X4_findFactors_1 33 rfl) ?_
                refine J_lload_n F 2 (dcq dc_X4_findFactors_1 34 rfl) rfl rfl ?_
                refine J_aload_n F 0 (dcq dc_X4_findFactors_1 35 rfl) rfl rfl ?_
                refine J_get F fcX4 0 10 rfl (Nat.le_of_ble_eq_true rfl) tw_3_233 rfl rfl (dcq dc_X4_findFactors_1 36 rfl) ?_
                refine J_iload F 3 (dcq dc_X4_findFactors_1 37 rfl) rfl ?_
                refine J_lald F 4 rfl (by omega) (Nat.le_of_ble_eq_true rfl) (dcq dc_X4_findFactors_1 38 rfl) ?_
                refine J_ladd F (v := xa + ((vp_updL ka s9 rr) s9)) (dcq dc_X4_findFactors_1 39 rfl) rfl ?_
                refine J_lstore_n F (lv2 := [(2, .long (xa + ((vp_updL ka s9 rr) s9))), (0, .ref qm), (1, .int (nI P)), (4, .int (nI s9)), (5, .long xw), (7, .long xs), (9, .long xp), (11, .int (nI mk)), (12, .int (nI t))]) (dcq dc_X4_findFactors_1 40 rfl) rfl (Nat.le_of_ble_eq_true rfl) rfl ?_
                refine J_iinc F (lv2 := [(4, .int (nI (s9 + 1))), (2, .long (xa + ((vp_updL ka s9 rr) s9))), (0, .ref qm), (1, .int (nI P)), (5, .long xw), (7, .long xs), (9, .long xp), (11, .int (nI mk)), (12, .int (nI t))]) (v := nI (s9 + 1)) 3 (dcq dc_X4_findFactors_1 41 rfl) rfl (nI_inc _) (Nat.le_of_ble_eq_true rfl) rfl ?_
                refine J_goto F 12 (dcq dc_X4_findFactors_1 42 rfl) (by decide) ?_
                refine J_locs [2, 3, 1, 0] rfl ?_
                exact ih12 (s9 + 1) (xa + ((vp_updL ka s9 rr) s9)) (vp_updL ka s9 rr) (by omega) (by simp only [sm, Nat.zero_add]; rw [ixa, pk_uLs, hraw]) (up_l i8 hraw) (by omega)
              · skip
                have hsz := h_8
                refine J_lload F 6 (dcq dc_X4_findFactors_1 25 rfl) rfl ?_
                refine J_iload F 7 (dcq dc_X4_findFactors_1 26 rfl) rfl ?_
                refine J_i2l F (v := lN mk) (dcq dc_X4_findFactors_1 27 rfl) (nI_l (by omega)) ?_
                refine J_callS F (wc := []) (wr := [oB 4 qm [.ref m0, .ref m1, .int (nI hc), .int (nI rf), .ref m2, .ref m3, .ref m4, .ref m5, .ref m6, .ref m7, .ref m8, .long sp, .ref m9, .ref m10, .ref m11, .long ha], aI G m0 220 nw, aJ G m5 72 e5, aI G m6 72 e6, aJ G m8 12 ka]) (rest := [.int (nI s9), .ref m8]) (c_X4_over l hl G xp (lN mk) (by exact lNpos (by omega) (by omega))) cd_X4_over tw_4_138 tw_4_137 [] [0, 1, 2, 3, 4] rfl rfl rfl rfl (by decide) rfl ⟨(Nat.le_of_ble_eq_true rfl), (Nat.le_of_ble_eq_true rfl), (Nat.le_of_ble_eq_true rfl), (Nat.le_of_ble_eq_true rfl)⟩ (Nat.le_of_ble_eq_true rfl) rfl (dcq dc_X4_findFactors_1 28 rfl) ?_
                rintro _ _ ⟨rr, rfl, rfl, hrr⟩
                change J p l e (cRm 2 46 0 0) s m args below meth c G A 13 (JQ below G A (po_X4_findFactors G qm m0 m1 m2 m3 m4 m5 m6 m7 m8 m9 m10 m11 hc rf sp ha nw P M R n v g d e5 e8 e6 w) args s 0 0) 0 0 133 [(0, .ref qm), (1, .int (nI P)), (2, .long xa), (4, .int (nI s9)), (5, .long xw), (7, .long xs), (9, .long xp), (11, .int (nI mk)), (12, .int (nI t))] [.long rr, .int (nI s9), .ref m8] [oB 4 qm [.ref m0, .ref m1, .int (nI hc), .int (nI rf), .ref m2, .ref m3, .ref m4, .ref m5, .ref m6, .ref m7, .ref m8, .long sp, .ref m9, .ref m10, .ref m11, .long ha], aI G m0 220 nw, aJ G m5 72 e5, aI G m6 72 e6, aJ G m8 12 ka]
                have hrr : rr = quo xp (lN mk) := hrr
                refine J_goto F 143 (dcq dc_X4_findFactors_1 29 rfl) (by decide) ?_
                have hraw : rr = raw P M (P / 2) n v w s9 := by
                  unfold raw
                  first | (rw [if_pos (by rw [← is]; exact hsz), hrr, ip, imk]; done) | rw [if_neg (by rw [← is]; exact hsz), hrr, iw, is]
                refine J_last F (ws2 := [oB 4 qm [.ref m0, .ref m1, .int (nI hc), .int (nI rf), .ref m2, .ref m3, .ref m4, .ref m5, .ref m6, .ref m7, .ref m8, .long sp, .ref m9, .ref m10, .ref m11, .long ha], aI G m0 220 nw, aJ G m5 72 e5, aI G m6 72 e6, aJ G m8 12 (vp_updL ka s9 rr)]) 4 rfl (by omega) (Nat.le_of_ble_eq_true rfl) rfl (dcq dc_X4_findFactors_1 33 rfl) ?_
                refine J_lload_n F 2 (dcq dc_X4_findFactors_1 34 rfl) rfl rfl ?_
                refine J_aload_n F 0 (dcq dc_X4_findFactors_1 35 rfl) rfl rfl ?_
                refine J_get F fcX4 0 10 rfl (Nat.le_of_ble_eq_true rfl) tw_3_233 rfl rfl (dcq dc_X4_findFactors_1 36 rfl) ?_
                refine J_iload F 3 (dcq dc_X4_findFactors_1 37 rfl) rfl ?_
                refine J_lald F 4 rfl (by omega) (Nat.le_of_ble_eq_true rfl) (dcq dc_X4_findFactors_1 38 rfl) ?_
                refine J_ladd F (v := xa + ((vp_updL ka s9 rr) s9)) (dcq dc_X4_findFactors_1 39 rfl) rfl ?_
                refine J_lstore_n F (lv2 := [(2, .long (xa + ((vp_updL ka s9 rr) s9))), (0, .ref qm), (1, .int (nI P)), (4, .int (nI s9)), (5, .long xw), (7, .long xs), (9, .long xp), (11, .int (nI mk)), (12, .int (nI t))]) (dcq dc_X4_findFactors_1 40 rfl) rfl (Nat.le_of_ble_eq_true rfl) rfl ?_
                refine J_iinc F (lv2 := [(4, .int (nI (s9 + 1))), (2, .long (xa + ((vp_updL ka s9 rr) s9))), (0, .ref qm), (1, .int (nI P)), (5, .long xw), (7, .long xs), (9, .long xp), (11, .int (nI mk)), (12, .int (nI t))]) (v := nI (s9 + 1)) 3 (dcq dc_X4_findFactors_1 41 rfl) rfl (nI_inc _) (Nat.le_of_ble_eq_true rfl) rfl ?_
                refine J_goto F 12 (dcq dc_X4_findFactors_1 42 rfl) (by decide) ?_
                refine J_locs [2, 3, 1, 0] rfl ?_
                exact ih12 (s9 + 1) (xa + ((vp_updL ka s9 rr) s9)) (vp_updL ka s9 rr) (by omega) (by simp only [sm, Nat.zero_add]; rw [ixa, pk_uLs, hraw]) (up_l i8 hraw) (by omega)
            · skip
              refine J_aload_n F 0 (dcq dc_X4_findFactors_0 28 rfl) rfl rfl ?_
              refine J_iload F 8 (dcq dc_X4_findFactors_0 29 rfl) rfl ?_
              refine J_callV F (wc := [oB 4 qm [.ref m0, .ref m1, .int (nI hc), .int (nI rf), .ref m2, .ref m3, .ref m4, .ref m5, .ref m6, .ref m7, .ref m8, .long sp, .ref m9, .ref m10, .ref m11, .long ha], aI G m0 220 nw]) (wr := [aJ G m5 72 e5, aI G m6 72 e6, aJ G m8 12 ka]) (rest := []) (qc := 0) (c_X4_isInner l hl G qm m0 m1 m2 m3 m4 m5 m6 m7 m8 m9 m10 m11 hc rf sp ha nw P M R n v g d (nI t) (by first | assumption | omega) (by first | assumption | omega) (by first | assumption | omega) (by first | assumption | omega) (by first | assumption | omega)) cd_X4_isInner cv_X4_isInner rfl rfl rfl tw_4_185 [0, 1] [2, 3, 4] rfl rfl rfl rfl (by decide) rfl ⟨(Nat.le_of_ble_eq_true rfl), (Nat.le_of_ble_eq_true rfl), (Nat.le_of_ble_eq_true rfl), (Nat.le_of_ble_eq_true rfl)⟩ (Nat.le_of_ble_eq_true rfl) rfl (dcq dc_X4_findFactors_0 30 rfl) ?_
              rintro _ _ h9x
              rcases h9x with ⟨j_48, rfl, rfl, hxj_48, hj1_48, hj2_48⟩ | ⟨rfl, rfl, hx_48⟩
              · skip
                have hxj_48 : (nI t) = nI j_48 := hxj_48
                have hj1_48 : P / 2 ≤ j_48 := hj1_48
                have hj2_48 : j_48 + P / 2 < n := hj2_48
                change J p l e (cRm 2 46 0 0) s m args below meth c G A 13 (JQ below G A (po_X4_findFactors G qm m0 m1 m2 m3 m4 m5 m6 m7 m8 m9 m10 m11 hc rf sp ha nw P M R n v g d e5 e8 e6 w) args s 0 0) 0 0 51 [(0, .ref qm), (1, .int (nI P)), (2, .long xa), (4, .int (nI s9)), (5, .long xw), (7, .long xs), (9, .long xp), (11, .int (nI mk)), (12, .int (nI t))] [.int (nI 1)] [aJ G m5 72 e5, aI G m6 72 e6, aJ G m8 12 ka, oB 4 qm [.ref m0, .ref m1, .int (nI hc), .int (nI rf), .ref m2, .ref m3, .ref m4, .ref m5, .ref m6, .ref m7, .ref m8, .long sp, .ref m9, .ref m10, .ref m11, .long ha], aI G m0 220 nw]
                refine J_world (ws2 := [oB 4 qm [.ref m0, .ref m1, .int (nI hc), .int (nI rf), .ref m2, .ref m3, .ref m4, .ref m5, .ref m6, .ref m7, .ref m8, .long sp, .ref m9, .ref m10, .ref m11, .long ha], aI G m0 220 nw, aJ G m5 72 e5, aI G m6 72 e6, aJ G m8 12 ka]) [3, 4, 0, 1, 2] rfl rfl ?_
                have htj : t = j_48 := (nI_eq (by omega) (by omega)).mp hxj_48
                have ht1 : P / 2 ≤ t := by omega
                have ht2 : t < n - P / 2 := by omega
                refine J_if_eq F 103 (dcq dc_X4_findFactors_0 31 rfl) (by decide) (fun h_9 => absurd h_9 (by decide)) (fun _ => ?_)
                refine J_lload F 4 (dcq dc_X4_findFactors_0 32 rfl) rfl ?_
                refine J_aload_n F 0 (dcq dc_X4_findFactors_0 33 rfl) rfl rfl ?_
                refine J_get F fcX4 0 8 rfl (Nat.le_of_ble_eq_true rfl) tw_3_231 rfl rfl (dcq dc_X4_findFactors_0 34 rfl) ?_
                refine J_iload F 8 (dcq dc_X4_findFactors_0 35 rfl) rfl ?_
                refine J_iald F 3 rfl (by omega) (Nat.le_of_ble_eq_true rfl) (dcq dc_X4_findFactors_0 36 rfl) ?_
                refine J_i2l F (v := (e6 t).toInt64) (dcq dc_X4_findFactors_0 37 rfl) rfl ?_
                refine J_aload_n F 0 (dcq dc_X4_findFactors_0 38 rfl) rfl rfl ?_
                refine J_get F fcX4 0 7 rfl (Nat.le_of_ble_eq_true rfl) tw_3_230 rfl rfl (dcq dc_X4_findFactors_0 39 rfl) ?_
                refine J_iload F 8 (dcq dc_X4_findFactors_0 40 rfl) rfl ?_
                refine J_lald F 2 rfl (by omega) (Nat.le_of_ble_eq_true rfl) (dcq dc_X4_findFactors_0 41 rfl) ?_
                refine J_lmul F (v := ((e6 t).toInt64) * (e5 t)) (dcq dc_X4_findFactors_0 42 rfl) rfl ?_
                refine J_ladd F (v := xw + (((e6 t).toInt64) * (e5 t))) (dcq dc_X4_findFactors_0 43 rfl) rfl ?_
                refine J_lstore F (lv2 := [(5, .long (xw + (((e6 t).toInt64) * (e5 t)))), (0, .ref qm), (1, .int (nI P)), (2, .long xa), (4, .int (nI s9)), (7, .long xs), (9, .long xp), (11, .int (nI mk)), (12, .int (nI t))]) (dcq dc_X4_findFactors_0 44 rfl) (Nat.le_of_ble_eq_true rfl) rfl ?_
                refine J_lload F 5 (dcq dc_X4_findFactors_0 45 rfl) rfl ?_
                refine J_aload_n F 1 (dcq dc_X4_findFactors_0 46 rfl) rfl rfl ?_
                refine J_get F fcX4 0 8 rfl (Nat.le_of_ble_eq_true rfl) tw_3_231 rfl rfl (dcq dc_X4_findFactors_0 47 rfl) ?_
                refine J_iload F 8 (dcq dc_X4_findFactors_1 0 rfl) rfl ?_
                refine J_iald F 3 rfl (by omega) (Nat.le_of_ble_eq_true rfl) (dcq dc_X4_findFactors_1 1 rfl) ?_
                refine J_i2l F (v := (e6 t).toInt64) (dcq dc_X4_findFactors_1 2 rfl) rfl ?_
                refine J_ladd F (v := xs + ((e6 t).toInt64)) (dcq dc_X4_findFactors_1 3 rfl) rfl ?_
                refine J_lstore F (lv2 := [(7, .long (xs + ((e6 t).toInt64))), (5, .long (xw + (((e6 t).toInt64) * (e5 t)))), (0, .ref qm), (1, .int (nI P)), (2, .long xa), (4, .int (nI s9)), (9, .long xp), (11, .int (nI mk)), (12, .int (nI t))]) (dcq dc_X4_findFactors_1 4 rfl) (Nat.le_of_ble_eq_true rfl) rfl ?_
                refine J_lload F 6 (dcq dc_X4_findFactors_1 5 rfl) rfl ?_
                refine J_aload_n F 2 (dcq dc_X4_findFactors_1 6 rfl) rfl rfl ?_
                refine J_get F fcX4 0 7 rfl (Nat.le_of_ble_eq_true rfl) tw_3_230 rfl rfl (dcq dc_X4_findFactors_1 7 rfl) ?_
                refine J_iload F 8 (dcq dc_X4_findFactors_1 8 rfl) rfl ?_
                refine J_lald F 2 rfl (by omega) (Nat.le_of_ble_eq_true rfl) (dcq dc_X4_findFactors_1 9 rfl) ?_
                refine J_ladd F (v := xp + (e5 t)) (dcq dc_X4_findFactors_1 10 rfl) rfl ?_
                refine J_lstore F (lv2 := [(9, .long (xp + (e5 t))), (7, .long (xs + ((e6 t).toInt64))), (5, .long (xw + (((e6 t).toInt64) * (e5 t)))), (0, .ref qm), (1, .int (nI P)), (2, .long xa), (4, .int (nI s9)), (11, .int (nI mk)), (12, .int (nI t))]) (dcq dc_X4_findFactors_1 11 rfl) (Nat.le_of_ble_eq_true rfl) rfl ?_
                refine J_iinc F (lv2 := [(11, .int (nI (mk + 1))), (9, .long (xp + (e5 t))), (7, .long (xs + ((e6 t).toInt64))), (5, .long (xw + (((e6 t).toInt64) * (e5 t)))), (0, .ref qm), (1, .int (nI P)), (2, .long xa), (4, .int (nI s9)), (12, .int (nI t))]) (v := nI (mk + 1)) 7 (dcq dc_X4_findFactors_1 12 rfl) rfl (nI_inc _) (Nat.le_of_ble_eq_true rfl) rfl ?_
                refine J_iload F 8 (dcq dc_X4_findFactors_1 13 rfl) rfl ?_
                refine J_iload_n F 5 (dcq dc_X4_findFactors_1 14 rfl) rfl rfl ?_
                refine J_iadd F (v := nI (t + P)) (dcq dc_X4_findFactors_1 15 rfl) (nI_add _ _) ?_
                refine J_istore F (lv2 := [(12, .int (nI (t + P))), (11, .int (nI (mk + 1))), (9, .long (xp + (e5 t))), (7, .long (xs + ((e6 t).toInt64))), (5, .long (xw + (((e6 t).toInt64) * (e5 t)))), (0, .ref qm), (1, .int (nI P)), (2, .long xa), (4, .int (nI s9))]) (dcq dc_X4_findFactors_1 16 rfl) (Nat.le_of_ble_eq_true rfl) rfl ?_
                refine J_goto F 34 (dcq dc_X4_findFactors_1 17 rfl) (by decide) ?_
                refine J_locs [5, 6, 7, 8, 4, 3, 2, 1, 0] rfl ?_
                exact ih34 (t + P) (mk + 1) (xw + (((e6 t).toInt64) * (e5 t))) (xs + ((e6 t).toInt64)) (xp + (e5 t)) (by omega) (by rw [Nat.add_mod_right]; exact hts) (by rw [sif_cA hts ht1 ht2 (by omega), iw, hw6 t ht1 (by omega), hdv t ht1 (by omega)]; rfl) (by rw [sif_cA hts ht1 ht2 (by omega), is, hw6 t ht1 (by omega)]; rfl) (by rw [sif_cA hts ht1 ht2 (by omega), ip, hdv t ht1 (by omega)]) (by rw [nif_cA hts ht1 ht2 (by omega), imk]) (by rw [nif_cA hts ht1 ht2 (by omega)] at hnl; omega) (by omega)
              · skip
                have hx_48 : ∀ j, P / 2 ≤ j → j + P / 2 < n → (nI t) ≠ nI j := hx_48
                change J p l e (cRm 2 46 0 0) s m args below meth c G A 13 (JQ below G A (po_X4_findFactors G qm m0 m1 m2 m3 m4 m5 m6 m7 m8 m9 m10 m11 hc rf sp ha nw P M R n v g d e5 e8 e6 w) args s 0 0) 0 0 51 [(0, .ref qm), (1, .int (nI P)), (2, .long xa), (4, .int (nI s9)), (5, .long xw), (7, .long xs), (9, .long xp), (11, .int (nI mk)), (12, .int (nI t))] [.int (nI 0)] [aJ G m5 72 e5, aI G m6 72 e6, aJ G m8 12 ka, oB 4 qm [.ref m0, .ref m1, .int (nI hc), .int (nI rf), .ref m2, .ref m3, .ref m4, .ref m5, .ref m6, .ref m7, .ref m8, .long sp, .ref m9, .ref m10, .ref m11, .long ha], aI G m0 220 nw]
                refine J_world (ws2 := [oB 4 qm [.ref m0, .ref m1, .int (nI hc), .int (nI rf), .ref m2, .ref m3, .ref m4, .ref m5, .ref m6, .ref m7, .ref m8, .long sp, .ref m9, .ref m10, .ref m11, .long ha], aI G m0 220 nw, aJ G m5 72 e5, aI G m6 72 e6, aJ G m8 12 ka]) [3, 4, 0, 1, 2] rfl rfl ?_
                have hni : t < P / 2 ∨ n - P / 2 ≤ t := by
                  rcases Nat.lt_or_ge t (P / 2) with h9 | h9
                  · exact Or.inl h9
                  · exact Or.inr (Decidable.by_contra fun z => hx_48 t h9 (by omega) rfl)
                refine J_if_eq F 103 (dcq dc_X4_findFactors_0 31 rfl) (by decide) (fun _ => ?_) (fun h_10 => absurd h_10 (by decide))
                refine J_iload F 8 (dcq dc_X4_findFactors_1 13 rfl) rfl ?_
                refine J_iload_n F 1 (dcq dc_X4_findFactors_1 14 rfl) rfl rfl ?_
                refine J_iadd F (v := nI (t + P)) (dcq dc_X4_findFactors_1 15 rfl) (nI_add _ _) ?_
                refine J_istore F (lv2 := [(12, .int (nI (t + P))), (0, .ref qm), (1, .int (nI P)), (2, .long xa), (4, .int (nI s9)), (5, .long xw), (7, .long xs), (9, .long xp), (11, .int (nI mk))]) (dcq dc_X4_findFactors_1 16 rfl) (Nat.le_of_ble_eq_true rfl) rfl ?_
                refine J_goto F 34 (dcq dc_X4_findFactors_1 17 rfl) (by decide) ?_
                refine J_locs [1, 2, 3, 4, 5, 6, 7, 8, 0] rfl ?_
                exact ih34 (t + P) mk xw xs xp (by omega) (by rw [Nat.add_mod_right]; exact hts) (by rw [sif_cB hts hni]; exact iw) (by rw [sif_cB hts hni]; exact is) (by rw [sif_cB hts hni]; exact ip) (by rw [nif_cB hts hni]; exact imk) (by omega) (by omega)
        refine J_locs [5, 6, 7, 8, 4, 3, 2, 1, 0] rfl ?_
        exact L34 (n + P - s9 + 1) s9 0 0 0 0 (by omega) (Nat.mod_eq_of_lt (by omega)) ((sif_c0 (by omega)).symm) ((sif_c0 (by omega)).symm) ((sif_c0 (by omega)).symm) ((nif_c0 (by omega)).symm) (by omega) (Nat.lt_succ_self _)
  refine J_locs [3, 2, 1, 0] rfl ?_
  exact L12 (P - 0 + 1) 0 0 e8 (by omega) (rfl) (fun j _ h => absurd h (Nat.not_lt_zero _)) (Nat.lt_succ_self _)

abbrev po_X4_findExtremes (G : Gt) (qm m0 m1 m2 m3 m4 m5 m6 m7 m8 m9 m10 m11 hc rf : Nat) (sp ha : Int64) (nw : Nat → Int32) (P M R n : Nat) (v g d : Nat → Int32) (e5 : Nat → Int64) (e7 : Nat → Int64) (e8 : Nat → Int64) (w : Nat → Int32) : Option Value → va_W → Prop := fun (v9 : Option Value) (w9 : va_W) => ∃ (sp2 : Int64), ∃ (k7 : Nat → Int64), v9 = none ∧ w9 = [oB 4 qm [.ref m0, .ref m1, .int (nI hc), .int (nI rf), .ref m2, .ref m3, .ref m4, .ref m5, .ref m6, .ref m7, .ref m8, .long sp2, .ref m9, .ref m10, .ref m11, .long ha], aI G m0 220 nw, aJ G m5 72 e5, aJ G m7 72 k7, aJ G m8 12 e8] ∧ (∀ t, P / 2 ≤ t → t + P / 2 < n → absL (k7 t) = dst P M (P / 2) n v w t) ∧ (sp2 = wid P M (P / 2) n v w)
set_option maxHeartbeats 4000000 in
set_option maxRecDepth 100000 in
theorem c_X4_findExtremes (l : Launch) (hl : l.stackTraces = false) (G : Gt) (qm m0 m1 m2 m3 m4 m5 m6 m7 m8 m9 m10 m11 hc rf : Nat) (sp ha : Int64) (nw : Nat → Int32) (P M R n : Nat) (v g d : Nat → Int32) (e5 : Nat → Int64) (e7 : Nat → Int64) (e8 : Nat → Int64) (w : Nat → Int32) (hRM : RM nw P M R n v g d) (hn : n ≤ 72) (hP : 2 ≤ P) (hP12 : P ≤ 12) (hM : M ≤ 1) (hPn : P + 2 * (P / 2) ≤ n) (hv : GV M n v) (hdv : ∀ t, P / 2 ≤ t → t + P / 2 < n → e5 t = dv P M (P / 2) v t) (hf8 : ∀ j, j < P → e8 j = fac P M (P / 2) n v w j) : Con l G yX4_findExtremes cX4_findExtremes 4 none 2 40 0 0 [.ref qm] [oB 4 qm [.ref m0, .ref m1, .int (nI hc), .int (nI rf), .ref m2, .ref m3, .ref m4, .ref m5, .ref m6, .ref m7, .ref m8, .long sp, .ref m9, .ref m10, .ref m11, .long ha], aI G m0 220 nw, aJ G m5 72 e5, aJ G m7 72 e7, aJ G m8 12 e8] (po_X4_findExtremes G qm m0 m1 m2 m3 m4 m5 m6 m7 m8 m9 m10 m11 hc rf sp ha nw P M R n v g d e5 e7 e8 w) := by
  refine Con.of hl cd_X4_findExtremes (Nat.le_of_ble_eq_true rfl) ?_
  intro p e s m args below meth c A F hin9
  change Fx p l s m args meth c G A "SeasonalAdjusterModel" cX4_findExtremes 4 none at F
  change J p l e (cRm 2 40 0 0) s m args below meth c G A 4 (JQ below G A (po_X4_findExtremes G qm m0 m1 m2 m3 m4 m5 m6 m7 m8 m9 m10 m11 hc rf sp ha nw P M R n v g d e5 e7 e8 w) args s 0 0) 0 0 0 [(0, .ref qm)] [] [oB 4 qm [.ref m0, .ref m1, .int (nI hc), .int (nI rf), .ref m2, .ref m3, .ref m4, .ref m5, .ref m6, .ref m7, .ref m8, .long sp, .ref m9, .ref m10, .ref m11, .long ha], aI G m0 220 nw, aJ G m5 72 e5, aJ G m7 72 e7, aJ G m8 12 e8]
  refine J_lconst F (dcq dc_X4_findExtremes_0 0 rfl) lc_0 ?_
  refine J_lstore_n F (lv2 := [(1, .long 0), (0, .ref qm)]) (dcq dc_X4_findExtremes_0 1 rfl) rfl (Nat.le_of_ble_eq_true rfl) rfl ?_
  refine J_aload_n F 1 (dcq dc_X4_findExtremes_0 2 rfl) rfl rfl ?_
  refine J_callV F (wc := [oB 4 qm [.ref m0, .ref m1, .int (nI hc), .int (nI rf), .ref m2, .ref m3, .ref m4, .ref m5, .ref m6, .ref m7, .ref m8, .long sp, .ref m9, .ref m10, .ref m11, .long ha], aI G m0 220 nw]) (wr := [aJ G m5 72 e5, aJ G m7 72 e7, aJ G m8 12 e8]) (rest := []) (qc := 0) (c_X4_half l hl G qm m0 m1 m2 m3 m4 m5 m6 m7 m8 m9 m10 m11 hc rf sp ha nw P M R n v g d (by first | assumption | omega) (by first | assumption | omega)) cd_X4_half cv_X4_half rfl rfl rfl tw_4_160 [0, 1] [2, 3, 4] rfl rfl rfl rfl (by decide) rfl ⟨(Nat.le_of_ble_eq_true rfl), (Nat.le_of_ble_eq_true rfl), (Nat.le_of_ble_eq_true rfl), (Nat.le_of_ble_eq_true rfl)⟩ (Nat.le_of_ble_eq_true rfl) rfl (dcq dc_X4_findExtremes_0 3 rfl) ?_
  rintro _ _ ⟨rfl, rfl⟩
  change J p l e (cRm 2 40 0 0) s m args below meth c G A 4 (JQ below G A (po_X4_findExtremes G qm m0 m1 m2 m3 m4 m5 m6 m7 m8 m9 m10 m11 hc rf sp ha nw P M R n v g d e5 e7 e8 w) args s 0 0) 0 0 6 [(1, .long 0), (0, .ref qm)] [.int (nI (P / 2))] [aJ G m5 72 e5, aJ G m7 72 e7, aJ G m8 12 e8, oB 4 qm [.ref m0, .ref m1, .int (nI hc), .int (nI rf), .ref m2, .ref m3, .ref m4, .ref m5, .ref m6, .ref m7, .ref m8, .long sp, .ref m9, .ref m10, .ref m11, .long ha], aI G m0 220 nw]
  refine J_world (ws2 := [oB 4 qm [.ref m0, .ref m1, .int (nI hc), .int (nI rf), .ref m2, .ref m3, .ref m4, .ref m5, .ref m6, .ref m7, .ref m8, .long sp, .ref m9, .ref m10, .ref m11, .long ha], aI G m0 220 nw, aJ G m5 72 e5, aJ G m7 72 e7, aJ G m8 12 e8]) [3, 4, 0, 1, 2] rfl rfl ?_
  refine J_istore_n F (lv2 := [(3, .int (nI (P / 2))), (1, .long 0), (0, .ref qm)]) (dcq dc_X4_findExtremes_0 4 rfl) rfl (Nat.le_of_ble_eq_true rfl) rfl ?_
  have L7 : ∀ (fu7 : Nat), ∀ (t : Nat) (xs : Int64) (ka : Nat → Int64), (P / 2 ≤ t) → (t ≤ n - P / 2) → (xs = sm (dst P M (P / 2) n v w) (P / 2) (t - P / 2)) → (∀ j, P / 2 ≤ j → j < t → absL (ka j) = dst P M (P / 2) n v w j) → n - P / 2 - t < fu7 → J p l e (cRm 2 40 0 0) s m args below meth c G A 4 (JQ below G A (po_X4_findExtremes G qm m0 m1 m2 m3 m4 m5 m6 m7 m8 m9 m10 m11 hc rf sp ha nw P M R n v g d e5 e7 e8 w) args s 0 0) 0 0 7 [(0, .ref qm), (1, .long xs), (3, .int (nI t))] [] [oB 4 qm [.ref m0, .ref m1, .int (nI hc), .int (nI rf), .ref m2, .ref m3, .ref m4, .ref m5, .ref m6, .ref m7, .ref m8, .long sp, .ref m9, .ref m10, .ref m11, .long ha], aI G m0 220 nw, aJ G m5 72 e5, aJ G m7 72 ka, aJ G m8 12 e8] := by
    intro fu7
    induction fu7 with
    | zero => intro t xs ka ht1 ht2 ixs i7 hm7; exact absurd hm7 (Nat.not_lt_zero _)
    | succ fu7 ih7 =>
      intro t xs ka ht1 ht2 ixs i7 hm7
      have hml9 := Nat.mod_lt t (show 0 < P by omega)
      refine J_iload_n F 2 (dcq dc_X4_findExtremes_0 5 rfl) rfl rfl ?_
      refine J_aload_n F 0 (dcq dc_X4_findExtremes_0 6 rfl) rfl rfl ?_
      refine J_get F fcX4 0 0 rfl (Nat.le_of_ble_eq_true rfl) tw_3_223 rfl rfl (dcq dc_X4_findExtremes_0 7 rfl) ?_
      refine J_iconst F (dcq dc_X4_findExtremes_0 8 rfl) ic_3 ?_
      refine J_iald F 1 rfl (by omega) (Nat.le_of_ble_eq_true rfl) (dcq dc_X4_findExtremes_0 9 rfl) ?_
      refine J_cast rfl (st2 := [.int (nI n), .int (nI t)]) (by rw [hRM.2.2.2.1]) rfl ?_
      refine J_aload_n F 0 (dcq dc_X4_findExtremes_0 10 rfl) rfl rfl ?_
      refine J_callV F (wc := [oB 4 qm [.ref m0, .ref m1, .int (nI hc), .int (nI rf), .ref m2, .ref m3, .ref m4, .ref m5, .ref m6, .ref m7, .ref m8, .long sp, .ref m9, .ref m10, .ref m11, .long ha], aI G m0 220 nw]) (wr := [aJ G m5 72 e5, aJ G m7 72 ka, aJ G m8 12 e8]) (rest := [.int (nI n), .int (nI t)]) (qc := 0) (c_X4_half l hl G qm m0 m1 m2 m3 m4 m5 m6 m7 m8 m9 m10 m11 hc rf sp ha nw P M R n v g d (by first | assumption | omega) (by first | assumption | omega)) cd_X4_half cv_X4_half rfl rfl rfl tw_4_160 [0, 1] [2, 3, 4] rfl rfl rfl rfl (by decide) rfl ⟨(Nat.le_of_ble_eq_true rfl), (Nat.le_of_ble_eq_true rfl), (Nat.le_of_ble_eq_true rfl), (Nat.le_of_ble_eq_true rfl)⟩ (Nat.le_of_ble_eq_true rfl) rfl (dcq dc_X4_findExtremes_0 11 rfl) ?_
      rintro _ _ ⟨rfl, rfl⟩
      change J p l e (cRm 2 40 0 0) s m args below meth c G A 4 (JQ below G A (po_X4_findExtremes G qm m0 m1 m2 m3 m4 m5 m6 m7 m8 m9 m10 m11 hc rf sp ha nw P M R n v g d e5 e7 e8 w) args s 0 0) 0 0 18 [(0, .ref qm), (1, .long xs), (3, .int (nI t))] [.int (nI (P / 2)), .int (nI n), .int (nI t)] [aJ G m5 72 e5, aJ G m7 72 ka, aJ G m8 12 e8, oB 4 qm [.ref m0, .ref m1, .int (nI hc), .int (nI rf), .ref m2, .ref m3, .ref m4, .ref m5, .ref m6, .ref m7, .ref m8, .long sp, .ref m9, .ref m10, .ref m11, .long ha], aI G m0 220 nw]
      refine J_world (ws2 := [oB 4 qm [.ref m0, .ref m1, .int (nI hc), .int (nI rf), .ref m2, .ref m3, .ref m4, .ref m5, .ref m6, .ref m7, .ref m8, .long sp, .ref m9, .ref m10, .ref m11, .long ha], aI G m0 220 nw, aJ G m5 72 e5, aJ G m7 72 ka, aJ G m8 12 e8]) [3, 4, 0, 1, 2] rfl rfl ?_
      refine J_isub F (v := nI (n - P / 2)) (dcq dc_X4_findExtremes_0 12 rfl) (pk_sub (by omega)) ?_
      refine J_ncmp_ge F 66 (by omega) (by omega) (dcq dc_X4_findExtremes_0 13 rfl) (by decide) (fun h_1 => ?_) (fun h_1 => ?_)
      · skip
        refine J_aload_n F 0 (dcq dc_X4_findExtremes_0 42 rfl) rfl rfl ?_
        refine J_ldc2 F (v2 := (5)) tw_4_81 rfl (dcq dc_X4_findExtremes_0 43 rfl) ?_
        refine J_lload_n F 1 (dcq dc_X4_findExtremes_0 44 rfl) rfl rfl ?_
        refine J_lmul F (v := 5 * xs) (dcq dc_X4_findExtremes_0 45 rfl) rfl ?_
        refine J_ldc2 F (v2 := (4)) tw_4_200 rfl (dcq dc_X4_findExtremes_0 46 rfl) ?_
        refine J_aload_n F 0 (dcq dc_X4_findExtremes_0 47 rfl) rfl rfl ?_
        refine J_callV F (wc := [oB 4 qm [.ref m0, .ref m1, .int (nI hc), .int (nI rf), .ref m2, .ref m3, .ref m4, .ref m5, .ref m6, .ref m7, .ref m8, .long sp, .ref m9, .ref m10, .ref m11, .long ha], aI G m0 220 nw]) (wr := [aJ G m5 72 e5, aJ G m7 72 ka, aJ G m8 12 e8]) (rest := [.long 4, .long (5 * xs), .ref qm]) (qc := 0) (c_X4_inner l hl G qm m0 m1 m2 m3 m4 m5 m6 m7 m8 m9 m10 m11 hc rf sp ha nw P M R n v g d (by first | assumption | omega) (by first | assumption | omega) (by first | assumption | omega) (by first | assumption | omega)) cd_X4_inner cv_X4_inner rfl rfl rfl tw_4_201 [0, 1] [2, 3, 4] rfl rfl rfl rfl (by decide) rfl ⟨(Nat.le_of_ble_eq_true rfl), (Nat.le_of_ble_eq_true rfl), (Nat.le_of_ble_eq_true rfl), (Nat.le_of_ble_eq_true rfl)⟩ (Nat.le_of_ble_eq_true rfl) rfl (dcq dc_X4_findExtremes_1 0 rfl) ?_
        rintro _ _ ⟨rfl, rfl⟩
        change J p l e (cRm 2 40 0 0) s m args below meth c G A 4 (JQ below G A (po_X4_findExtremes G qm m0 m1 m2 m3 m4 m5 m6 m7 m8 m9 m10 m11 hc rf sp ha nw P M R n v g d e5 e7 e8 w) args s 0 0) 0 0 79 [(0, .ref qm), (1, .long xs), (3, .int (nI t))] [.int (nI (n - 2 * (P / 2))), .long 4, .long (5 * xs), .ref qm] [aJ G m5 72 e5, aJ G m7 72 ka, aJ G m8 12 e8, oB 4 qm [.ref m0, .ref m1, .int (nI hc), .int (nI rf), .ref m2, .ref m3, .ref m4, .ref m5, .ref m6, .ref m7, .ref m8, .long sp, .ref m9, .ref m10, .ref m11, .long ha], aI G m0 220 nw]
        refine J_world (ws2 := [oB 4 qm [.ref m0, .ref m1, .int (nI hc), .int (nI rf), .ref m2, .ref m3, .ref m4, .ref m5, .ref m6, .ref m7, .ref m8, .long sp, .ref m9, .ref m10, .ref m11, .long ha], aI G m0 220 nw, aJ G m5 72 e5, aJ G m7 72 ka, aJ G m8 12 e8]) [3, 4, 0, 1, 2] rfl rfl ?_
        refine J_i2l F (v := lN (n - 2 * (P / 2))) (dcq dc_X4_findExtremes_1 1 rfl) (nI_l (by omega)) ?_
        refine J_lmul F (v := 4 * (lN (n - 2 * (P / 2)))) (dcq dc_X4_findExtremes_1 2 rfl) rfl ?_
        refine J_callS F (wc := []) (wr := [oB 4 qm [.ref m0, .ref m1, .int (nI hc), .int (nI rf), .ref m2, .ref m3, .ref m4, .ref m5, .ref m6, .ref m7, .ref m8, .long sp, .ref m9, .ref m10, .ref m11, .long ha], aI G m0 220 nw, aJ G m5 72 e5, aJ G m7 72 ka, aJ G m8 12 e8]) (rest := [.ref qm]) (c_X4_over l hl G (5 * xs) (4 * (lN (n - 2 * (P / 2)))) (by exact lNpos2 (by decide) (by decide) (by omega) (by omega))) cd_X4_over tw_4_138 tw_4_137 [] [0, 1, 2, 3, 4] rfl rfl rfl rfl (by decide) rfl ⟨(Nat.le_of_ble_eq_true rfl), (Nat.le_of_ble_eq_true rfl), (Nat.le_of_ble_eq_true rfl), (Nat.le_of_ble_eq_true rfl)⟩ (Nat.le_of_ble_eq_true rfl) rfl (dcq dc_X4_findExtremes_1 3 rfl) ?_
        rintro _ _ ⟨rw9, rfl, rfl, hrw⟩
        change J p l e (cRm 2 40 0 0) s m args below meth c G A 4 (JQ below G A (po_X4_findExtremes G qm m0 m1 m2 m3 m4 m5 m6 m7 m8 m9 m10 m11 hc rf sp ha nw P M R n v g d e5 e7 e8 w) args s 0 0) 0 0 84 [(0, .ref qm), (1, .long xs), (3, .int (nI t))] [.long rw9, .ref qm] [oB 4 qm [.ref m0, .ref m1, .int (nI hc), .int (nI rf), .ref m2, .ref m3, .ref m4, .ref m5, .ref m6, .ref m7, .ref m8, .long sp, .ref m9, .ref m10, .ref m11, .long ha], aI G m0 220 nw, aJ G m5 72 e5, aJ G m7 72 ka, aJ G m8 12 e8]
        have hrw : rw9 = quo (5 * xs) (4 * (lN (n - 2 * (P / 2)))) := hrw
        refine J_put F (ws2 := [oB 4 qm [.ref m0, .ref m1, .int (nI hc), .int (nI rf), .ref m2, .ref m3, .ref m4, .ref m5, .ref m6, .ref m7, .ref m8, .long rw9, .ref m9, .ref m10, .ref m11, .long ha], aI G m0 220 nw, aJ G m5 72 e5, aJ G m7 72 ka, aJ G m8 12 e8]) fcX4 0 11 rfl (Nat.le_of_ble_eq_true rfl) tw_3_234 rfl rfl rfl rfl (Nat.le_of_ble_eq_true rfl) rfl (dcq dc_X4_findExtremes_1 4 rfl) ?_
        exact J_vret F ⟨rw9, ka, rfl, rfl, fun j h1 h2 => i7 j h1 (by omega), by rw [hrw, ixs, show t - P / 2 = n - 2 * (P / 2) by omega]; rfl⟩ (Nat.le_of_ble_eq_true rfl) (Nat.le_of_ble_eq_true rfl) (dcq dc_X4_findExtremes_1 5 rfl)
      · skip
        refine J_aload_n F 0 (dcq dc_X4_findExtremes_0 14 rfl) rfl rfl ?_
        refine J_get F fcX4 0 9 rfl (Nat.le_of_ble_eq_true rfl) tw_3_232 rfl rfl (dcq dc_X4_findExtremes_0 15 rfl) ?_
        refine J_iload_n F 2 (dcq dc_X4_findExtremes_0 16 rfl) rfl rfl ?_
        refine J_aload_n F 0 (dcq dc_X4_findExtremes_0 17 rfl) rfl rfl ?_
        refine J_get F fcX4 0 7 rfl (Nat.le_of_ble_eq_true rfl) tw_3_230 rfl rfl (dcq dc_X4_findExtremes_0 18 rfl) ?_
        refine J_iload_n F 2 (dcq dc_X4_findExtremes_0 19 rfl) rfl rfl ?_
        refine J_lald F 2 rfl (by omega) (Nat.le_of_ble_eq_true rfl) (dcq dc_X4_findExtremes_0 20 rfl) ?_
        refine J_aload_n F 0 (dcq dc_X4_findExtremes_0 21 rfl) rfl rfl ?_
        refine J_get F fcX4 0 10 rfl (Nat.le_of_ble_eq_true rfl) tw_3_233 rfl rfl (dcq dc_X4_findExtremes_0 22 rfl) ?_
        refine J_iload_n F 2 (dcq dc_X4_findExtremes_0 23 rfl) rfl rfl ?_
        refine J_aload_n F 0 (dcq dc_X4_findExtremes_0 24 rfl) rfl rfl ?_
        refine J_get F fcX4 0 0 rfl (Nat.le_of_ble_eq_true rfl) tw_3_223 rfl rfl (dcq dc_X4_findExtremes_0 25 rfl) ?_
        refine J_iconst F (dcq dc_X4_findExtremes_0 26 rfl) ic_0 ?_
        refine J_iald F 1 rfl (by omega) (Nat.le_of_ble_eq_true rfl) (dcq dc_X4_findExtremes_0 27 rfl) ?_
        refine J_cast rfl (st2 := [.int (nI P), .int (nI t), .ref m8, .long (e5 t), .int (nI t), .ref m7]) (by rw [hRM.1]) rfl ?_
        refine J_irem F (v := nI (t % P)) (dcq dc_X4_findExtremes_0 28 rfl) (nI_ne0 (by omega) (by omega)) (pk_rem (by omega) (by omega) (by omega)) ?_
        refine J_lald F 4 rfl (by omega) (Nat.le_of_ble_eq_true rfl) (dcq dc_X4_findExtremes_0 29 rfl) ?_
        refine J_lsub F (v := (e5 t) - (e8 (t % P))) (dcq dc_X4_findExtremes_0 30 rfl) rfl ?_
        refine J_last F (ws2 := [oB 4 qm [.ref m0, .ref m1, .int (nI hc), .int (nI rf), .ref m2, .ref m3, .ref m4, .ref m5, .ref m6, .ref m7, .ref m8, .long sp, .ref m9, .ref m10, .ref m11, .long ha], aI G m0 220 nw, aJ G m5 72 e5, aJ G m7 72 (vp_updL ka t ((e5 t) - (e8 (t % P)))), aJ G m8 12 e8]) 3 rfl (by omega) (Nat.le_of_ble_eq_true rfl) rfl (dcq dc_X4_findExtremes_0 31 rfl) ?_
        refine J_lload_n F 1 (dcq dc_X4_findExtremes_0 32 rfl) rfl rfl ?_
        refine J_aload_n F 0 (dcq dc_X4_findExtremes_0 33 rfl) rfl rfl ?_
        refine J_get F fcX4 0 9 rfl (Nat.le_of_ble_eq_true rfl) tw_3_232 rfl rfl (dcq dc_X4_findExtremes_0 34 rfl) ?_
        refine J_iload_n F 2 (dcq dc_X4_findExtremes_0 35 rfl) rfl rfl ?_
        refine J_lald F 3 rfl (by omega) (Nat.le_of_ble_eq_true rfl) (dcq dc_X4_findExtremes_0 36 rfl) ?_
        refine J_callS F (wc := []) (wr := [oB 4 qm [.ref m0, .ref m1, .int (nI hc), .int (nI rf), .ref m2, .ref m3, .ref m4, .ref m5, .ref m6, .ref m7, .ref m8, .long sp, .ref m9, .ref m10, .ref m11, .long ha], aI G m0 220 nw, aJ G m5 72 e5, aJ G m7 72 (vp_updL ka t ((e5 t) - (e8 (t % P)))), aJ G m8 12 e8]) (rest := [.long xs]) (c_X4_size l hl G ((vp_updL ka t ((e5 t) - (e8 (t % P)))) t)) cd_X4_size tw_4_198 tw_4_197 [] [0, 1, 2, 3, 4] rfl rfl rfl rfl (by decide) rfl ⟨(Nat.le_of_ble_eq_true rfl), (Nat.le_of_ble_eq_true rfl), (Nat.le_of_ble_eq_true rfl), (Nat.le_of_ble_eq_true rfl)⟩ (Nat.le_of_ble_eq_true rfl) rfl (dcq dc_X4_findExtremes_0 37 rfl) ?_
        rintro _ _ ⟨rz, rfl, rfl, hrz0⟩
        change J p l e (cRm 2 40 0 0) s m args below meth c G A 4 (JQ below G A (po_X4_findExtremes G qm m0 m1 m2 m3 m4 m5 m6 m7 m8 m9 m10 m11 hc rf sp ha nw P M R n v g d e5 e7 e8 w) args s 0 0) 0 0 58 [(0, .ref qm), (1, .long xs), (3, .int (nI t))] [.long rz, .long xs] [oB 4 qm [.ref m0, .ref m1, .int (nI hc), .int (nI rf), .ref m2, .ref m3, .ref m4, .ref m5, .ref m6, .ref m7, .ref m8, .long sp, .ref m9, .ref m10, .ref m11, .long ha], aI G m0 220 nw, aJ G m5 72 e5, aJ G m7 72 (vp_updL ka t ((e5 t) - (e8 (t % P)))), aJ G m8 12 e8]
        have hrz0 : rz = absL ((vp_updL ka t ((e5 t) - (e8 (t % P)))) t) := hrz0
        have hdst9 : absL (e5 t - e8 (t % P)) = dst P M (P / 2) n v w t := by rw [hdv t ht1 (by omega), hf8 _ hml9]; rfl
        have hrz : rz = absL (e5 t - e8 (t % P)) := by rw [hrz0, pk_uLs]
        have hdst := hdst9
        refine J_ladd F (v := xs + rz) (dcq dc_X4_findExtremes_0 38 rfl) rfl ?_
        refine J_lstore_n F (lv2 := [(1, .long (xs + rz)), (0, .ref qm), (3, .int (nI t))]) (dcq dc_X4_findExtremes_0 39 rfl) rfl (Nat.le_of_ble_eq_true rfl) rfl ?_
        refine J_iinc F (lv2 := [(3, .int (nI (t + 1))), (1, .long (xs + rz)), (0, .ref qm)]) (v := nI (t + 1)) 2 (dcq dc_X4_findExtremes_0 40 rfl) rfl (nI_inc _) (Nat.le_of_ble_eq_true rfl) rfl ?_
        refine J_goto F 7 (dcq dc_X4_findExtremes_0 41 rfl) (by decide) ?_
        refine J_locs [2, 1, 0] rfl ?_
        exact ih7 (t + 1) (xs + rz) (vp_updL ka t ((e5 t) - (e8 (t % P)))) (by omega) (by omega) (by rw [sm_step ht1, ixs, hrz, hdst]) (up_abs i7 (hdst9)) (by omega)
  refine J_locs [2, 1, 0] rfl ?_
  exact L7 (n - P / 2 - (P / 2) + 1) (P / 2) 0 e7 (by omega) (by omega) (by rw [Nat.sub_self]; rfl) (fun j h1 h2 => absurd h2 (by omega)) (Nat.lt_succ_self _)

abbrev po_X4_findWeights (G : Gt) (qm m0 m1 m2 m3 m4 m5 m6 m7 m8 m9 m10 m11 hc rf : Nat) (sp ha : Int64) (nw : Nat → Int32) (P M R n : Nat) (v g d : Nat → Int32) (e5 : Nat → Int64) (e7 : Nat → Int64) (e8 : Nat → Int64) (e6 : Nat → Int32) (w : Nat → Int32) : Option Value → va_W → Prop := fun (v9 : Option Value) (w9 : va_W) => ∃ (sp2 : Int64), ∃ (k7 : Nat → Int64), ∃ (k6 : Nat → Int32), v9 = none ∧ w9 = [oB 4 qm [.ref m0, .ref m1, .int (nI hc), .int (nI rf), .ref m2, .ref m3, .ref m4, .ref m5, .ref m6, .ref m7, .ref m8, .long sp2, .ref m9, .ref m10, .ref m11, .long ha], aI G m0 220 nw, aJ G m5 72 e5, aI G m6 72 k6, aJ G m7 72 k7, aJ G m8 12 e8] ∧ (∀ t, P / 2 ≤ t → t + P / 2 < n → k6 t = wfor (wid P M (P / 2) n v w) (2 * dst P M (P / 2) n v w t))
set_option maxHeartbeats 4000000 in
set_option maxRecDepth 100000 in
theorem c_X4_findWeights (l : Launch) (hl : l.stackTraces = false) (G : Gt) (qm m0 m1 m2 m3 m4 m5 m6 m7 m8 m9 m10 m11 hc rf : Nat) (sp ha : Int64) (nw : Nat → Int32) (P M R n : Nat) (v g d : Nat → Int32) (e5 : Nat → Int64) (e7 : Nat → Int64) (e8 : Nat → Int64) (e6 : Nat → Int32) (w : Nat → Int32) (hRM : RM nw P M R n v g d) (hn : n ≤ 72) (hP : 2 ≤ P) (hP12 : P ≤ 12) (hM : M ≤ 1) (hPn : P + 2 * (P / 2) ≤ n) (hv : GV M n v) (hdv : ∀ t, P / 2 ≤ t → t + P / 2 < n → e5 t = dv P M (P / 2) v t) (hf8 : ∀ j, j < P → e8 j = fac P M (P / 2) n v w j) (hgw : GW P n w) : Con l G yX4_findWeights cX4_findWeights 4 none 3 63 0 0 [.ref qm] [oB 4 qm [.ref m0, .ref m1, .int (nI hc), .int (nI rf), .ref m2, .ref m3, .ref m4, .ref m5, .ref m6, .ref m7, .ref m8, .long sp, .ref m9, .ref m10, .ref m11, .long ha], aI G m0 220 nw, aJ G m5 72 e5, aI G m6 72 e6, aJ G m7 72 e7, aJ G m8 12 e8] (po_X4_findWeights G qm m0 m1 m2 m3 m4 m5 m6 m7 m8 m9 m10 m11 hc rf sp ha nw P M R n v g d e5 e7 e8 e6 w) := by
  refine Con.of hl cd_X4_findWeights (Nat.le_of_ble_eq_true rfl) ?_
  intro p e s m args below meth c A F hin9
  change Fx p l s m args meth c G A "SeasonalAdjusterModel" cX4_findWeights 4 none at F
  change J p l e (cRm 3 63 0 0) s m args below meth c G A 4 (JQ below G A (po_X4_findWeights G qm m0 m1 m2 m3 m4 m5 m6 m7 m8 m9 m10 m11 hc rf sp ha nw P M R n v g d e5 e7 e8 e6 w) args s 0 0) 0 0 0 [(0, .ref qm)] [] [oB 4 qm [.ref m0, .ref m1, .int (nI hc), .int (nI rf), .ref m2, .ref m3, .ref m4, .ref m5, .ref m6, .ref m7, .ref m8, .long sp, .ref m9, .ref m10, .ref m11, .long ha], aI G m0 220 nw, aJ G m5 72 e5, aI G m6 72 e6, aJ G m7 72 e7, aJ G m8 12 e8]
  refine J_aload_n F 0 (dcq dc_X4_findWeights_0 0 rfl) rfl rfl ?_
  refine J_callV F (wc := [oB 4 qm [.ref m0, .ref m1, .int (nI hc), .int (nI rf), .ref m2, .ref m3, .ref m4, .ref m5, .ref m6, .ref m7, .ref m8, .long sp, .ref m9, .ref m10, .ref m11, .long ha], aI G m0 220 nw, aJ G m5 72 e5, aJ G m7 72 e7, aJ G m8 12 e8]) (wr := [aI G m6 72 e6]) (rest := []) (qc := 0) (c_X4_findExtremes l hl G qm m0 m1 m2 m3 m4 m5 m6 m7 m8 m9 m10 m11 hc rf sp ha nw P M R n v g d e5 e7 e8 w (by first | assumption | omega) (by first | assumption | omega) (by first | assumption | omega) (by first | assumption | omega) (by first | assumption | omega) (by first | assumption | omega) (by first | assumption | omega) (by first | assumption | omega) (by first | assumption | omega)) cd_X4_findExtremes cv_X4_findExtremes rfl rfl rfl tw_4_193 [0, 1, 2, 4, 5] [3] rfl rfl rfl rfl (by decide) rfl ⟨(Nat.le_of_ble_eq_true rfl), (Nat.le_of_ble_eq_true rfl), (Nat.le_of_ble_eq_true rfl), (Nat.le_of_ble_eq_true rfl)⟩ (Nat.le_of_ble_eq_true rfl) rfl (dcq dc_X4_findWeights_0 1 rfl) ?_
  rintro _ _ ⟨sp2, k7, rfl, rfl, h7, hsp⟩
  change J p l e (cRm 3 63 0 0) s m args below meth c G A 4 (JQ below G A (po_X4_findWeights G qm m0 m1 m2 m3 m4 m5 m6 m7 m8 m9 m10 m11 hc rf sp ha nw P M R n v g d e5 e7 e8 e6 w) args s 0 0) 0 0 4 [(0, .ref qm)] [] [aI G m6 72 e6, oB 4 qm [.ref m0, .ref m1, .int (nI hc), .int (nI rf), .ref m2, .ref m3, .ref m4, .ref m5, .ref m6, .ref m7, .ref m8, .long sp2, .ref m9, .ref m10, .ref m11, .long ha], aI G m0 220 nw, aJ G m5 72 e5, aJ G m7 72 k7, aJ G m8 12 e8]
  have h7 : ∀ t, P / 2 ≤ t → t + P / 2 < n → absL (k7 t) = dst P M (P / 2) n v w t := h7
  have hsp : sp2 = wid P M (P / 2) n v w := hsp
  refine J_world (ws2 := [oB 4 qm [.ref m0, .ref m1, .int (nI hc), .int (nI rf), .ref m2, .ref m3, .ref m4, .ref m5, .ref m6, .ref m7, .ref m8, .long sp2, .ref m9, .ref m10, .ref m11, .long ha], aI G m0 220 nw, aJ G m5 72 e5, aI G m6 72 e6, aJ G m7 72 k7, aJ G m8 12 e8]) [1, 2, 3, 0, 4, 5] rfl rfl ?_
  refine J_aload_n F 0 (dcq dc_X4_findWeights_0 2 rfl) rfl rfl ?_
  refine J_callV F (wc := [oB 4 qm [.ref m0, .ref m1, .int (nI hc), .int (nI rf), .ref m2, .ref m3, .ref m4, .ref m5, .ref m6, .ref m7, .ref m8, .long sp2, .ref m9, .ref m10, .ref m11, .long ha], aI G m0 220 nw]) (wr := [aJ G m5 72 e5, aI G m6 72 e6, aJ G m7 72 k7, aJ G m8 12 e8]) (rest := []) (qc := 0) (c_X4_half l hl G qm m0 m1 m2 m3 m4 m5 m6 m7 m8 m9 m10 m11 hc rf sp2 ha nw P M R n v g d (by first | assumption | omega) (by first | assumption | omega)) cd_X4_half cv_X4_half rfl rfl rfl tw_4_160 [0, 1] [2, 3, 4, 5] rfl rfl rfl rfl (by decide) rfl ⟨(Nat.le_of_ble_eq_true rfl), (Nat.le_of_ble_eq_true rfl), (Nat.le_of_ble_eq_true rfl), (Nat.le_of_ble_eq_true rfl)⟩ (Nat.le_of_ble_eq_true rfl) rfl (dcq dc_X4_findWeights_0 3 rfl) ?_
  rintro _ _ ⟨rfl, rfl⟩
  change J p l e (cRm 3 63 0 0) s m args below meth c G A 4 (JQ below G A (po_X4_findWeights G qm m0 m1 m2 m3 m4 m5 m6 m7 m8 m9 m10 m11 hc rf sp ha nw P M R n v g d e5 e7 e8 e6 w) args s 0 0) 0 0 8 [(0, .ref qm)] [.int (nI (P / 2))] [aJ G m5 72 e5, aI G m6 72 e6, aJ G m7 72 k7, aJ G m8 12 e8, oB 4 qm [.ref m0, .ref m1, .int (nI hc), .int (nI rf), .ref m2, .ref m3, .ref m4, .ref m5, .ref m6, .ref m7, .ref m8, .long sp2, .ref m9, .ref m10, .ref m11, .long ha], aI G m0 220 nw]
  refine J_world (ws2 := [oB 4 qm [.ref m0, .ref m1, .int (nI hc), .int (nI rf), .ref m2, .ref m3, .ref m4, .ref m5, .ref m6, .ref m7, .ref m8, .long sp2, .ref m9, .ref m10, .ref m11, .long ha], aI G m0 220 nw, aJ G m5 72 e5, aI G m6 72 e6, aJ G m7 72 k7, aJ G m8 12 e8]) [4, 5, 0, 1, 2, 3] rfl rfl ?_
  refine J_istore_n F (lv2 := [(1, .int (nI (P / 2))), (0, .ref qm)]) (dcq dc_X4_findWeights_0 4 rfl) rfl (Nat.le_of_ble_eq_true rfl) rfl ?_
  have L9 : ∀ (fu9 : Nat), ∀ (t : Nat) (ka : Nat → Int32), (P / 2 ≤ t) → (t ≤ n - P / 2) → (∀ j, P / 2 ≤ j → j < t → ka j = wfor (wid P M (P / 2) n v w) (2 * dst P M (P / 2) n v w j)) → n - P / 2 - t < fu9 → J p l e (cRm 3 63 0 0) s m args below meth c G A 4 (JQ below G A (po_X4_findWeights G qm m0 m1 m2 m3 m4 m5 m6 m7 m8 m9 m10 m11 hc rf sp ha nw P M R n v g d e5 e7 e8 e6 w) args s 0 0) 0 0 9 [(0, .ref qm), (1, .int (nI t))] [] [oB 4 qm [.ref m0, .ref m1, .int (nI hc), .int (nI rf), .ref m2, .ref m3, .ref m4, .ref m5, .ref m6, .ref m7, .ref m8, .long sp2, .ref m9, .ref m10, .ref m11, .long ha], aI G m0 220 nw, aJ G m5 72 e5, aI G m6 72 ka, aJ G m7 72 k7, aJ G m8 12 e8] := by
    intro fu9
    induction fu9 with
    | zero => intro t ka ht1 ht2 i6 hm9; exact absurd hm9 (Nat.not_lt_zero _)
    | succ fu9 ih9 =>
      intro t ka ht1 ht2 i6 hm9
      refine J_iload_n F 1 (dcq dc_X4_findWeights_0 5 rfl) rfl rfl ?_
      refine J_aload_n F 0 (dcq dc_X4_findWeights_0 6 rfl) rfl rfl ?_
      refine J_get F fcX4 0 0 rfl (Nat.le_of_ble_eq_true rfl) tw_3_223 rfl rfl (dcq dc_X4_findWeights_0 7 rfl) ?_
      refine J_iconst F (dcq dc_X4_findWeights_0 8 rfl) ic_3 ?_
      refine J_iald F 1 rfl (by omega) (Nat.le_of_ble_eq_true rfl) (dcq dc_X4_findWeights_0 9 rfl) ?_
      refine J_cast rfl (st2 := [.int (nI n), .int (nI t)]) (by rw [hRM.2.2.2.1]) rfl ?_
      refine J_aload_n F 0 (dcq dc_X4_findWeights_0 10 rfl) rfl rfl ?_
      refine J_callV F (wc := [oB 4 qm [.ref m0, .ref m1, .int (nI hc), .int (nI rf), .ref m2, .ref m3, .ref m4, .ref m5, .ref m6, .ref m7, .ref m8, .long sp2, .ref m9, .ref m10, .ref m11, .long ha], aI G m0 220 nw]) (wr := [aJ G m5 72 e5, aI G m6 72 ka, aJ G m7 72 k7, aJ G m8 12 e8]) (rest := [.int (nI n), .int (nI t)]) (qc := 0) (c_X4_half l hl G qm m0 m1 m2 m3 m4 m5 m6 m7 m8 m9 m10 m11 hc rf sp2 ha nw P M R n v g d (by first | assumption | omega) (by first | assumption | omega)) cd_X4_half cv_X4_half rfl rfl rfl tw_4_160 [0, 1] [2, 3, 4, 5] rfl rfl rfl rfl (by decide) rfl ⟨(Nat.le_of_ble_eq_true rfl), (Nat.le_of_ble_eq_true rfl), (Nat.le_of_ble_eq_true rfl), (Nat.le_of_ble_eq_true rfl)⟩ (Nat.le_of_ble_eq_true rfl) rfl (dcq dc_X4_findWeights_0 11 rfl) ?_
      rintro _ _ ⟨rfl, rfl⟩
      change J p l e (cRm 3 63 0 0) s m args below meth c G A 4 (JQ below G A (po_X4_findWeights G qm m0 m1 m2 m3 m4 m5 m6 m7 m8 m9 m10 m11 hc rf sp ha nw P M R n v g d e5 e7 e8 e6 w) args s 0 0) 0 0 20 [(0, .ref qm), (1, .int (nI t))] [.int (nI (P / 2)), .int (nI n), .int (nI t)] [aJ G m5 72 e5, aI G m6 72 ka, aJ G m7 72 k7, aJ G m8 12 e8, oB 4 qm [.ref m0, .ref m1, .int (nI hc), .int (nI rf), .ref m2, .ref m3, .ref m4, .ref m5, .ref m6, .ref m7, .ref m8, .long sp2, .ref m9, .ref m10, .ref m11, .long ha], aI G m0 220 nw]
      refine J_world (ws2 := [oB 4 qm [.ref m0, .ref m1, .int (nI hc), .int (nI rf), .ref m2, .ref m3, .ref m4, .ref m5, .ref m6, .ref m7, .ref m8, .long sp2, .ref m9, .ref m10, .ref m11, .long ha], aI G m0 220 nw, aJ G m5 72 e5, aI G m6 72 ka, aJ G m7 72 k7, aJ G m8 12 e8]) [4, 5, 0, 1, 2, 3] rfl rfl ?_
      refine J_isub F (v := nI (n - P / 2)) (dcq dc_X4_findWeights_0 12 rfl) (pk_sub (by omega)) ?_
      refine J_ncmp_ge F 111 (by omega) (by omega) (dcq dc_X4_findWeights_0 13 rfl) (by decide) (fun h_1 => ?_) (fun h_1 => ?_)
      · skip
        exact J_vret F ⟨sp2, k7, ka, rfl, rfl, fun j h1 h2 => i6 j h1 (by omega)⟩ (Nat.le_of_ble_eq_true rfl) (Nat.le_of_ble_eq_true rfl) (dcq dc_X4_findWeights_1 12 rfl)
      · skip
        refine J_ldc2 F (v2 := (2)) tw_4_48 rfl (dcq dc_X4_findWeights_0 14 rfl) ?_
        refine J_aload_n F 0 (dcq dc_X4_findWeights_0 15 rfl) rfl rfl ?_
        refine J_get F fcX4 0 9 rfl (Nat.le_of_ble_eq_true rfl) tw_3_232 rfl rfl (dcq dc_X4_findWeights_0 16 rfl) ?_
        refine J_iload_n F 1 (dcq dc_X4_findWeights_0 17 rfl) rfl rfl ?_
        refine J_lald F 4 rfl (by omega) (Nat.le_of_ble_eq_true rfl) (dcq dc_X4_findWeights_0 18 rfl) ?_
        refine J_callS F (wc := []) (wr := [oB 4 qm [.ref m0, .ref m1, .int (nI hc), .int (nI rf), .ref m2, .ref m3, .ref m4, .ref m5, .ref m6, .ref m7, .ref m8, .long sp2, .ref m9, .ref m10, .ref m11, .long ha], aI G m0 220 nw, aJ G m5 72 e5, aI G m6 72 ka, aJ G m7 72 k7, aJ G m8 12 e8]) (rest := [.long 2]) (c_X4_size l hl G (k7 t)) cd_X4_size tw_4_198 tw_4_197 [] [0, 1, 2, 3, 4, 5] rfl rfl rfl rfl (by decide) rfl ⟨(Nat.le_of_ble_eq_true rfl), (Nat.le_of_ble_eq_true rfl), (Nat.le_of_ble_eq_true rfl), (Nat.le_of_ble_eq_true rfl)⟩ (Nat.le_of_ble_eq_true rfl) rfl (dcq dc_X4_findWeights_0 19 rfl) ?_
        rintro _ _ ⟨rz, rfl, rfl, hrz0⟩
        change J p l e (cRm 3 63 0 0) s m args below meth c G A 4 (JQ below G A (po_X4_findWeights G qm m0 m1 m2 m3 m4 m5 m6 m7 m8 m9 m10 m11 hc rf sp ha nw P M R n v g d e5 e7 e8 e6 w) args s 0 0) 0 0 36 [(0, .ref qm), (1, .int (nI t))] [.long rz, .long 2] [oB 4 qm [.ref m0, .ref m1, .int (nI hc), .int (nI rf), .ref m2, .ref m3, .ref m4, .ref m5, .ref m6, .ref m7, .ref m8, .long sp2, .ref m9, .ref m10, .ref m11, .long ha], aI G m0 220 nw, aJ G m5 72 e5, aI G m6 72 ka, aJ G m7 72 k7, aJ G m8 12 e8]
        have hrz0 : rz = absL (k7 t) := hrz0
        have hrz : rz = dst P M (P / 2) n v w t := by rw [hrz0, h7 t ht1 (by omega)]
        have hwb := wid_btw hP hP12 hn hPn hv hgw
        refine J_lmul F (v := 2 * rz) (dcq dc_X4_findWeights_0 20 rfl) rfl ?_
        refine J_lstore_n F (lv2 := [(2, .long (2 * rz)), (0, .ref qm), (1, .int (nI t))]) (dcq dc_X4_findWeights_0 21 rfl) rfl (Nat.le_of_ble_eq_true rfl) rfl ?_
        refine J_aload_n F 1 (dcq dc_X4_findWeights_0 22 rfl) rfl rfl ?_
        refine J_get F fcX4 0 8 rfl (Nat.le_of_ble_eq_true rfl) tw_3_231 rfl rfl (dcq dc_X4_findWeights_0 23 rfl) ?_
        refine J_iload_n F 2 (dcq dc_X4_findWeights_0 24 rfl) rfl rfl ?_
        refine J_lload_n F 0 (dcq dc_X4_findWeights_0 25 rfl) rfl rfl ?_
        refine J_ldc2 F (v2 := (3)) tw_4_205 rfl (dcq dc_X4_findWeights_0 26 rfl) ?_
        refine J_aload_n F 1 (dcq dc_X4_findWeights_0 27 rfl) rfl rfl ?_
        refine J_get F fcX4 0 11 rfl (Nat.le_of_ble_eq_true rfl) tw_3_234 rfl rfl (dcq dc_X4_findWeights_0 28 rfl) ?_
        refine J_lmul F (v := 3 * sp2) (dcq dc_X4_findWeights_0 29 rfl) rfl ?_
        refine J_lcmp_gt F 61 (dcq dc_X4_findWeights_0 30 rfl) (dcq dc_X4_findWeights_0 31 rfl) (by decide) (fun h_2 => ?_) (fun h_2 => ?_)
        · skip
          have h3 := h_2
          refine J_lload_n F 0 (dcq dc_X4_findWeights_0 34 rfl) rfl rfl ?_
          refine J_ldc2 F (v2 := (5)) tw_4_81 rfl (dcq dc_X4_findWeights_0 35 rfl) ?_
          refine J_aload_n F 1 (dcq dc_X4_findWeights_0 36 rfl) rfl rfl ?_
          refine J_get F fcX4 0 11 rfl (Nat.le_of_ble_eq_true rfl) tw_3_234 rfl rfl (dcq dc_X4_findWeights_0 37 rfl) ?_
          refine J_lmul F (v := 5 * sp2) (dcq dc_X4_findWeights_0 38 rfl) rfl ?_
          refine J_lcmp_lt F 78 (dcq dc_X4_findWeights_0 39 rfl) (dcq dc_X4_findWeights_0 40 rfl) (by decide) (fun h_3 => ?_) (fun h_3 => ?_)
          · skip
            have h5 := h_3
            refine J_ldc2 F (v2 := (100)) tw_4_206 rfl (dcq dc_X4_findWeights_0 43 rfl) ?_
            refine J_ldc2 F (v2 := (5)) tw_4_81 rfl (dcq dc_X4_findWeights_0 44 rfl) ?_
            refine J_aload_n F 1 (dcq dc_X4_findWeights_0 45 rfl) rfl rfl ?_
            refine J_get F fcX4 0 11 rfl (Nat.le_of_ble_eq_true rfl) tw_3_234 rfl rfl (dcq dc_X4_findWeights_0 46 rfl) ?_
            refine J_lmul F (v := 5 * sp2) (dcq dc_X4_findWeights_0 47 rfl) rfl ?_
            refine J_lload_n F 0 (dcq dc_X4_findWeights_1 0 rfl) rfl rfl ?_
            refine J_lsub F (v := (5 * sp2) - (2 * rz)) (dcq dc_X4_findWeights_1 1 rfl) rfl ?_
            refine J_lmul F (v := 100 * ((5 * sp2) - (2 * rz))) (dcq dc_X4_findWeights_1 2 rfl) rfl ?_
            refine J_ldc2 F (v2 := (2)) tw_4_48 rfl (dcq dc_X4_findWeights_1 3 rfl) ?_
            refine J_aload_n F 1 (dcq dc_X4_findWeights_1 4 rfl) rfl rfl ?_
            refine J_get F fcX4 0 11 rfl (Nat.le_of_ble_eq_true rfl) tw_3_234 rfl rfl (dcq dc_X4_findWeights_1 5 rfl) ?_
            refine J_lmul F (v := 2 * sp2) (dcq dc_X4_findWeights_1 6 rfl) rfl ?_
            refine J_callS F (wc := []) (wr := [oB 4 qm [.ref m0, .ref m1, .int (nI hc), .int (nI rf), .ref m2, .ref m3, .ref m4, .ref m5, .ref m6, .ref m7, .ref m8, .long sp2, .ref m9, .ref m10, .ref m11, .long ha], aI G m0 220 nw, aJ G m5 72 e5, aI G m6 72 ka, aJ G m7 72 k7, aJ G m8 12 e8]) (rest := [.int (nI t), .ref m6]) (c_X4_over l hl G (100 * ((5 * sp2) - (2 * rz))) (2 * sp2) (by rw [tI0, hsp]; have hwd := wfor_D hwb.1 hwb.2 (x := 2 * rz) (by rw [← hsp]; exact Int64.not_le.mpr h3) (by rw [← hsp]; exact Int64.not_le.mpr h5); omega)) cd_X4_over tw_4_138 tw_4_137 [] [0, 1, 2, 3, 4, 5] rfl rfl rfl rfl (by decide) rfl ⟨(Nat.le_of_ble_eq_true rfl), (Nat.le_of_ble_eq_true rfl), (Nat.le_of_ble_eq_true rfl), (Nat.le_of_ble_eq_true rfl)⟩ (Nat.le_of_ble_eq_true rfl) rfl (dcq dc_X4_findWeights_1 7 rfl) ?_
            rintro _ _ ⟨rq, rfl, rfl, hrq⟩
            change J p l e (cRm 3 63 0 0) s m args below meth c G A 4 (JQ below G A (po_X4_findWeights G qm m0 m1 m2 m3 m4 m5 m6 m7 m8 m9 m10 m11 hc rf sp ha nw P M R n v g d e5 e7 e8 e6 w) args s 0 0) 0 0 103 [(2, .long (2 * rz)), (0, .ref qm), (1, .int (nI t))] [.long rq, .int (nI t), .ref m6] [oB 4 qm [.ref m0, .ref m1, .int (nI hc), .int (nI rf), .ref m2, .ref m3, .ref m4, .ref m5, .ref m6, .ref m7, .ref m8, .long sp2, .ref m9, .ref m10, .ref m11, .long ha], aI G m0 220 nw, aJ G m5 72 e5, aI G m6 72 ka, aJ G m7 72 k7, aJ G m8 12 e8]
            have hrq : rq = quo (100 * ((5 * sp2) - (2 * rz))) (2 * sp2) := hrq
            refine J_l2i F (v := rq.toInt32) (dcq dc_X4_findWeights_1 8 rfl) rfl ?_
            refine J_iast F (ws2 := [oB 4 qm [.ref m0, .ref m1, .int (nI hc), .int (nI rf), .ref m2, .ref m3, .ref m4, .ref m5, .ref m6, .ref m7, .ref m8, .long sp2, .ref m9, .ref m10, .ref m11, .long ha], aI G m0 220 nw, aJ G m5 72 e5, aI G m6 72 (upd ka t rq.toInt32), aJ G m7 72 k7, aJ G m8 12 e8]) 3 rfl (by omega) (Nat.le_of_ble_eq_true rfl) rfl (dcq dc_X4_findWeights_1 9 rfl) ?_
            refine J_iinc F (lv2 := [(1, .int (nI (t + 1))), (2, .long (2 * rz)), (0, .ref qm)]) (v := nI (t + 1)) 2 (dcq dc_X4_findWeights_1 10 rfl) rfl (nI_inc _) (Nat.le_of_ble_eq_true rfl) rfl ?_
            refine J_goto F 9 (dcq dc_X4_findWeights_1 11 rfl) (by decide) ?_
            refine J_locs [2, 0] rfl ?_
            exact ih9 (t + 1) (upd ka t rq.toInt32) (by omega) (by omega) (up_i i6 (by rw [← hsp, ← hrz]; unfold wfor; first | exact (if_pos (Int64.not_lt.mp h3)).symm | (rw [if_neg (Int64.not_le.mpr h3), if_pos (Int64.not_lt.mp h5)]; done) | (rw [if_neg (Int64.not_le.mpr h3), if_neg (Int64.not_le.mpr h5), hrq]; done))) (by omega)
          · skip
            have h5 := h_3
            refine J_iconst F (dcq dc_X4_findWeights_0 41 rfl) ic_0 ?_
            refine J_goto F 104 (dcq dc_X4_findWeights_0 42 rfl) (by decide) ?_
            refine J_iast F (ws2 := [oB 4 qm [.ref m0, .ref m1, .int (nI hc), .int (nI rf), .ref m2, .ref m3, .ref m4, .ref m5, .ref m6, .ref m7, .ref m8, .long sp2, .ref m9, .ref m10, .ref m11, .long ha], aI G m0 220 nw, aJ G m5 72 e5, aI G m6 72 (upd ka t (nI 0)), aJ G m7 72 k7, aJ G m8 12 e8]) 3 rfl (by omega) (Nat.le_of_ble_eq_true rfl) rfl (dcq dc_X4_findWeights_1 9 rfl) ?_
            refine J_iinc F (lv2 := [(1, .int (nI (t + 1))), (2, .long (2 * rz)), (0, .ref qm)]) (v := nI (t + 1)) 2 (dcq dc_X4_findWeights_1 10 rfl) rfl (nI_inc _) (Nat.le_of_ble_eq_true rfl) rfl ?_
            refine J_goto F 9 (dcq dc_X4_findWeights_1 11 rfl) (by decide) ?_
            refine J_locs [2, 0] rfl ?_
            exact ih9 (t + 1) (upd ka t (nI 0)) (by omega) (by omega) (up_i i6 (by rw [← hsp, ← hrz]; unfold wfor; first | exact (if_pos (Int64.not_lt.mp h3)).symm | (rw [if_neg (Int64.not_le.mpr h3), if_pos (Int64.not_lt.mp h5)]; done) | (rw [if_neg (Int64.not_le.mpr h3), if_neg (Int64.not_le.mpr h5), hrq]; done))) (by omega)
        · skip
          have h3 := h_2
          refine J_bipush F (dcq dc_X4_findWeights_0 32 rfl) bc_100 ?_
          refine J_goto F 104 (dcq dc_X4_findWeights_0 33 rfl) (by decide) ?_
          refine J_iast F (ws2 := [oB 4 qm [.ref m0, .ref m1, .int (nI hc), .int (nI rf), .ref m2, .ref m3, .ref m4, .ref m5, .ref m6, .ref m7, .ref m8, .long sp2, .ref m9, .ref m10, .ref m11, .long ha], aI G m0 220 nw, aJ G m5 72 e5, aI G m6 72 (upd ka t (nI 100)), aJ G m7 72 k7, aJ G m8 12 e8]) 3 rfl (by omega) (Nat.le_of_ble_eq_true rfl) rfl (dcq dc_X4_findWeights_1 9 rfl) ?_
          refine J_iinc F (lv2 := [(1, .int (nI (t + 1))), (2, .long (2 * rz)), (0, .ref qm)]) (v := nI (t + 1)) 2 (dcq dc_X4_findWeights_1 10 rfl) rfl (nI_inc _) (Nat.le_of_ble_eq_true rfl) rfl ?_
          refine J_goto F 9 (dcq dc_X4_findWeights_1 11 rfl) (by decide) ?_
          refine J_locs [2, 0] rfl ?_
          exact ih9 (t + 1) (upd ka t (nI 100)) (by omega) (by omega) (up_i i6 (by rw [← hsp, ← hrz]; unfold wfor; first | exact (if_pos (Int64.not_lt.mp h3)).symm | (rw [if_neg (Int64.not_le.mpr h3), if_pos (Int64.not_lt.mp h5)]; done) | (rw [if_neg (Int64.not_le.mpr h3), if_neg (Int64.not_le.mpr h5), hrq]; done))) (by omega)
  refine J_locs [1, 0] rfl ?_
  exact L9 (n - P / 2 - (P / 2) + 1) (P / 2) e6 (by omega) (by omega) (fun j h1 h2 => absurd h2 (by omega)) (Nat.lt_succ_self _)
