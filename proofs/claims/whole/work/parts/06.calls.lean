/-! calls and throws at J -/
section JC
variable {p : Program} {l : Launch} {e : Env} {R : Room} {s : State} {m : MethodId} {args : Array Value} {below : List Frame} {meth : Method} {c : Code} {G : Gt} {A : Nat → Prop} {n : Nat} {Q : State → Prop} {kc ks : Nat} {own : String} {cc : ByteArray} {ret0 : Option FieldType}
variable {pc : Nat} {lv : List (Nat × Value)} {st rest : List Value} {ws wc wr : va_W}
theorem va_callQ {H : Heap} {locs : List Loc} {ls : Array Slot} {A1 : Nat → Prop} {post : Option Value → va_W → Prop} {mc ms : Nat} {a : Array Value} {H0 : Heap} {st0 : List Value} (hr : va_Run p l e R s m args below meth c H locs kc ks mc ms (F0 m pc ls st0) rest (CQ G A1 post a) A1) (hS : va_S A H0 H locs) (hA : ∀ q, A1 q → A q)
    (kk : ∀ (v : Option Value) (w : va_W) (H1 : Heap) (locs1 : List Loc), post v w → va_P (gD G) vwCl w H1 → va_D A1 w → (∀ q : Nat, q < H.size → ¬ A1 q → H1[q]? = H[q]?) → va_S A H0 H1 locs1 → W p l e R s m args below meth c H1 locs1 (kc + mc) (ks + ms) Q (F0 m (pc + 3) ls (v.toList ++ rest))) : W p l e R s m args below meth c H locs kc ks Q (F0 m pc ls st0) := by
  intro T hT X
  obtain ⟨v, st₀, t, T', L, h0, X', hL, e1, e2, ⟨⟨v2, w, hv, hp, hw, hd⟩, hF⟩, st⟩ := hr T hT X
  cases hv
  obtain ⟨k1, k2, k3⟩ := vx_keep h0 e1 hS (fun q _ h => hA q h) hA hL hF
  obtain ⟨t2, a1, b1⟩ := kk v w T'.heap (locs ++ L) hp (by rw [e1]; exact hw) hd k2 k3 T' rfl X'
  exact ⟨t2, st t2 a1, b1⟩
theorem vx_callQ {H : Heap} {locs : List Loc} {ls : Array Slot} {A1 : Nat → Prop} {post : Option Value → va_W → Prop} {px : String → va_W → Prop} {mc ms : Nat} {a : Array Value} {H0 : Heap} {st0 : List Value} (hr : vx_Run p l e R s m args below meth c H locs kc ks mc ms (F0 m pc ls st0) rest (CQ G A1 post a) (CX G A1 px) A1) (hS : va_S A H0 H locs) (hA : ∀ q, A1 q → A q)
    (kx : ∀ (E : String) (w : va_W) (ce : Cell) (q9 : Addr) (H1 : Heap) (locs1 : List Loc), px E w → va_P (gD G) vwCl w H1 → va_D A1 w → (∀ q : Nat, q < H.size → ¬ A1 q → H1[q]? = H[q]?) → va_S A H0 H1 locs1 → H1[q9]? = some ce → ce.vm = .none → s.vm.findClass E = some ce.cls → vx_W p l e R s m args below meth c H1 locs1 (kc + mc) (ks + ms) Q (F0 m pc ls rest) q9)
    (kk : ∀ (v : Option Value) (w : va_W) (H1 : Heap) (locs1 : List Loc), post v w → va_P (gD G) vwCl w H1 → va_D A1 w → (∀ q : Nat, q < H.size → ¬ A1 q → H1[q]? = H[q]?) → va_S A H0 H1 locs1 → W p l e R s m args below meth c H1 locs1 (kc + mc) (ks + ms) Q (F0 m (pc + 3) ls (v.toList ++ rest))) : W p l e R s m args below meth c H locs kc ks Q (F0 m pc ls st0) := by
  intro T hT X
  rcases hr T hT X with ⟨v, st₀, t, T', L, h0, X', hL, e1, e2, ⟨⟨v2, w, hv, hp, hw, hd⟩, hF⟩, st⟩ | ⟨q, st₀, t, T', L, E, ce, h0, X', hL, e1, e2, ⟨⟨w, hp, hw, hd⟩, hF⟩, hce, hcv, hcl, st⟩
  · cases hv
    obtain ⟨k1, k2, k3⟩ := vx_keep h0 e1 hS (fun q _ h => hA q h) hA hL hF
    obtain ⟨t2, a1, b1⟩ := kk v w T'.heap (locs ++ L) hp (by rw [e1]; exact hw) hd k2 k3 T' rfl X'
    exact ⟨t2, st t2 a1, b1⟩
  · obtain ⟨k1, k2, k3⟩ := vx_keep h0 e1 hS (fun q _ h => hA q h) hA hL hF
    obtain ⟨t2, a1, b1⟩ := kx E w ce q T'.heap (locs ++ L) hp (by rw [e1]; exact hw) hd k2 k3 (by rw [e1]; exact hce) hcv hcl T' rfl X'
    exact ⟨t2, st.trans a1, b1⟩
theorem J_callV (F : Fx p l s m args meth c G A own cc n ret0) {y : MethodName} {b : ByteArray} {mL ix k fr lo mc ms : Nat} {ret : Option FieldType} {As : List Value} {post : Option Value → va_W → Prop} {st0 : List Value} {a : Nat} (hC : Con l G y b mL ret fr lo mc ms (.ref a :: As) wc post) (cd : Cd y b mL ret k) {ci qc : Nat} {fs : List Value} {r : vw_C} (cv : Cv y) (he : wc[qc]? = some (a, .inr (ci, fs))) (hci : vwCl[ci]? = some r) (hy : r.1 = y.cls) (hw : Cond.methodLink own ix y ∈ TBL) (isC isR : List Nat) (hCw : isC.map (fun i => ws[i]?) = wc.map some) (hRw : isR.map (fun i => ws[i]?) = wr.map some) (hnC : va_nd isC = true) (hnR : va_nd isR = true) (hdis : ∀ i ∈ isR, i ∉ isC) (hlen : As.length = k) (hR : fr + 1 ≤ R.frames ∧ 8 + (mL + 11) + lo ≤ R.locals ∧ kc + mc ≤ R.cells ∧ ks + ms ≤ R.slots) (hst : (rest.map fun v => v.category).sum ≤ 8) (hstk : st0 = As.reverse ++ .ref a :: rest) (hdg : decode cc pc = .ok (.invokevirtual ix, 3)) (kk : ∀ (v : Option Value) (w : va_W), post v w → J p l e R s m args below meth c G A n Q (kc + mc) (ks + ms) (pc + 3) lv (v.toList ++ rest) (wr ++ w)) : J p l e R s m args below meth c G A n Q kc ks pc lv st0 ws := by
  obtain ⟨hx, hb, hml, hown, hts, hK, hE, hA, hlk, hr, hstt⟩ := F
  intro H locs ls hl hP hD hS
  have hPc := hP.sub isC (pick_all hCw)
  have hDc := (hD.sub isC hnC hCw).weaken (B := fun _ => True) (fun _ _ _ _ => trivial)
  have hFc := va_free hD hS hA isC hCw
  have hrc : ∃ cellB : Cell, H[a]? = some cellB ∧ cellB.vm.isStatics = false ∧ s.vm.findClass y.cls = some cellB.cls := by
    have h9 := va_recv hK hPc hci he
    rw [hy] at h9
    exact h9
  refine va_callQ (A1 := va_A wc H.size) (a := (Value.ref a :: As).toArray) (va_runV (C := y.cls) (As := As) (rest := rest) ⟨hx, hb, hml, hown, hts⟩ (hC H.size) ⟨callB_of k hts (goodT cd.1) rfl rfl rfl (hts _ cd.2.1) (hts _ hw) cd.2.2.1 ⟨hR.1, hR.2.1⟩, hts _ cv.1, hts _ cv.2⟩ ⟨CP.blind G _ wc H.size, hrc, fun U hU hW => ⟨rfl, by rw [hU], by rw [hU]; exact hPc, va_K.moved hW.alike hK, hDc, by rw [hU]; exact hE.go hW hS hFc⟩⟩ rfl hlen hl.1 hstk (lv_room hst) hdg ⟨hR.2.2.1, hR.2.2.2⟩) hS hFc (fun v w H1 locs1 hp hP1 hD1 hk1 hS1 => ?_)
  obtain ⟨hP2, hD2⟩ := va_join hP hD isC isR hCw hRw hnR hdis hk1 hFc hP1 hD1
  exact kk v w hp H1 locs1 ls hl hP2 hD2 hS1
theorem J_callVX (F : Fx p l s m args meth c G A own cc n ret0) {y : MethodName} {b : ByteArray} {mL ix k fr lo mc ms : Nat} {ret : Option FieldType} {As : List Value} {post : Option Value → va_W → Prop} {st0 : List Value} {px : String → va_W → Prop} {a : Nat} (hC : Cox l G y b mL ret fr lo mc ms (.ref a :: As) wc post px) (cd : Cd y b mL ret k) {ci qc : Nat} {fs : List Value} {r : vw_C} (cv : Cv y) (he : wc[qc]? = some (a, .inr (ci, fs))) (hci : vwCl[ci]? = some r) (hy : r.1 = y.cls) (hw : Cond.methodLink own ix y ∈ TBL) (isC isR : List Nat) (hCw : isC.map (fun i => ws[i]?) = wc.map some) (hRw : isR.map (fun i => ws[i]?) = wr.map some) (hnC : va_nd isC = true) (hnR : va_nd isR = true) (hdis : ∀ i ∈ isR, i ∉ isC) (hlen : As.length = k) (hR : fr + 1 ≤ R.frames ∧ 8 + (mL + 11) + lo ≤ R.locals ∧ kc + mc ≤ R.cells ∧ ks + ms ≤ R.slots) (hst : (rest.map fun v => v.category).sum ≤ 8) (hstk : st0 = As.reverse ++ .ref a :: rest) (hdg : decode cc pc = .ok (.invokevirtual ix, 3)) (kx : ∀ (E : String) (w : va_W), px E w → Jx p l e R s m args below meth c G A n Q (kc + mc) (ks + ms) E pc lv rest (wr ++ w)) (kk : ∀ (v : Option Value) (w : va_W), post v w → J p l e R s m args below meth c G A n Q (kc + mc) (ks + ms) (pc + 3) lv (v.toList ++ rest) (wr ++ w)) : J p l e R s m args below meth c G A n Q kc ks pc lv st0 ws := by
  obtain ⟨hx, hb, hml, hown, hts, hK, hE, hA, hlk, hr, hstt⟩ := F
  intro H locs ls hl hP hD hS
  have hPc := hP.sub isC (pick_all hCw)
  have hDc := (hD.sub isC hnC hCw).weaken (B := fun _ => True) (fun _ _ _ _ => trivial)
  have hFc := va_free hD hS hA isC hCw
  have hrc : ∃ cellB : Cell, H[a]? = some cellB ∧ cellB.vm.isStatics = false ∧ s.vm.findClass y.cls = some cellB.cls := by
    have h9 := va_recv hK hPc hci he
    rw [hy] at h9
    exact h9
  refine vx_callQ (A1 := va_A wc H.size) (a := (Value.ref a :: As).toArray) (vx_runV (C := y.cls) (As := As) (rest := rest) ⟨hx, hb, hml, hown, hts⟩ (hC H.size) ⟨callB_of k hts (goodT cd.1) rfl rfl rfl (hts _ cd.2.1) (hts _ hw) cd.2.2.1 ⟨hR.1, hR.2.1⟩, hts _ cv.1, hts _ cv.2⟩ ⟨CP.blind G _ wc H.size, hrc, fun U hU hW => ⟨rfl, by rw [hU], by rw [hU]; exact hPc, va_K.moved hW.alike hK, hDc, by rw [hU]; exact hE.go hW hS hFc⟩⟩ rfl hlen hl.1 hstk (lv_room hst) hdg ⟨hR.2.2.1, hR.2.2.2⟩) hS hFc (fun E w ce q9 H1 locs1 hp hP1 hD1 hk1 hS1 hce hcv hcl => ?_) (fun v w H1 locs1 hp hP1 hD1 hk1 hS1 => ?_)
  · obtain ⟨hP2, hD2⟩ := va_join hP hD isC isR hCw hRw hnR hdis hk1 hFc hP1 hD1
    exact kx E w hp H1 locs1 ls ce q9 hl hP2 hD2 hS1 hce hcv hcl
  · obtain ⟨hP2, hD2⟩ := va_join hP hD isC isR hCw hRw hnR hdis hk1 hFc hP1 hD1
    exact kk v w hp H1 locs1 ls hl hP2 hD2 hS1
theorem J_callS (F : Fx p l s m args meth c G A own cc n ret0) {y : MethodName} {b : ByteArray} {mL ix k fr lo mc ms : Nat} {ret : Option FieldType} {As : List Value} {post : Option Value → va_W → Prop} {st0 : List Value} (hC : Con l G y b mL ret fr lo mc ms As wc post) (cd : Cd y b mL ret k) (hsta : Cond.static y ∈ TBL) (hw : Cond.methodLink own ix y ∈ TBL) (isC isR : List Nat) (hCw : isC.map (fun i => ws[i]?) = wc.map some) (hRw : isR.map (fun i => ws[i]?) = wr.map some) (hnC : va_nd isC = true) (hnR : va_nd isR = true) (hdis : ∀ i ∈ isR, i ∉ isC) (hlen : As.length = k) (hR : fr + 1 ≤ R.frames ∧ 8 + (mL + 11) + lo ≤ R.locals ∧ kc + mc ≤ R.cells ∧ ks + ms ≤ R.slots) (hst : (rest.map fun v => v.category).sum ≤ 8) (hstk : st0 = As.reverse ++ rest) (hdg : decode cc pc = .ok (.invokestatic ix, 3)) (kk : ∀ (v : Option Value) (w : va_W), post v w → J p l e R s m args below meth c G A n Q (kc + mc) (ks + ms) (pc + 3) lv (v.toList ++ rest) (wr ++ w)) : J p l e R s m args below meth c G A n Q kc ks pc lv st0 ws := by
  obtain ⟨hx, hb, hml, hown, hts, hK, hE, hA, hlk, hr, hstt⟩ := F
  intro H locs ls hl hP hD hS
  have hPc := hP.sub isC (pick_all hCw)
  have hDc := (hD.sub isC hnC hCw).weaken (B := fun _ => True) (fun _ _ _ _ => trivial)
  have hFc := va_free hD hS hA isC hCw
  refine va_callQ (A1 := va_A wc H.size) (a := As.toArray) (va_runS (As := As) (rest := rest) ⟨hx, hb, hml, hown, hts⟩ (hC H.size) ⟨callB_of k hts (goodT cd.1) rfl rfl rfl (hts _ cd.2.1) (hts _ hw) cd.2.2.1 ⟨hR.1, hR.2.1⟩, hts _ hsta⟩ ⟨CP.blind G _ wc H.size, fun U hU hW => ⟨rfl, by rw [hU], by rw [hU]; exact hPc, va_K.moved hW.alike hK, hDc, by rw [hU]; exact hE.go hW hS hFc⟩⟩ rfl hlen hl.1 hstk (lv_room hst) hdg ⟨hR.2.2.1, hR.2.2.2⟩) hS hFc (fun v w H1 locs1 hp hP1 hD1 hk1 hS1 => ?_)
  obtain ⟨hP2, hD2⟩ := va_join hP hD isC isR hCw hRw hnR hdis hk1 hFc hP1 hD1
  exact kk v w hp H1 locs1 ls hl hP2 hD2 hS1
theorem J_callSX (F : Fx p l s m args meth c G A own cc n ret0) {y : MethodName} {b : ByteArray} {mL ix k fr lo mc ms : Nat} {ret : Option FieldType} {As : List Value} {post : Option Value → va_W → Prop} {st0 : List Value} {px : String → va_W → Prop} (hC : Cox l G y b mL ret fr lo mc ms As wc post px) (cd : Cd y b mL ret k) (hsta : Cond.static y ∈ TBL) (hw : Cond.methodLink own ix y ∈ TBL) (isC isR : List Nat) (hCw : isC.map (fun i => ws[i]?) = wc.map some) (hRw : isR.map (fun i => ws[i]?) = wr.map some) (hnC : va_nd isC = true) (hnR : va_nd isR = true) (hdis : ∀ i ∈ isR, i ∉ isC) (hlen : As.length = k) (hR : fr + 1 ≤ R.frames ∧ 8 + (mL + 11) + lo ≤ R.locals ∧ kc + mc ≤ R.cells ∧ ks + ms ≤ R.slots) (hst : (rest.map fun v => v.category).sum ≤ 8) (hstk : st0 = As.reverse ++ rest) (hdg : decode cc pc = .ok (.invokestatic ix, 3)) (kx : ∀ (E : String) (w : va_W), px E w → Jx p l e R s m args below meth c G A n Q (kc + mc) (ks + ms) E pc lv rest (wr ++ w)) (kk : ∀ (v : Option Value) (w : va_W), post v w → J p l e R s m args below meth c G A n Q (kc + mc) (ks + ms) (pc + 3) lv (v.toList ++ rest) (wr ++ w)) : J p l e R s m args below meth c G A n Q kc ks pc lv st0 ws := by
  obtain ⟨hx, hb, hml, hown, hts, hK, hE, hA, hlk, hr, hstt⟩ := F
  intro H locs ls hl hP hD hS
  have hPc := hP.sub isC (pick_all hCw)
  have hDc := (hD.sub isC hnC hCw).weaken (B := fun _ => True) (fun _ _ _ _ => trivial)
  have hFc := va_free hD hS hA isC hCw
  refine vx_callQ (A1 := va_A wc H.size) (a := As.toArray) (vx_runS (As := As) (rest := rest) ⟨hx, hb, hml, hown, hts⟩ (hC H.size) ⟨callB_of k hts (goodT cd.1) rfl rfl rfl (hts _ cd.2.1) (hts _ hw) cd.2.2.1 ⟨hR.1, hR.2.1⟩, hts _ hsta⟩ ⟨CP.blind G _ wc H.size, fun U hU hW => ⟨rfl, by rw [hU], by rw [hU]; exact hPc, va_K.moved hW.alike hK, hDc, by rw [hU]; exact hE.go hW hS hFc⟩⟩ rfl hlen hl.1 hstk (lv_room hst) hdg ⟨hR.2.2.1, hR.2.2.2⟩) hS hFc (fun E w ce q9 H1 locs1 hp hP1 hD1 hk1 hS1 hce hcv hcl => ?_) (fun v w H1 locs1 hp hP1 hD1 hk1 hS1 => ?_)
  · obtain ⟨hP2, hD2⟩ := va_join hP hD isC isR hCw hRw hnR hdis hk1 hFc hP1 hD1
    exact kx E w hp H1 locs1 ls ce q9 hl hP2 hD2 hS1 hce hcv hcl
  · obtain ⟨hP2, hD2⟩ := va_join hP hD isC isR hCw hRw hnR hdis hk1 hFc hP1 hD1
    exact kk v w hp H1 locs1 ls hl hP2 hD2 hS1
theorem J_callSN (F : Fx p l s m args meth c G A own cc n ret0) {y : MethodName} {b : ByteArray} {mL ix k fr lo mc ms : Nat} {ret : Option FieldType} {As : List Value} {post : Option Value → va_W → Prop} {st0 : List Value} (hC : Con l G y b mL ret fr lo mc ms As wc post) (cd : Cd y b mL ret k) (hsta : Cond.static y ∈ TBL) {host : String} (hw : (own, ix, y, host) ∈ nestT) (isC isR : List Nat) (hCw : isC.map (fun i => ws[i]?) = wc.map some) (hRw : isR.map (fun i => ws[i]?) = wr.map some) (hnC : va_nd isC = true) (hnR : va_nd isR = true) (hdis : ∀ i ∈ isR, i ∉ isC) (hlen : As.length = k) (hR : fr + 1 ≤ R.frames ∧ 8 + (mL + 11) + lo ≤ R.locals ∧ kc + mc ≤ R.cells ∧ ks + ms ≤ R.slots) (hst : (rest.map fun v => v.category).sum ≤ 8) (hstk : st0 = As.reverse ++ rest) (hdg : decode cc pc = .ok (.invokestatic ix, 3)) (kk : ∀ (v : Option Value) (w : va_W), post v w → J p l e R s m args below meth c G A n Q (kc + mc) (ks + ms) (pc + 3) lv (v.toList ++ rest) (wr ++ w)) : J p l e R s m args below meth c G A n Q kc ks pc lv st0 ws := by
  obtain ⟨hx, hb, hml, hown, hts, hK, hE, hA, hlk, hr, hstt⟩ := F
  intro H locs ls hl hP hD hS
  have hPc := hP.sub isC (pick_all hCw)
  have hDc := (hD.sub isC hnC hCw).weaken (B := fun _ => True) (fun _ _ _ _ => trivial)
  have hFc := va_free hD hS hA isC hCw
  refine va_callQ (A1 := va_A wc H.size) (a := As.toArray) (va_runSN (As := As) (rest := rest) ⟨hx, hb, hml, hown, hts⟩ (hC H.size) ⟨va_cnB k hts (goodT cd.1) rfl rfl rfl (hE.2.2.2.1 _ hw) (hts _ cd.2.1) cd.2.2.1 ⟨hR.1, hR.2.1⟩, hts _ hsta, trivial⟩ ⟨CP.blind G _ wc H.size, fun U hU hW => ⟨rfl, by rw [hU], by rw [hU]; exact hPc, va_K.moved hW.alike hK, hDc, by rw [hU]; exact hE.go hW hS hFc⟩⟩ rfl hlen hl.1 hstk (lv_room hst) hdg ⟨hR.2.2.1, hR.2.2.2⟩) hS hFc (fun v w H1 locs1 hp hP1 hD1 hk1 hS1 => ?_)
  obtain ⟨hP2, hD2⟩ := va_join hP hD isC isR hCw hRw hnR hdis hk1 hFc hP1 hD1
  exact kk v w hp H1 locs1 ls hl hP2 hD2 hS1
theorem J_callI (F : Fx p l s m args meth c G A own cc n ret0) {y : MethodName} {b : ByteArray} {mL ix k fr lo mc ms : Nat} {ret : Option FieldType} {As : List Value} {post : Option Value → va_W → Prop} {st0 : List Value} {a : Nat} (hC : Con l G y b mL none fr lo mc ms (.ref a :: As) wc post) (cd : Cd y b mL none k) (him : Cond.instanceMethod y ∈ TBL) (hyn : y.name = "<init>") (hw : Cond.methodLink own ix y ∈ TBL) (isC isR : List Nat) (hCw : isC.map (fun i => ws[i]?) = wc.map some) (hRw : isR.map (fun i => ws[i]?) = wr.map some) (hnC : va_nd isC = true) (hnR : va_nd isR = true) (hdis : ∀ i ∈ isR, i ∉ isC) (hlen : As.length = k) (hR : fr + 1 ≤ R.frames ∧ 8 + (mL + 11) + lo ≤ R.locals ∧ kc + mc ≤ R.cells ∧ ks + ms ≤ R.slots) (hst : (rest.map fun v => v.category).sum ≤ 8) (hstk : st0 = As.reverse ++ .ref a :: rest) (hdg : decode cc pc = .ok (.invokespecial ix, 3)) (kk : ∀ (v : Option Value) (w : va_W), post v w → J p l e R s m args below meth c G A n Q (kc + mc) (ks + ms) (pc + 3) lv (v.toList ++ rest) (wr ++ w)) : J p l e R s m args below meth c G A n Q kc ks pc lv st0 ws := by
  obtain ⟨hx, hb, hml, hown, hts, hK, hE, hA, hlk, hr, hstt⟩ := F
  intro H locs ls hl hP hD hS
  have hPc := hP.sub isC (pick_all hCw)
  have hDc := (hD.sub isC hnC hCw).weaken (B := fun _ => True) (fun _ _ _ _ => trivial)
  have hFc := va_free hD hS hA isC hCw
  refine va_callQ (A1 := va_A wc H.size) (a := (Value.ref a :: As).toArray) (va_runI (As := As) (rest := rest) ⟨hx, hb, hml, hown, hts⟩ (hC H.size) ⟨callB_of k hts (goodT cd.1) rfl rfl rfl (hts _ cd.2.1) (hts _ hw) cd.2.2.1 ⟨hR.1, hR.2.1⟩, hyn, hts _ him⟩ ⟨CP.blind G _ wc H.size, fun U hU hW => ⟨rfl, by rw [hU], by rw [hU]; exact hPc, va_K.moved hW.alike hK, hDc, by rw [hU]; exact hE.go hW hS hFc⟩⟩ rfl hlen hl.1 hstk (lv_room hst) hdg ⟨hR.2.2.1, hR.2.2.2⟩) hS hFc (fun v w H1 locs1 hp hP1 hD1 hk1 hS1 => ?_)
  obtain ⟨hP2, hD2⟩ := va_join hP hD isC isR hCw hRw hnR hdis hk1 hFc hP1 hD1
  exact kk v w hp H1 locs1 ls hl hP2 hD2 hS1
theorem J_callIN (F : Fx p l s m args meth c G A own cc n ret0) {y : MethodName} {b : ByteArray} {mL ix k fr lo mc ms : Nat} {ret : Option FieldType} {As : List Value} {post : Option Value → va_W → Prop} {st0 : List Value} {a : Nat} (hC : Con l G y b mL none fr lo mc ms (.ref a :: As) wc post) (cd : Cd y b mL none k) (him : Cond.instanceMethod y ∈ TBL) (hyn : y.name = "<init>") {host : String} (hw : (own, ix, y, host) ∈ nestT) (isC isR : List Nat) (hCw : isC.map (fun i => ws[i]?) = wc.map some) (hRw : isR.map (fun i => ws[i]?) = wr.map some) (hnC : va_nd isC = true) (hnR : va_nd isR = true) (hdis : ∀ i ∈ isR, i ∉ isC) (hlen : As.length = k) (hR : fr + 1 ≤ R.frames ∧ 8 + (mL + 11) + lo ≤ R.locals ∧ kc + mc ≤ R.cells ∧ ks + ms ≤ R.slots) (hst : (rest.map fun v => v.category).sum ≤ 8) (hstk : st0 = As.reverse ++ .ref a :: rest) (hdg : decode cc pc = .ok (.invokespecial ix, 3)) (kk : ∀ (v : Option Value) (w : va_W), post v w → J p l e R s m args below meth c G A n Q (kc + mc) (ks + ms) (pc + 3) lv (v.toList ++ rest) (wr ++ w)) : J p l e R s m args below meth c G A n Q kc ks pc lv st0 ws := by
  obtain ⟨hx, hb, hml, hown, hts, hK, hE, hA, hlk, hr, hstt⟩ := F
  intro H locs ls hl hP hD hS
  have hPc := hP.sub isC (pick_all hCw)
  have hDc := (hD.sub isC hnC hCw).weaken (B := fun _ => True) (fun _ _ _ _ => trivial)
  have hFc := va_free hD hS hA isC hCw
  refine va_callQ (A1 := va_A wc H.size) (a := (Value.ref a :: As).toArray) (va_runIN (As := As) (rest := rest) ⟨hx, hb, hml, hown, hts⟩ (hC H.size) ⟨va_cnB k hts (goodT cd.1) rfl rfl rfl (hE.2.2.2.1 _ hw) (hts _ cd.2.1) cd.2.2.1 ⟨hR.1, hR.2.1⟩, hyn, hts _ him⟩ ⟨CP.blind G _ wc H.size, fun U hU hW => ⟨rfl, by rw [hU], by rw [hU]; exact hPc, va_K.moved hW.alike hK, hDc, by rw [hU]; exact hE.go hW hS hFc⟩⟩ rfl hlen hl.1 hstk (lv_room hst) hdg ⟨hR.2.2.1, hR.2.2.2⟩) hS hFc (fun v w H1 locs1 hp hP1 hD1 hk1 hS1 => ?_)
  obtain ⟨hP2, hD2⟩ := va_join hP hD isC isR hCw hRw hnR hdis hk1 hFc hP1 hD1
  exact kk v w hp H1 locs1 ls hl hP2 hD2 hS1
def Thr (own : String) (ic : Nat) (E : String) (names : List String) : Prop := Bundle.fit E = true ∧ (∀ z ∈ names, Bundle.fit z = true) ∧ (∀ z ∈ (vx_atS own ic E names).filter goodWord, z ∈ TBL) ∧ (∀ z ∈ (vx_atS own ic E names).filter (fun z => !goodWord z), z ∈ Cond.castable E E :: declT.map Cond.declares) ∧ E ∈ castT ∧ (∀ z ∈ vx_atS own ic E names, vx_ot z = true)
theorem J_throw (F : Fx p l s m args meth c G A own cc n ret0) {post : Option Value → va_W → Prop} {px : String → va_W → Prop} {mc ms ik is ic : Nat} {E text : String} {names : List String} (htab : ∀ x ∈ c.exceptionTable.toList, False) (th : Thr own ic E names) (hk : Cond.classLink own ik E ∈ TBL) (hini : Cond.initialized E ∈ TBL) (hstr : (own, is, text) ∈ strT)
    (d0 : decode cc pc = .ok (.new ik, 3)) (d3 : decode cc (pc + 3) = .ok (.dup, 1)) (d4 : decode cc (pc + 4) = .ok (.ldc is, 2)) (d6 : decode cc (pc + 6) = .ok (.invokespecial ic, 3)) (d9 : decode cc (pc + 9) = .ok (.athrow, 1))
    (hR : names.length + 3 < R.frames ∧ (st.map fun v => v.category).sum + (13 * (names.length + 1) + 43) ≤ R.locals ∧ kc + 1 ≤ R.cells ∧ ks + 6 ≤ R.slots) (hc : kc + 1 ≤ mc) (hs : ks + 6 ≤ ms) (hp : px E ws) : J p l e R s m args below meth c G A n (JX below G A post px args s mc ms) kc ks pc lv st ws := by
  obtain ⟨hx, hb, hml, hown, hts, hK, hE, hA, hlk, hr, hstt⟩ := F
  intro H locs ls hl hP hD hS
  obtain ⟨hU, hN, hS3, -, hC5, -, -, hD8⟩ := hE
  obtain ⟨sa, hsa⟩ := hS3 _ hstr
  obtain ⟨t1, t2, t3, t4, t5, t6⟩ := th
  have hat : ∀ z ∈ vx_atS own ic E names, z.before args s = true := vx_hat (fun z hz => hts z (t3 z hz)) t4 (fun z hz => by
    rcases List.mem_cons.mp hz with rfl | hz
    · exact va_Nw.use rfl (hC5 E t5)
    · obtain ⟨x, hx9, rfl⟩ := List.mem_map.mp hz
      exact va_Nw.use rfl (hD8 x hx9))
  have hgood : ∀ z ∈ Cond.classLink own ik E :: Cond.initialized E :: vx_atS own ic E names, vx_ot z = true := by
    intro z hz
    rcases List.mem_cons.mp hz with rfl | hz
    · rfl
    rcases List.mem_cons.mp hz with rfl | hz
    · rfl
    exact t6 z hz
  exact vx_throwS hx hb hstt hown t1 t2 (hts _ hk) (hts _ hini) hsa hat hgood hU hN hS (by rw [hml]; exact hl.1) d0 d3 d4 d6 d9 (fun x hx => (htab x hx).elim) hR.1 hR.2.1 hR.2.2.1 hR.2.2.2 hlk
    (fun t hal hsz hk9 => ⟨⟨ws, hp, hP.kept (fun k q hq => hk9 q.1 (hP k q hq).lt), hD⟩, Nat.le_trans hS.1 hsz, fun q h1 h2 => (hk9 q (Nat.lt_of_lt_of_le h1 hS.1)).trans (hS.2.1 q h1 h2)⟩) hS.2.2 hc hs
/-- an exception of a callee leaves the method -/
theorem Jx_out (F : Fx p l s m args meth c G A own cc n ret0) {post : Option Value → va_W → Prop} {px : String → va_W → Prop} {mc ms : Nat} {E : String} (htab : ∀ x ∈ c.exceptionTable.toList, False) (hc : kc ≤ mc) (hs : ks ≤ ms) (hp : px E ws) : Jx p l e R s m args below meth c G A n (JX below G A post px args s mc ms) kc ks E pc lv st ws := by
  obtain ⟨hx, hb, hml, hown, hts, hK, hE, hA, hlk, hr, hstt⟩ := F
  intro H locs ls ce q hl hP hD hS hce hcv hcl
  exact vx_out (fun x hx => (htab x hx).elim) hlk hce hcv hcl (fun t ht hal => ⟨⟨ws, hp, by rw [ht]; exact hP, hD⟩, hS.F ht⟩) hS.2.2 hc hs
end JC
theorem th_eIA : Thr "SeasonalAdjuster" 114 "java/lang/IllegalArgumentException" ["java/lang/RuntimeException", "java/lang/Exception"] := ⟨by decide +kernel, by decide +kernel, by decide +kernel, by decide +kernel, by decide +kernel, by decide +kernel⟩
theorem th_eIS : Thr "SeasonalAdjuster" 55 "java/lang/IllegalStateException" ["java/lang/RuntimeException", "java/lang/Exception"] := ⟨by decide +kernel, by decide +kernel, by decide +kernel, by decide +kernel, by decide +kernel, by decide +kernel⟩
theorem th_eIO : Thr "SeasonalAdjuster" 157 "java/lang/IndexOutOfBoundsException" ["java/lang/RuntimeException", "java/lang/Exception"] := ⟨by decide +kernel, by decide +kernel, by decide +kernel, by decide +kernel, by decide +kernel, by decide +kernel⟩
