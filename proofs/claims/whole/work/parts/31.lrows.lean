/-! methods that catch; the script; the switch -/
def CdW (y : MethodName) (b : ByteArray) (mL : Nat) (ret : Option FieldType) (n : Nat) (hh : List (Nat × Nat × Nat × Nat)) : Prop := Cond.codeWith y b mL ret hh ∈ TBL ∧ Cond.initialized y.cls ∈ TBL ∧ (y.cls ≠ "java/lang/invoke/MethodHandle" ∧ y.cls ≠ "java/lang/invoke/VarHandle" ∧ (parseMethodDescriptor y.desc).map (fun d => d.parameters.length) = some n) ∧ plainName y.cls = true
def ConW (l : Launch) (G : Gt) (y : MethodName) (b : ByteArray) (mL : Nat) (ret : Option FieldType) (hh : List (Nat × Nat × Nat × Nat)) (fr lo mc ms : Nat) (As : List Value) (wc : va_W) (post : Option Value → va_W → Prop) : Prop :=
  ∀ sz : Nat, Met l y (.codeWith y b mL ret hh :: TBL) (cRm fr lo mc ms) (CP G As wc sz) (CQ G (va_A wc sz) post) mc ms (va_A wc sz)
theorem ConW.of {l : Launch} {G : Gt} {y : MethodName} {b : ByteArray} {mL : Nat} {ret : Option FieldType} {hh : List (Nat × Nat × Nat × Nat)} {fr lo mc ms n : Nat} {As : List Value} {wc : va_W} {post : Option Value → va_W → Prop} (hl : l.stackTraces = false) (hc : CdW y b mL ret n hh) (hn : (lg_sl As).length ≤ mL)
    (body : ∀ (p : Program) (e : Env) (s : State) (m : MethodId) (args : Array Value) (below : List Frame) (meth : Method) (c : Code) (A : Nat → Prop), Fx p l s m args meth c G A y.cls b mL ret → c.exceptionTable.toList = tableOf hh → J p l e (cRm fr lo mc ms) s m args below meth c G A mL (JQ below G A post args s mc ms) 0 0 0 (lv_args 0 As) [] wc) : ConW l G y b mL ret hh fr lo mc ms As wc post := by
  intro sz
  refine va_MetW (cc := b) (maxL := mL) (ret := ret) (hh := hh) hc.2.2.2 rfl ?_
  intro p e s m args below meth c s₁ B hml hv
  obtain ⟨rfl, hsz, hP, hK, hD0, hE⟩ := hv
  have hts := atoms_spec (ws := Cond.codeWith y b mL ret hh :: TBL) B.pre
  have htab := vx_table (x := y) B (hts _ List.mem_cons_self)
  subst hsz
  have hA : ∀ q : Nat, s.heap.size ≤ q → va_A wc s.heap.size q := fun q h => Or.inr h
  have K := body p e s m As.toArray below meth c (va_A wc s.heap.size) ⟨B.exec, B.bytes, hml, findClass_of_methodNamed B.named, fun w h => hts w (List.mem_cons_of_mem _ h), hK, hE, hA, B.notSynchronized, B.returns, hl⟩ htab
  have hl' := lv_entry As (n := mL) hn
  rw [lg_entry_eq]
  exact K s.heap [] _ hl' hP hD0.self va_S.rf
theorem goodTW {y : MethodName} {b : ByteArray} {mL : Nat} {ret : Option FieldType} {hh : List (Nat × Nat × Nat × Nat)} {own : String} {ix : Nat} (h : Cond.codeWith y b mL ret hh ∈ TBL) (h1 : Cond.methodLink own ix y ∈ TBL) (h2 : Cond.static y ∈ TBL) (h3 : Cond.initialized y.cls ∈ TBL) : GoodIn TBL (va_wsS own ix y (.codeWith y b mL ret hh :: TBL)) := by
  intro w hw
  unfold va_wsS at hw
  rcases List.mem_append.mp hw with hw | hw
  · rcases List.mem_cons.mp hw with rfl | hw
    · exact ⟨h1, tb_good h1⟩
    rcases List.mem_cons.mp hw with rfl | hw
    · exact ⟨h2, tb_good h2⟩
    rcases List.mem_cons.mp hw with rfl | hw
    · exact ⟨h3, tb_good h3⟩
    · cases hw
  · rcases List.mem_cons.mp hw with rfl | hw
    · exact ⟨h, tb_good h⟩
    · exact ⟨hw, tb_good hw⟩
section JL
variable {p : Program} {l : Launch} {e : Env} {R : Room} {s : State} {m : MethodId} {args : Array Value} {below : List Frame} {meth : Method} {c : Code} {G : Gt} {A : Nat → Prop} {n : Nat} {Q : State → Prop} {kc ks : Nat} {own : String} {cc : ByteArray} {ret0 : Option FieldType}
variable {pc : Nat} {lv : List (Nat × Value)} {st rest : List Value} {ws wc wr : va_W}
theorem J_callSW (F : Fx p l s m args meth c G A own cc n ret0) {y : MethodName} {b : ByteArray} {mL ix k fr lo mc ms : Nat} {ret : Option FieldType} {hh : List (Nat × Nat × Nat × Nat)} {As : List Value} {post : Option Value → va_W → Prop} {st0 : List Value} (hC : ConW l G y b mL ret hh fr lo mc ms As wc post) (cd : CdW y b mL ret k hh) (hsta : Cond.static y ∈ TBL) (hw : Cond.methodLink own ix y ∈ TBL) (isC isR : List Nat) (hCw : isC.map (fun i => ws[i]?) = wc.map some) (hRw : isR.map (fun i => ws[i]?) = wr.map some) (hnC : va_nd isC = true) (hnR : va_nd isR = true) (hdis : ∀ i ∈ isR, i ∉ isC) (hlen : As.length = k) (hR : fr + 1 ≤ R.frames ∧ 8 + (mL + 11) + lo ≤ R.locals ∧ kc + mc ≤ R.cells ∧ ks + ms ≤ R.slots) (hst : (rest.map fun v => v.category).sum ≤ 8) (hstk : st0 = As.reverse ++ rest) (hdg : decode cc pc = .ok (.invokestatic ix, 3)) (kk : ∀ (v : Option Value) (w : va_W), post v w → J p l e R s m args below meth c G A n Q (kc + mc) (ks + ms) (pc + 3) lv (v.toList ++ rest) (wr ++ w)) : J p l e R s m args below meth c G A n Q kc ks pc lv st0 ws := by
  obtain ⟨hx, hb, hml, hown, hts, hK, hE, hA, hlk, hr, hstt⟩ := F
  intro H locs ls hl hP hD hS
  have hPc := hP.sub isC (pick_all hCw)
  have hDc := (hD.sub isC hnC hCw).weaken (B := fun _ => True) (fun _ _ _ _ => trivial)
  have hFc := va_free hD hS hA isC hCw
  refine va_callQ (A1 := va_A wc H.size) (a := As.toArray) (vx_runSW (hh := hh) (As := As) (rest := rest) ⟨hx, hb, hml, hown, hts⟩ (hC H.size) (vx_cwSW k hts (goodTW cd.1 hw hsta cd.2.1) rfl rfl rfl cd.2.2.1 ⟨hR.1, hR.2.1⟩) ⟨CP.blind G _ wc H.size, fun U hU hW => ⟨rfl, by rw [hU], by rw [hU]; exact hPc, va_K.moved hW.alike hK, hDc, by rw [hU]; exact hE.go hW hS hFc⟩⟩ rfl hlen hl.1 hstk (lv_room hst) hdg ⟨hR.2.2.1, hR.2.2.2⟩) hS hFc (fun v w H1 locs1 hp hP1 hD1 hk1 hS1 => ?_)
  obtain ⟨hP2, hD2⟩ := va_join hP hD isC isR hCw hRw hnR hdis hk1 hFc hP1 hD1
  exact kk v w hp H1 locs1 ls hl hP2 hD2 hS1
/-- an exception of a callee is caught here -/
theorem Jx_catch (F : Fx p l s m args meth c G A own cc n ret0) {E : String} {hh : List (Nat × Nat × Nat × Nat)} (htab : c.exceptionTable.toList = tableOf hh) (pre : List ExceptionTableEntry) (x : ExceptionTableEntry) (suf : List ExceptionTableEntry) (hsplit : tableOf hh = pre ++ x :: suf)
    (hpass : ∀ z ∈ pre, z.catchType ≠ 0 ∧ ∃ nm : String, Cond.classLink own z.catchType nm ∈ TBL ∧ (E, nm) ∈ ncT) (hx : covers x pc = true) (h0 : x.catchType ≠ 0) (hlink : Cond.classLink own x.catchType E ∈ TBL) (hE9 : E ∈ castT)
    (kk : ∀ q : Nat, J p l e R s m args below meth c G A n Q kc ks x.handlerPc lv [.ref q] ws) : Jx p l e R s m args below meth c G A n Q kc ks E pc lv st ws := by
  obtain ⟨hx9, hb, hml, hown, hts, hK, hE, hA, hlk, hr, hstt⟩ := F
  intro H locs ls ce q hl hP hD hS hce hcv hcl
  refine vx_catch hown pre x suf (htab.trans hsplit) (fun z hz => Or.inr ?_) hx h0 (hts _ hlink) (va_Nw.use rfl (hE.2.2.2.2.1 E hE9)) hce hcv hcl (kk q H locs ls hl hP hD hS)
  obtain ⟨h1, nm, h2, h3⟩ := hpass z hz
  exact ⟨h1, nm, hts _ h2, hE.2.2.2.2.2.1 _ h3⟩
/-- the script's i-th int -/
theorem J_sld (F : Fx p l s m args meth c G A own cc n ret0) {b L i : Nat} {xs : Nat → Int32} (hX : va_X b L xs s s.heap) (hbl : b < s.heap.size) (hbA : ¬ A b) (hi : i < L) (hL : L < 2 ^ 31) (hdg : decode cc pc = .ok (.iaload, 1)) (kk : J p l e R s m args below meth c G A n Q kc ks (pc + 1) lv (.int (xs i) :: st) ws) : J p l e R s m args below meth c G A n Q kc ks pc lv (.int (nI i) :: .ref b :: st) ws := by
  obtain ⟨hx, hb, hml, hown, hts, hK, hE, hA, hlk, hr, hst⟩ := F
  intro H locs ls hl hP hD hS
  refine va_sld hx hb hX hbl hbA hS (vp_in_nI hi hL) hdg ?_
  rw [nI_clamp (Nat.lt_trans hi hL)]
  exact kk H locs ls hl hP hD hS
theorem J_slen (F : Fx p l s m args meth c G A own cc n ret0) {b L : Nat} {xs : Nat → Int32} (hX : va_X b L xs s s.heap) (hbl : b < s.heap.size) (hbA : ¬ A b) (hdg : decode cc pc = .ok (.arraylength, 1)) (kk : J p l e R s m args below meth c G A n Q kc ks (pc + 1) lv (.int (nI L) :: st) ws) : J p l e R s m args below meth c G A n Q kc ks pc lv (.ref b :: st) ws := by
  obtain ⟨hx, hb, hml, hown, hts, hK, hE, hA, hlk, hr, hst⟩ := F
  intro H locs ls hl hP hD hS
  refine va_slen hx hb hX hbl hbA hS hdg ?_
  exact kk H locs ls hl hP hD hS
theorem J_tin (F : Fx p l s m args meth c G A own cc n ret0) {dflt lo hi : Int} {offs : Array Int} {len k : Nat} {off : Int} (tgt : Nat) (hdg : decode cc pc = .ok (.tableswitch dflt lo hi offs, len)) (hk : k < 2 ^ 31) (h1 : ¬ (k : Int) < lo) (h2 : ¬ hi < (k : Int)) (ho : offs[((k : Int) - lo).toNat]? = some off) (ht : (pc : Int) + off = (tgt : Int)) (kk : J p l e R s m args below meth c G A n Q kc ks tgt lv st ws) : J p l e R s m args below meth c G A n Q kc ks pc lv (.int (nI k) :: st) ws := by
  obtain ⟨hx, hb, hml, hown, hts, hK, hE, hA, hlk, hr, hst⟩ := F
  intro H locs ls hl hP hD hS
  exact lv_tableIn hx hb hdg (by rw [nI_toInt hk]; exact h1) (by rw [nI_toInt hk]; exact h2) (by rw [nI_toInt hk]; exact ho) ht (kk H locs ls hl hP hD hS)
theorem J_tout (F : Fx p l s m args meth c G A own cc n ret0) {dflt lo hi : Int} {offs : Array Int} {len k : Nat} (tgt : Nat) (hdg : decode cc pc = .ok (.tableswitch dflt lo hi offs, len)) (hk : k < 2 ^ 31) (h : (k : Int) < lo ∨ hi < (k : Int)) (ht : (pc : Int) + dflt = (tgt : Int)) (kk : J p l e R s m args below meth c G A n Q kc ks tgt lv st ws) : J p l e R s m args below meth c G A n Q kc ks pc lv (.int (nI k) :: st) ws := by
  obtain ⟨hx, hb, hml, hown, hts, hK, hE, hA, hlk, hr, hst⟩ := F
  intro H locs ls hl hP hD hS
  exact lv_tableOut hx hb hdg (by rw [nI_toInt hk]; exact h) ht (kk H locs ls hl hP hD hS)
end JL

theorem cw_L_adjusted : CdW yL_adjusted cL_adjusted 4 (some .int) 3 [(0, 8, 11, 18), (0, 8, 14, 34)] := ⟨tw_3_112, tw_1_0, by decide +kernel, by decide +kernel⟩
theorem cw_L_append : CdW yL_append cL_append 4 (some .int) 3 [(0, 9, 12, 13), (0, 9, 15, 18)] := ⟨tw_2_183, tw_1_0, by decide +kernel, by decide +kernel⟩
theorem cw_L_appendMissing : CdW yL_appendMissing cL_appendMissing 3 (some .int) 2 [(0, 8, 11, 18)] := ⟨tw_2_205, tw_1_0, by decide +kernel, by decide +kernel⟩
theorem cw_L_daysEffect : CdW yL_daysEffect cL_daysEffect 3 (some .int) 2 [(0, 7, 10, 18)] := ⟨tw_3_168, tw_1_0, by decide +kernel, by decide +kernel⟩
theorem cw_L_deviation : CdW yL_deviation cL_deviation 4 (some .int) 3 [(0, 8, 11, 18), (0, 8, 14, 34)] := ⟨tw_3_84, tw_1_0, by decide +kernel, by decide +kernel⟩
theorem cw_L_factor : CdW yL_factor cL_factor 4 (some .int) 3 [(0, 8, 11, 13), (0, 8, 14, 18)] := ⟨tw_3_105, tw_1_0, by decide +kernel, by decide +kernel⟩
theorem cw_L_fill : CdW yL_fill cL_fill 3 (some .int) 2 [(0, 8, 11, 18)] := ⟨tw_3_28, tw_1_0, by decide +kernel, by decide +kernel⟩
theorem cw_L_firstTrend : CdW yL_firstTrend cL_firstTrend 4 (some .int) 3 [(0, 8, 11, 18), (0, 8, 14, 34)] := ⟨tw_3_72, tw_1_0, by decide +kernel, by decide +kernel⟩
theorem cw_L_forecast : CdW yL_forecast cL_forecast 4 (some .int) 3 [(0, 8, 11, 13), (0, 8, 14, 18)] := ⟨tw_3_155, tw_1_0, by decide +kernel, by decide +kernel⟩
theorem cw_L_irregular : CdW yL_irregular cL_irregular 4 (some .int) 3 [(0, 8, 11, 18), (0, 8, 14, 34)] := ⟨tw_3_126, tw_1_0, by decide +kernel, by decide +kernel⟩
theorem cw_L_missing : CdW yL_missing cL_missing 4 (some .int) 3 [(0, 9, 12, 13)] := ⟨tw_3_64, tw_1_0, by decide +kernel, by decide +kernel⟩
theorem cw_L_outlier : CdW yL_outlier cL_outlier 4 (some .int) 3 [(0, 9, 12, 18), (0, 9, 15, 34)] := ⟨tw_3_140, tw_1_0, by decide +kernel, by decide +kernel⟩
theorem cw_L_outlierCount : CdW yL_outlierCount cL_outlierCount 3 (some .int) 2 [(0, 8, 11, 18)] := ⟨tw_3_133, tw_1_0, by decide +kernel, by decide +kernel⟩
theorem cw_L_removeDays : CdW yL_removeDays cL_removeDays 3 (some .int) 2 [(0, 8, 11, 18)] := ⟨tw_3_186, tw_1_0, by decide +kernel, by decide +kernel⟩
theorem cw_L_removeLast : CdW yL_removeLast cL_removeLast 3 (some .int) 2 [(0, 8, 11, 18)] := ⟨tw_3_20, tw_1_0, by decide +kernel, by decide +kernel⟩
theorem cw_L_seasonOfRank : CdW yL_seasonOfRank cL_seasonOfRank 4 (some .int) 3 [(0, 9, 12, 13), (0, 9, 15, 18)] := ⟨tw_3_148, tw_1_0, by decide +kernel, by decide +kernel⟩
theorem cw_L_set : CdW yL_set cL_set 5 (some .int) 4 [(0, 10, 13, 34), (0, 10, 17, 13)] := ⟨tw_2_212, tw_1_0, by decide +kernel, by decide +kernel⟩
theorem cw_L_setDays : CdW yL_setDays cL_setDays 5 (some .int) 4 [(0, 10, 13, 34), (0, 10, 17, 13)] := ⟨tw_3_13, tw_1_0, by decide +kernel, by decide +kernel⟩
theorem cw_L_setMissing : CdW yL_setMissing cL_setMissing 4 (some .int) 3 [(0, 9, 12, 34), (0, 9, 15, 18)] := ⟨tw_3_1, tw_1_0, by decide +kernel, by decide +kernel⟩
theorem cw_L_setMode : CdW yL_setMode cL_setMode 4 (some .int) 3 [(0, 9, 12, 13), (0, 9, 15, 18)] := ⟨tw_2_163, tw_1_0, by decide +kernel, by decide +kernel⟩
theorem cw_L_setPeriod : CdW yL_setPeriod cL_setPeriod 4 (some .int) 3 [(0, 9, 12, 13)] := ⟨tw_2_120, tw_1_0, by decide +kernel, by decide +kernel⟩
theorem cw_L_setRounds : CdW yL_setRounds cL_setRounds 4 (some .int) 3 [(0, 9, 12, 13)] := ⟨tw_2_176, tw_1_0, by decide +kernel, by decide +kernel⟩
theorem cw_L_spread : CdW yL_spread cL_spread 3 (some .int) 2 [(0, 7, 10, 18)] := ⟨tw_3_98, tw_1_0, by decide +kernel, by decide +kernel⟩
theorem cw_L_trend : CdW yL_trend cL_trend 4 (some .int) 3 [(0, 8, 11, 18), (0, 8, 14, 34)] := ⟨tw_3_119, tw_1_0, by decide +kernel, by decide +kernel⟩
theorem cw_L_undo : CdW yL_undo cL_undo 3 (some .int) 2 [(0, 8, 11, 18)] := ⟨tw_3_207, tw_1_0, by decide +kernel, by decide +kernel⟩
theorem cw_L_value : CdW yL_value cL_value 4 (some .int) 3 [(0, 9, 12, 34), (0, 9, 15, 18)] := ⟨tw_3_57, tw_1_0, by decide +kernel, by decide +kernel⟩
theorem cw_L_weight : CdW yL_weight cL_weight 4 (some .int) 3 [(0, 9, 12, 18), (0, 9, 15, 34)] := ⟨tw_3_91, tw_1_0, by decide +kernel, by decide +kernel⟩
