/-! J: W over every heap that holds the world ws; one row an instruction; contracts Con (returns) and Cox (returns or throws) -/
abbrev Gt : Type := (Nat → ClassId) × (Nat → Nat → Nat) × ClassId × ClassId × ClassId × ClassId
abbrev gD (G : Gt) : va_G := (G.1, G.2.1)
abbrev gI (G : Gt) : ClassId := G.2.2.1
abbrev gJ (G : Gt) : ClassId := G.2.2.2.1
abbrev gZ (G : Gt) : ClassId := G.2.2.2.2.1
abbrev gS (G : Gt) : ClassId := G.2.2.2.2.2
def gT (G : Gt) : List (ClassId × FieldType) := [(gI G, .int), (gJ G, .long), (gZ G, .boolean), (gS G, .object "SeasonalAdjuster$Series")]
abbrev aI (G : Gt) (q N : Nat) (f : Nat → Int32) : Nat × va_E := (q, .inl (gI G, N, .inl f))
abbrev aZ (G : Gt) (q N : Nat) (f : Nat → Int32) : Nat × va_E := (q, .inl (gZ G, N, .inl f))
abbrev aJ (G : Gt) (q N : Nat) (f : Nat → Int64) : Nat × va_E := (q, .inl (gJ G, N, .inr (.inl f)))
abbrev aS (G : Gt) (q N : Nat) (f : Nat → Option Nat) : Nat × va_E := (q, .inl (gS G, N, .inr (.inr (.inr (.inr f)))))
abbrev oB (k q : Nat) (fs : List Value) : Nat × va_E := (q, .inr (k, fs))
def strT : List (String × Nat × String) := [("SeasonalAdjuster", 220, "the series cannot be decomposed"), ("SeasonalAdjuster", 239, "the argument is out of range"), ("SeasonalAdjuster", 53, "some value is below 1"), ("SeasonalAdjuster", 237, "the series is full"), ("SeasonalAdjuster", 225, "there is no such entry"), ("SeasonalAdjuster", 235, "the entry is missing"), ("SeasonalAdjuster", 100, "there are no entries"), ("SeasonalAdjuster", 105, "a season has no value to fill with"), ("SeasonalAdjuster", 112, "the index is negative"), ("SeasonalAdjuster", 233, "it is not defined for this entry"), ("SeasonalAdjuster", 155, "there is no such outlier"), ("SeasonalAdjuster", 180, "the mode is not additive"), ("SeasonalAdjuster", 190, "all entries have the same number of days"), ("SeasonalAdjuster", 204, "the undo stack is empty")]
def nestT : List (String × Nat × MethodName × String) := [("SeasonalAdjuster", 9, yX2_init, "SeasonalAdjuster"), ("SeasonalAdjuster$Decomposition", 112, yX3_quotient, "SeasonalAdjuster"), ("SeasonalAdjuster$History", 21, yX2_init, "SeasonalAdjuster"), ("SeasonalAdjuster$Series", 58, yX3_quotient, "SeasonalAdjuster")]
def eIA : String := "java/lang/IllegalArgumentException"
def eIS : String := "java/lang/IllegalStateException"
def eIO : String := "java/lang/IndexOutOfBoundsException"
def castT : List String := ["java/lang/IllegalArgumentException", "java/lang/IllegalStateException", "java/lang/IndexOutOfBoundsException"]
def ncT : List (String × String) := [("java/lang/IllegalArgumentException", "java/lang/IllegalStateException"), ("java/lang/IllegalArgumentException", "java/lang/IndexOutOfBoundsException"), ("java/lang/IllegalStateException", "java/lang/IllegalArgumentException"), ("java/lang/IllegalStateException", "java/lang/IndexOutOfBoundsException"), ("java/lang/IndexOutOfBoundsException", "java/lang/IllegalArgumentException"), ("java/lang/IndexOutOfBoundsException", "java/lang/IllegalStateException")]
def declT : List MethodName := [⟨"java/lang/RuntimeException", "<init>", "()V"⟩, ⟨"java/lang/RuntimeException", "<init>", "(Ljava/lang/String;)V"⟩, ⟨"java/lang/Exception", "<init>", "()V"⟩, ⟨"java/lang/Exception", "<init>", "(Ljava/lang/String;)V"⟩, ⟨"java/lang/Throwable", "<init>", "()V"⟩, ⟨"java/lang/Throwable", "<init>", "(Ljava/lang/String;)V"⟩]
/-- what is known of the machine's tables and statics beside the words of TBL -/
def Ex (A : Nat → Prop) (U : State) (H : Heap) : Prop :=
  vx_Zq Bundle.tN "UNASSIGNED_STACK" Bundle.steD A U H ∧ vx_Zq Bundle.tN "SUPPRESSED_SENTINEL" Bundle.listD A U H ∧ (∀ q ∈ strT, ∃ a, vk_R q.1 q.2.1 q.2.2 a U) ∧ (∀ q ∈ nestT, va_Nw (.methodLinkNest q.1 q.2.1 q.2.2.1 q.2.2.2) U) ∧ (∀ q ∈ castT, va_Nw (.castable q q) U) ∧ (∀ q ∈ ncT, va_Nc q.1 q.2 U) ∧ va_AO "SeasonalAdjuster$Series" U ∧ (∀ x ∈ declT, va_Nw (.declares x) U)
theorem Ex.same {A : Nat → Prop} {U U' : State} {H : Heap} (hv : U'.vm = U.vm) (h : Ex A U H) : Ex A U' H := by
  obtain ⟨h1, h2, h3, h4, h5, h6, h7, h8⟩ := h
  have ha : U.vm.Alike U'.vm := by rw [hv]; exact Vm.Alike.refl U.vm
  exact ⟨h1.moved ha, h2.moved ha, fun q hq => by obtain ⟨a, k⟩ := h3 q hq; exact ⟨a, vk_R.same hv k⟩, fun q hq => va_Nw.same rfl hv.symm (h4 q hq), fun q hq => va_Nw.same rfl hv.symm (h5 q hq), fun q hq => (h6 q hq).moved ha, h7.moved ha, fun q hq => va_Nw.same rfl hv.symm (h8 q hq)⟩
theorem Ex.go {A B : Nat → Prop} {s U : State} {H0 H : Heap} {locs : List Loc} (h : Ex A s H0) (hW : s.WarmedH U.vm) (hS : va_S A H0 H locs) (hB : ∀ q, B q → A q) : Ex B U H := by
  obtain ⟨h1, h2, h3, h4, h5, h6, h7, h8⟩ := h
  exact ⟨((h1.kept hS.2.1).narrow hB).moved hW.alike, ((h2.kept hS.2.1).narrow hB).moved hW.alike, fun q hq => by obtain ⟨a, k⟩ := h3 q hq; exact ⟨a, vk_R.warm hW k⟩, fun q hq => va_Nw.warmM hW (h4 q hq), fun q hq => va_Nw.warmC hW (h5 q hq), fun q hq => (h6 q hq).moved hW.alike, h7.moved hW.alike, fun q hq => va_Nw.warmD hW (h8 q hq)⟩
/-- what holds all through a method's body -/
def Fx (p : Program) (l : Launch) (s : State) (m : MethodId) (args : Array Value) (meth : Method) (c : Code) (G : Gt) (A : Nat → Prop) (own : String) (cc : ByteArray) (n : Nat) (ret : Option FieldType) : Prop :=
  p.tables.exec = Jvm.exec ∧ c.code = cc ∧ c.maxLocals = n ∧ s.vm.findClass own = some m.cls ∧ (∀ w ∈ TBL, w.before args s = true) ∧ va_K (gD G) vwCl (gT G) s ∧ Ex A s s.heap ∧ (∀ q, s.heap.size ≤ q → A q) ∧ meth.locks = false ∧ meth.sig.returnType = ret ∧ l.stackTraces = false
def J (p : Program) (l : Launch) (e : Env) (R : Room) (s : State) (m : MethodId) (args : Array Value) (below : List Frame) (meth : Method) (c : Code) (G : Gt) (A : Nat → Prop) (n : Nat) (Q : State → Prop) (kc ks : Nat) (pc : Nat) (lv : List (Nat × Value)) (st : List Value) (ws : va_W) : Prop :=
  ∀ (H : Heap) (locs : List Loc) (ls : Array Slot), lv_has ls n lv → va_P (gD G) vwCl ws H → va_D A ws → va_S A s.heap H locs → W p l e R s m args below meth c H locs kc ks Q (F0 m pc ls st)
/-- a thrown object over the frame -/
def Jx (p : Program) (l : Launch) (e : Env) (R : Room) (s : State) (m : MethodId) (args : Array Value) (below : List Frame) (meth : Method) (c : Code) (G : Gt) (A : Nat → Prop) (n : Nat) (Q : State → Prop) (kc ks : Nat) (E : String) (pc : Nat) (lv : List (Nat × Value)) (st : List Value) (ws : va_W) : Prop :=
  ∀ (H : Heap) (locs : List Loc) (ls : Array Slot) (ce : Cell) (q : Addr), lv_has ls n lv → va_P (gD G) vwCl ws H → va_D A ws → va_S A s.heap H locs → H[q]? = some ce → ce.vm = .none → s.vm.findClass E = some ce.cls → vx_W p l e R s m args below meth c H locs kc ks Q (F0 m pc ls st) q
/-- the end of a body -/
def CQ (G : Gt) (A : Nat → Prop) (post : Option Value → va_W → Prop) : Array Value → State → Outcome → State → Prop := fun _ st oc t => (∃ (v : Option Value) (w : va_W), oc = .returned v ∧ post v w ∧ va_P (gD G) vwCl w t.heap ∧ va_D A w) ∧ va_F A st t
def CX (G : Gt) (A : Nat → Prop) (px : String → va_W → Prop) : String → State → State → Prop := fun E st t => (∃ w : va_W, px E w ∧ va_P (gD G) vwCl w t.heap ∧ va_D A w) ∧ va_F A st t
def JQ (below : List Frame) (G : Gt) (A : Nat → Prop) (post : Option Value → va_W → Prop) (args : Array Value) (s : State) (mc ms : Nat) : State → Prop := MQ below (CQ G A post) args s mc ms A
def JX (below : List Frame) (G : Gt) (A : Nat → Prop) (post : Option Value → va_W → Prop) (px : String → va_W → Prop) (args : Array Value) (s : State) (mc ms : Nat) : State → Prop := vx_MQ below (CQ G A post) (CX G A px) args s mc ms A
def CP (G : Gt) (As : List Value) (wc : va_W) (sz : Nat) : Array Value → State → Prop := va_Pc As (fun U => U.heap.size = sz ∧ va_P (gD G) vwCl wc U.heap ∧ va_K (gD G) vwCl (gT G) U ∧ va_D (fun _ => True) wc ∧ Ex (va_A wc sz) U U.heap)
theorem CP.blind (G : Gt) (As : List Value) (wc : va_W) (sz : Nat) : FrameBlind (CP G As wc sz) := by
  intro a U g mk h
  obtain ⟨h0, h1, h2, h3, h4, h5⟩ := h
  exact ⟨h0, h1, h2, va_K.moved (u := U) (U := U.calling g mk a) (Vm.Alike.refl U.vm) h3, h4, Ex.same (U' := U.calling g mk a) rfl h5⟩
abbrev cRm (fr lo mc ms : Nat) : Room := { frames := fr, cells := mc, slots := ms, locals := lo }
def Con (l : Launch) (G : Gt) (y : MethodName) (b : ByteArray) (mL : Nat) (ret : Option FieldType) (fr lo mc ms : Nat) (As : List Value) (wc : va_W) (post : Option Value → va_W → Prop) : Prop :=
  ∀ sz : Nat, Met l y (.code y b mL ret :: TBL) (cRm fr lo mc ms) (CP G As wc sz) (CQ G (va_A wc sz) post) mc ms (va_A wc sz)
def Cox (l : Launch) (G : Gt) (y : MethodName) (b : ByteArray) (mL : Nat) (ret : Option FieldType) (fr lo mc ms : Nat) (As : List Value) (wc : va_W) (post : Option Value → va_W → Prop) (px : String → va_W → Prop) : Prop :=
  ∀ sz : Nat, vx_Met l y (.code y b mL ret :: TBL) (cRm fr lo mc ms) (CP G As wc sz) (CQ G (va_A wc sz) post) (CX G (va_A wc sz) px) mc ms (va_A wc sz)
theorem goodT {y : MethodName} {b : ByteArray} {mL : Nat} {ret : Option FieldType} (h : Cond.code y b mL ret ∈ TBL) : GoodIn TBL (.code y b mL ret :: TBL) := by
  intro w hw
  rcases List.mem_cons.mp hw with rfl | hw
  · exact ⟨h, tb_good h⟩
  · exact ⟨hw, tb_good hw⟩
/-- a body's start -/
theorem Con.of {l : Launch} {G : Gt} {y : MethodName} {b : ByteArray} {mL : Nat} {ret : Option FieldType} {fr lo mc ms n : Nat} {As : List Value} {wc : va_W} {post : Option Value → va_W → Prop} (hl : l.stackTraces = false) (hc : Cd y b mL ret n) (hn : (lg_sl As).length ≤ mL)
    (body : ∀ (p : Program) (e : Env) (s : State) (m : MethodId) (args : Array Value) (below : List Frame) (meth : Method) (c : Code) (A : Nat → Prop), Fx p l s m args meth c G A y.cls b mL ret → meth.name = y.name → J p l e (cRm fr lo mc ms) s m args below meth c G A mL (JQ below G A post args s mc ms) 0 0 0 (lv_args 0 As) [] wc) : Con l G y b mL ret fr lo mc ms As wc post := by
  intro sz
  refine Met.ofW (cc := b) (maxL := mL) (ret := ret) hc.2.2.2 rfl ?_
  intro p e s m args below meth c s₁ B hml hv
  obtain ⟨rfl, hsz, hP, hK, hD0, hE⟩ := hv
  have hts := atoms_spec (ws := Cond.code y b mL ret :: TBL) B.pre
  subst hsz
  have hA : ∀ q : Nat, s.heap.size ≤ q → va_A wc s.heap.size q := fun q h => Or.inr h
  have K := body p e s m As.toArray below meth c (va_A wc s.heap.size) ⟨B.exec, B.bytes, hml, findClass_of_methodNamed B.named, fun w h => hts w (List.mem_cons_of_mem _ h), hK, hE, hA, B.notSynchronized, B.returns, hl⟩ (name_of_methodNamed B.named B.method).1
  have hl' := lv_entry As (n := mL) hn
  rw [lg_entry_eq]
  exact K s.heap [] _ hl' hP hD0.self va_S.rf
theorem Cox.of {l : Launch} {G : Gt} {y : MethodName} {b : ByteArray} {mL : Nat} {ret : Option FieldType} {fr lo mc ms n : Nat} {As : List Value} {wc : va_W} {post : Option Value → va_W → Prop} {px : String → va_W → Prop} (hl : l.stackTraces = false) (hc : Cd y b mL ret n) (hn : (lg_sl As).length ≤ mL)
    (body : ∀ (p : Program) (e : Env) (s : State) (m : MethodId) (args : Array Value) (below : List Frame) (meth : Method) (c : Code) (A : Nat → Prop), Fx p l s m args meth c G A y.cls b mL ret → (∀ x ∈ c.exceptionTable.toList, False) → J p l e (cRm fr lo mc ms) s m args below meth c G A mL (JX below G A post px args s mc ms) 0 0 0 (lv_args 0 As) [] wc) : Cox l G y b mL ret fr lo mc ms As wc post px := by
  intro sz
  refine vx_ofW (cc := b) (maxL := mL) (ret := ret) hc.2.2.2 rfl ?_
  intro p e s m args below meth c s₁ B hml htab hv
  obtain ⟨rfl, hsz, hP, hK, hD0, hE⟩ := hv
  have hts := atoms_spec (ws := Cond.code y b mL ret :: TBL) B.pre
  subst hsz
  have hA : ∀ q : Nat, s.heap.size ≤ q → va_A wc s.heap.size q := fun q h => Or.inr h
  have K := body p e s m As.toArray below meth c (va_A wc s.heap.size) ⟨B.exec, B.bytes, hml, findClass_of_methodNamed B.named, fun w h => hts w (List.mem_cons_of_mem _ h), hK, hE, hA, B.notSynchronized, B.returns, hl⟩ htab
  have hl' := lv_entry As (n := mL) hn
  rw [lg_entry_eq]
  exact K s.heap [] _ hl' hP hD0.self va_S.rf
section JR
variable {p : Program} {l : Launch} {e : Env} {R : Room} {s : State} {m : MethodId} {args : Array Value} {below : List Frame} {meth : Method} {c : Code} {G : Gt} {A : Nat → Prop} {n : Nat} {Q : State → Prop} {kc ks : Nat} {own : String} {cc : ByteArray} {ret : Option FieldType}
variable {pc : Nat} {lv : List (Nat × Value)} {st : List Value} {ws : va_W}

theorem J_iconst (F : Fx p l s m args meth c G A own cc n ret) {z : Int} {v : Int32} (hdg : decode cc pc = .ok (.iconst z, 1)) (hv : Int32.ofInt z = v) (k : J p l e R s m args below meth c G A n Q kc ks (pc + 1) lv (.int v :: st) ws) : J p l e R s m args below meth c G A n Q kc ks pc lv st ws := by
  obtain ⟨hx, hb, hml, hown, hts, hK, hE, hA, hlk, hr, hst⟩ := F
  intro H locs ls hl hP hD hS
  exact lv_iconst hx hb hdg hv (k H locs ls hl hP hD hS)
theorem J_bipush (F : Fx p l s m args meth c G A own cc n ret) {z : Int} {v : Int32} (hdg : decode cc pc = .ok (.bipush z, 2)) (hv : (Int8.ofInt z).toInt32 = v) (k : J p l e R s m args below meth c G A n Q kc ks (pc + 2) lv (.int v :: st) ws) : J p l e R s m args below meth c G A n Q kc ks pc lv st ws := by
  obtain ⟨hx, hb, hml, hown, hts, hK, hE, hA, hlk, hr, hst⟩ := F
  intro H locs ls hl hP hD hS
  exact lv_bipush hx hb hdg hv (k H locs ls hl hP hD hS)
theorem J_sipush (F : Fx p l s m args meth c G A own cc n ret) {z : Int} {v : Int32} (hdg : decode cc pc = .ok (.sipush z, 3)) (hv : (Int16.ofInt z).toInt32 = v) (k : J p l e R s m args below meth c G A n Q kc ks (pc + 3) lv (.int v :: st) ws) : J p l e R s m args below meth c G A n Q kc ks pc lv st ws := by
  obtain ⟨hx, hb, hml, hown, hts, hK, hE, hA, hlk, hr, hst⟩ := F
  intro H locs ls hl hP hD hS
  exact lv_sipush hx hb hdg hv (k H locs ls hl hP hD hS)
theorem J_lconst (F : Fx p l s m args meth c G A own cc n ret) {z : Fin 2} {v : Int64} (hdg : decode cc pc = .ok (.lconst z, 1)) (hv : Int64.ofNat (z : Nat) = v) (k : J p l e R s m args below meth c G A n Q kc ks (pc + 1) lv (.long v :: st) ws) : J p l e R s m args below meth c G A n Q kc ks pc lv st ws := by
  obtain ⟨hx, hb, hml, hown, hts, hK, hE, hA, hlk, hr, hst⟩ := F
  intro H locs ls hl hP hD hS
  exact lv_lconst hx hb hdg hv (k H locs ls hl hP hD hS)
theorem J_ldc (F : Fx p l s m args meth c G A own cc n ret) {ix : Nat} {v v2 : Int32} (hw : Cond.constant own ix v ∈ TBL) (hv : v = v2) (hdg : decode cc pc = .ok (.ldc ix, 2)) (k : J p l e R s m args below meth c G A n Q kc ks (pc + 2) lv (.int v2 :: st) ws) : J p l e R s m args below meth c G A n Q kc ks pc lv st ws := by
  subst hv
  obtain ⟨hx, hb, hml, hown, hts, hK, hE, hA, hlk, hr, hst⟩ := F
  intro H locs ls hl hP hD hS
  exact lv_ldc hx hb hown (hts _ hw) hdg (k H locs ls hl hP hD hS)
theorem J_ldc2 (F : Fx p l s m args meth c G A own cc n ret) {ix : Nat} {v v2 : Int64} (hw : Cond.constantLong own ix v ∈ TBL) (hv : v = v2) (hdg : decode cc pc = .ok (.ldc2_w ix, 3)) (k : J p l e R s m args below meth c G A n Q kc ks (pc + 3) lv (.long v2 :: st) ws) : J p l e R s m args below meth c G A n Q kc ks pc lv st ws := by
  subst hv
  obtain ⟨hx, hb, hml, hown, hts, hK, hE, hA, hlk, hr, hst⟩ := F
  intro H locs ls hl hP hD hS
  exact lv_ldc2 hx hb hown (hts _ hw) hdg (k H locs ls hl hP hD hS)
theorem J_iload_n (F : Fx p l s m args meth c G A own cc n ret) {k : Fin 4} {i : Nat} {x : Int32} (j : Nat) (hdg : decode cc pc = .ok (.iload_n k, 1)) (hi : (k : Nat) = i) (hj : lv[j]? = some (i, .int x)) (k : J p l e R s m args below meth c G A n Q kc ks (pc + 1) lv (.int x :: st) ws) : J p l e R s m args below meth c G A n Q kc ks pc lv st ws := by
  obtain ⟨hx, hb, hml, hown, hts, hK, hE, hA, hlk, hr, hst⟩ := F
  intro H locs ls hl hP hD hS
  exact lv_iload_n hx hb hdg hi (lv_at hl j hj) (k H locs ls hl hP hD hS)
theorem J_iload (F : Fx p l s m args meth c G A own cc n ret) {i : Nat} {x : Int32} (j : Nat) (hdg : decode cc pc = .ok (.iload i, 2)) (hj : lv[j]? = some (i, .int x)) (k : J p l e R s m args below meth c G A n Q kc ks (pc + 2) lv (.int x :: st) ws) : J p l e R s m args below meth c G A n Q kc ks pc lv st ws := by
  obtain ⟨hx, hb, hml, hown, hts, hK, hE, hA, hlk, hr, hst⟩ := F
  intro H locs ls hl hP hD hS
  exact lv_iload hx hb hdg (lv_at hl j hj) (k H locs ls hl hP hD hS)
theorem J_istore_n (F : Fx p l s m args meth c G A own cc n ret) {k : Fin 4} {i : Nat} {x : Int32} {lv2 : List (Nat × Value)} (hdg : decode cc pc = .ok (.istore_n k, 1)) (hi : (k : Nat) = i) (hn : i < n) (h2 : (i, Value.int x) :: lv.filter (fun q => !(q.1 == i) && !(q.1 + 1 == i && q.2.category == 2)) = lv2) (k0 : J p l e R s m args below meth c G A n Q kc ks (pc + 1) lv2 st ws) : J p l e R s m args below meth c G A n Q kc ks pc lv (.int x :: st) ws := by
  obtain ⟨hx, hb, hml, hown, hts, hK, hE, hA, hlk, hr, hst⟩ := F
  intro H locs ls hl hP hD hS
  exact lv_istore_n hx hb hdg hi hl hn h2 (fun ls hl => k0 H locs ls hl hP hD hS)
theorem J_istore (F : Fx p l s m args meth c G A own cc n ret) {i : Nat} {x : Int32} {lv2 : List (Nat × Value)} (hdg : decode cc pc = .ok (.istore i, 2)) (hn : i < n) (h2 : (i, Value.int x) :: lv.filter (fun q => !(q.1 == i) && !(q.1 + 1 == i && q.2.category == 2)) = lv2) (k0 : J p l e R s m args below meth c G A n Q kc ks (pc + 2) lv2 st ws) : J p l e R s m args below meth c G A n Q kc ks pc lv (.int x :: st) ws := by
  obtain ⟨hx, hb, hml, hown, hts, hK, hE, hA, hlk, hr, hst⟩ := F
  intro H locs ls hl hP hD hS
  exact lv_istore hx hb hdg hl hn h2 (fun ls hl => k0 H locs ls hl hP hD hS)
theorem J_lload_n (F : Fx p l s m args meth c G A own cc n ret) {k : Fin 4} {i : Nat} {x : Int64} (j : Nat) (hdg : decode cc pc = .ok (.lload_n k, 1)) (hi : (k : Nat) = i) (hj : lv[j]? = some (i, .long x)) (k : J p l e R s m args below meth c G A n Q kc ks (pc + 1) lv (.long x :: st) ws) : J p l e R s m args below meth c G A n Q kc ks pc lv st ws := by
  obtain ⟨hx, hb, hml, hown, hts, hK, hE, hA, hlk, hr, hst⟩ := F
  intro H locs ls hl hP hD hS
  exact lv_lload_n hx hb hdg hi (lv_at hl j hj) (k H locs ls hl hP hD hS)
theorem J_lload (F : Fx p l s m args meth c G A own cc n ret) {i : Nat} {x : Int64} (j : Nat) (hdg : decode cc pc = .ok (.lload i, 2)) (hj : lv[j]? = some (i, .long x)) (k : J p l e R s m args below meth c G A n Q kc ks (pc + 2) lv (.long x :: st) ws) : J p l e R s m args below meth c G A n Q kc ks pc lv st ws := by
  obtain ⟨hx, hb, hml, hown, hts, hK, hE, hA, hlk, hr, hst⟩ := F
  intro H locs ls hl hP hD hS
  exact lv_lload hx hb hdg (lv_at hl j hj) (k H locs ls hl hP hD hS)
theorem J_lstore_n (F : Fx p l s m args meth c G A own cc n ret) {k : Fin 4} {i : Nat} {x : Int64} {lv2 : List (Nat × Value)} (hdg : decode cc pc = .ok (.lstore_n k, 1)) (hi : (k : Nat) = i) (hn : i + 1 < n) (h2 : (i, Value.long x) :: lv.filter (fun q => !(q.1 == i) && (!(q.1 == i + 1) && !(q.1 + 1 == i && q.2.category == 2))) = lv2) (k0 : J p l e R s m args below meth c G A n Q kc ks (pc + 1) lv2 st ws) : J p l e R s m args below meth c G A n Q kc ks pc lv (.long x :: st) ws := by
  obtain ⟨hx, hb, hml, hown, hts, hK, hE, hA, hlk, hr, hst⟩ := F
  intro H locs ls hl hP hD hS
  exact lv_lstore_n hx hb hdg hi hl hn h2 (fun ls hl => k0 H locs ls hl hP hD hS)
theorem J_lstore (F : Fx p l s m args meth c G A own cc n ret) {i : Nat} {x : Int64} {lv2 : List (Nat × Value)} (hdg : decode cc pc = .ok (.lstore i, 2)) (hn : i + 1 < n) (h2 : (i, Value.long x) :: lv.filter (fun q => !(q.1 == i) && (!(q.1 == i + 1) && !(q.1 + 1 == i && q.2.category == 2))) = lv2) (k0 : J p l e R s m args below meth c G A n Q kc ks (pc + 2) lv2 st ws) : J p l e R s m args below meth c G A n Q kc ks pc lv (.long x :: st) ws := by
  obtain ⟨hx, hb, hml, hown, hts, hK, hE, hA, hlk, hr, hst⟩ := F
  intro H locs ls hl hP hD hS
  exact lv_lstore hx hb hdg hl hn h2 (fun ls hl => k0 H locs ls hl hP hD hS)
theorem J_aload_n (F : Fx p l s m args meth c G A own cc n ret) {k : Fin 4} {i : Nat} {x : Nat} (j : Nat) (hdg : decode cc pc = .ok (.aload_n k, 1)) (hi : (k : Nat) = i) (hj : lv[j]? = some (i, .ref x)) (k : J p l e R s m args below meth c G A n Q kc ks (pc + 1) lv (.ref x :: st) ws) : J p l e R s m args below meth c G A n Q kc ks pc lv st ws := by
  obtain ⟨hx, hb, hml, hown, hts, hK, hE, hA, hlk, hr, hst⟩ := F
  intro H locs ls hl hP hD hS
  exact lv_aload_n hx hb hdg hi (lv_at hl j hj) (k H locs ls hl hP hD hS)
theorem J_aload (F : Fx p l s m args meth c G A own cc n ret) {i : Nat} {x : Nat} (j : Nat) (hdg : decode cc pc = .ok (.aload i, 2)) (hj : lv[j]? = some (i, .ref x)) (k : J p l e R s m args below meth c G A n Q kc ks (pc + 2) lv (.ref x :: st) ws) : J p l e R s m args below meth c G A n Q kc ks pc lv st ws := by
  obtain ⟨hx, hb, hml, hown, hts, hK, hE, hA, hlk, hr, hst⟩ := F
  intro H locs ls hl hP hD hS
  exact lv_aload hx hb hdg (lv_at hl j hj) (k H locs ls hl hP hD hS)
theorem J_astore_n (F : Fx p l s m args meth c G A own cc n ret) {k : Fin 4} {i : Nat} {x : Nat} {lv2 : List (Nat × Value)} (hdg : decode cc pc = .ok (.astore_n k, 1)) (hi : (k : Nat) = i) (hn : i < n) (h2 : (i, Value.ref x) :: lv.filter (fun q => !(q.1 == i) && !(q.1 + 1 == i && q.2.category == 2)) = lv2) (k0 : J p l e R s m args below meth c G A n Q kc ks (pc + 1) lv2 st ws) : J p l e R s m args below meth c G A n Q kc ks pc lv (.ref x :: st) ws := by
  obtain ⟨hx, hb, hml, hown, hts, hK, hE, hA, hlk, hr, hst⟩ := F
  intro H locs ls hl hP hD hS
  exact lv_astore_n hx hb hdg hi hl hn h2 (fun ls hl => k0 H locs ls hl hP hD hS)
theorem J_astore (F : Fx p l s m args meth c G A own cc n ret) {i : Nat} {x : Nat} {lv2 : List (Nat × Value)} (hdg : decode cc pc = .ok (.astore i, 2)) (hn : i < n) (h2 : (i, Value.ref x) :: lv.filter (fun q => !(q.1 == i) && !(q.1 + 1 == i && q.2.category == 2)) = lv2) (k0 : J p l e R s m args below meth c G A n Q kc ks (pc + 2) lv2 st ws) : J p l e R s m args below meth c G A n Q kc ks pc lv (.ref x :: st) ws := by
  obtain ⟨hx, hb, hml, hown, hts, hK, hE, hA, hlk, hr, hst⟩ := F
  intro H locs ls hl hP hD hS
  exact lv_astore hx hb hdg hl hn h2 (fun ls hl => k0 H locs ls hl hP hD hS)
theorem J_iinc (F : Fx p l s m args meth c G A own cc n ret) {i : Nat} {z : Int} {x v : Int32} {lv2 : List (Nat × Value)} (j : Nat) (hdg : decode cc pc = .ok (.iinc i z, 3)) (hj : lv[j]? = some (i, .int x)) (hv : x + Int32.ofInt z = v) (hn : i < n) (h2 : (i, Value.int v) :: lv.filter (fun q => !(q.1 == i) && !(q.1 + 1 == i && q.2.category == 2)) = lv2) (k0 : J p l e R s m args below meth c G A n Q kc ks (pc + 3) lv2 st ws) : J p l e R s m args below meth c G A n Q kc ks pc lv st ws := by
  obtain ⟨hx, hb, hml, hown, hts, hK, hE, hA, hlk, hr, hst⟩ := F
  intro H locs ls hl hP hD hS
  exact lv_iinc hx hb hdg hl hj hv hn h2 (fun ls hl => k0 H locs ls hl hP hD hS)
theorem J_iadd (F : Fx p l s m args meth c G A own cc n ret) {x y v : Int32} (hdg : decode cc pc = .ok (.iadd, 1)) (hv : x + y = v) (k : J p l e R s m args below meth c G A n Q kc ks (pc + 1) lv (.int v :: st) ws) : J p l e R s m args below meth c G A n Q kc ks pc lv (.int y :: .int x :: st) ws := by
  subst hv
  obtain ⟨hx, hb, hml, hown, hts, hK, hE, hA, hlk, hr, hst⟩ := F
  intro H locs ls hl hP hD hS
  exact lv_iadd hx hb hdg (k H locs ls hl hP hD hS)
theorem J_isub (F : Fx p l s m args meth c G A own cc n ret) {x y v : Int32} (hdg : decode cc pc = .ok (.isub, 1)) (hv : x - y = v) (k : J p l e R s m args below meth c G A n Q kc ks (pc + 1) lv (.int v :: st) ws) : J p l e R s m args below meth c G A n Q kc ks pc lv (.int y :: .int x :: st) ws := by
  subst hv
  obtain ⟨hx, hb, hml, hown, hts, hK, hE, hA, hlk, hr, hst⟩ := F
  intro H locs ls hl hP hD hS
  exact lv_isub hx hb hdg (k H locs ls hl hP hD hS)
theorem J_imul (F : Fx p l s m args meth c G A own cc n ret) {x y v : Int32} (hdg : decode cc pc = .ok (.imul, 1)) (hv : x * y = v) (k : J p l e R s m args below meth c G A n Q kc ks (pc + 1) lv (.int v :: st) ws) : J p l e R s m args below meth c G A n Q kc ks pc lv (.int y :: .int x :: st) ws := by
  subst hv
  obtain ⟨hx, hb, hml, hown, hts, hK, hE, hA, hlk, hr, hst⟩ := F
  intro H locs ls hl hP hD hS
  exact lv_imul hx hb hdg (k H locs ls hl hP hD hS)
theorem J_iand (F : Fx p l s m args meth c G A own cc n ret) {x y v : Int32} (hdg : decode cc pc = .ok (.iand, 1)) (hv : x &&& y = v) (k : J p l e R s m args below meth c G A n Q kc ks (pc + 1) lv (.int v :: st) ws) : J p l e R s m args below meth c G A n Q kc ks pc lv (.int y :: .int x :: st) ws := by
  subst hv
  obtain ⟨hx, hb, hml, hown, hts, hK, hE, hA, hlk, hr, hst⟩ := F
  intro H locs ls hl hP hD hS
  exact lv_iand hx hb hdg (k H locs ls hl hP hD hS)
theorem J_idiv (F : Fx p l s m args meth c G A own cc n ret) {x y v : Int32} (hdg : decode cc pc = .ok (.idiv, 1)) (hne : ¬ y = 0) (hv : x / y = v) (k : J p l e R s m args below meth c G A n Q kc ks (pc + 1) lv (.int v :: st) ws) : J p l e R s m args below meth c G A n Q kc ks pc lv (.int y :: .int x :: st) ws := by
  subst hv
  obtain ⟨hx, hb, hml, hown, hts, hK, hE, hA, hlk, hr, hst⟩ := F
  intro H locs ls hl hP hD hS
  exact lv_idiv hx hb hdg hne (k H locs ls hl hP hD hS)
theorem J_irem (F : Fx p l s m args meth c G A own cc n ret) {x y v : Int32} (hdg : decode cc pc = .ok (.irem, 1)) (hne : ¬ y = 0) (hv : x - x / y * y = v) (k : J p l e R s m args below meth c G A n Q kc ks (pc + 1) lv (.int v :: st) ws) : J p l e R s m args below meth c G A n Q kc ks pc lv (.int y :: .int x :: st) ws := by
  subst hv
  obtain ⟨hx, hb, hml, hown, hts, hK, hE, hA, hlk, hr, hst⟩ := F
  intro H locs ls hl hP hD hS
  exact lv_irem hx hb hdg hne (k H locs ls hl hP hD hS)
theorem J_ladd (F : Fx p l s m args meth c G A own cc n ret) {x y v : Int64} (hdg : decode cc pc = .ok (.ladd, 1)) (hv : x + y = v) (k : J p l e R s m args below meth c G A n Q kc ks (pc + 1) lv (.long v :: st) ws) : J p l e R s m args below meth c G A n Q kc ks pc lv (.long y :: .long x :: st) ws := by
  subst hv
  obtain ⟨hx, hb, hml, hown, hts, hK, hE, hA, hlk, hr, hst⟩ := F
  intro H locs ls hl hP hD hS
  exact lv_ladd hx hb hdg (k H locs ls hl hP hD hS)
theorem J_lsub (F : Fx p l s m args meth c G A own cc n ret) {x y v : Int64} (hdg : decode cc pc = .ok (.lsub, 1)) (hv : x - y = v) (k : J p l e R s m args below meth c G A n Q kc ks (pc + 1) lv (.long v :: st) ws) : J p l e R s m args below meth c G A n Q kc ks pc lv (.long y :: .long x :: st) ws := by
  subst hv
  obtain ⟨hx, hb, hml, hown, hts, hK, hE, hA, hlk, hr, hst⟩ := F
  intro H locs ls hl hP hD hS
  exact lv_lsub hx hb hdg (k H locs ls hl hP hD hS)
theorem J_lmul (F : Fx p l s m args meth c G A own cc n ret) {x y v : Int64} (hdg : decode cc pc = .ok (.lmul, 1)) (hv : x * y = v) (k : J p l e R s m args below meth c G A n Q kc ks (pc + 1) lv (.long v :: st) ws) : J p l e R s m args below meth c G A n Q kc ks pc lv (.long y :: .long x :: st) ws := by
  subst hv
  obtain ⟨hx, hb, hml, hown, hts, hK, hE, hA, hlk, hr, hst⟩ := F
  intro H locs ls hl hP hD hS
  exact lv_lmul hx hb hdg (k H locs ls hl hP hD hS)
theorem J_ldiv (F : Fx p l s m args meth c G A own cc n ret) {x y v : Int64} (hdg : decode cc pc = .ok (.ldiv, 1)) (hne : ¬ y = 0) (hv : x / y = v) (k : J p l e R s m args below meth c G A n Q kc ks (pc + 1) lv (.long v :: st) ws) : J p l e R s m args below meth c G A n Q kc ks pc lv (.long y :: .long x :: st) ws := by
  subst hv
  obtain ⟨hx, hb, hml, hown, hts, hK, hE, hA, hlk, hr, hst⟩ := F
  intro H locs ls hl hP hD hS
  exact lv_ldiv hx hb hdg hne (k H locs ls hl hP hD hS)
theorem J_lrem (F : Fx p l s m args meth c G A own cc n ret) {x y v : Int64} (hdg : decode cc pc = .ok (.lrem, 1)) (hne : ¬ y = 0) (hv : x - x / y * y = v) (k : J p l e R s m args below meth c G A n Q kc ks (pc + 1) lv (.long v :: st) ws) : J p l e R s m args below meth c G A n Q kc ks pc lv (.long y :: .long x :: st) ws := by
  subst hv
  obtain ⟨hx, hb, hml, hown, hts, hK, hE, hA, hlk, hr, hst⟩ := F
  intro H locs ls hl hP hD hS
  exact lv_lrem hx hb hdg hne (k H locs ls hl hP hD hS)
theorem J_lneg (F : Fx p l s m args meth c G A own cc n ret) {x v : Int64} (hdg : decode cc pc = .ok (.lneg, 1)) (hv : -x = v) (k : J p l e R s m args below meth c G A n Q kc ks (pc + 1) lv (.long v :: st) ws) : J p l e R s m args below meth c G A n Q kc ks pc lv (.long x :: st) ws := by
  subst hv
  obtain ⟨hx, hb, hml, hown, hts, hK, hE, hA, hlk, hr, hst⟩ := F
  intro H locs ls hl hP hD hS
  exact lv_lneg hx hb hdg (k H locs ls hl hP hD hS)
theorem J_i2l (F : Fx p l s m args meth c G A own cc n ret) {x : Int32} {v : Int64} (hdg : decode cc pc = .ok (.i2l, 1)) (hv : x.toInt64 = v) (k : J p l e R s m args below meth c G A n Q kc ks (pc + 1) lv (.long v :: st) ws) : J p l e R s m args below meth c G A n Q kc ks pc lv (.int x :: st) ws := by
  obtain ⟨hx, hb, hml, hown, hts, hK, hE, hA, hlk, hr, hst⟩ := F
  intro H locs ls hl hP hD hS
  exact lv_i2l hx hb hdg hv (k H locs ls hl hP hD hS)
theorem J_l2i (F : Fx p l s m args meth c G A own cc n ret) {x : Int64} {v : Int32} (hdg : decode cc pc = .ok (.l2i, 1)) (hv : x.toInt32 = v) (k : J p l e R s m args below meth c G A n Q kc ks (pc + 1) lv (.int v :: st) ws) : J p l e R s m args below meth c G A n Q kc ks pc lv (.long x :: st) ws := by
  obtain ⟨hx, hb, hml, hown, hts, hK, hE, hA, hlk, hr, hst⟩ := F
  intro H locs ls hl hP hD hS
  exact lv_l2i hx hb hdg hv (k H locs ls hl hP hD hS)
theorem J_dup (F : Fx p l s m args meth c G A own cc n ret) {va : Value} (hdg : decode cc pc = .ok (.dup, 1)) (hva : va.category = 1) (k : J p l e R s m args below meth c G A n Q kc ks (pc + 1) lv (va :: va :: st) ws) : J p l e R s m args below meth c G A n Q kc ks pc lv (va :: st) ws := by
  obtain ⟨hx, hb, hml, hown, hts, hK, hE, hA, hlk, hr, hst⟩ := F
  intro H locs ls hl hP hD hS
  exact lv_dup hx hb hdg hva (k H locs ls hl hP hD hS)
theorem J_dup2 (F : Fx p l s m args meth c G A own cc n ret) {va vb : Value} (hdg : decode cc pc = .ok (.dup2, 1)) (hva : va.category = 1) (hvb : vb.category = 1) (k : J p l e R s m args below meth c G A n Q kc ks (pc + 1) lv (va :: vb :: va :: vb :: st) ws) : J p l e R s m args below meth c G A n Q kc ks pc lv (va :: vb :: st) ws := by
  obtain ⟨hx, hb, hml, hown, hts, hK, hE, hA, hlk, hr, hst⟩ := F
  intro H locs ls hl hP hD hS
  exact lv_dup2_11 hx hb hdg hva hvb (k H locs ls hl hP hD hS)
theorem J_ifnull (F : Fx p l s m args meth c G A own cc n ret) {x : Nat} {off : Int} (hdg : decode cc pc = .ok (.ifnull off, 3)) (k : J p l e R s m args below meth c G A n Q kc ks (pc + 3) lv st ws) : J p l e R s m args below meth c G A n Q kc ks pc lv (.ref x :: st) ws := by
  obtain ⟨hx, hb, hml, hown, hts, hK, hE, hA, hlk, hr, hst⟩ := F
  intro H locs ls hl hP hD hS
  exact lv_ifnull hx hb hdg (k H locs ls hl hP hD hS)
theorem J_goto (F : Fx p l s m args meth c G A own cc n ret) {off : Int} (tgt : Nat) (hdg : decode cc pc = .ok (.goto off, 3)) (ht : (pc : Int) + off = (tgt : Int)) (k : J p l e R s m args below meth c G A n Q kc ks tgt lv st ws) : J p l e R s m args below meth c G A n Q kc ks pc lv st ws := by
  obtain ⟨hx, hb, hml, hown, hts, hK, hE, hA, hlk, hr, hst⟩ := F
  intro H locs ls hl hP hD hS
  exact lv_goto hx hb hdg ht (k H locs ls hl hP hD hS)
theorem J_icmp_eq (F : Fx p l s m args meth c G A own cc n ret) {x y : Int32} {off : Int} (tgt : Nat) (hdg : decode cc pc = .ok (.if_icmp .eq off, 3)) (ht : (pc : Int) + off = (tgt : Int)) (kt : x = y → J p l e R s m args below meth c G A n Q kc ks tgt lv st ws) (kf : ¬ x = y → J p l e R s m args below meth c G A n Q kc ks (pc + 3) lv st ws) : J p l e R s m args below meth c G A n Q kc ks pc lv (.int y :: .int x :: st) ws := by
  obtain ⟨hx, hb, hml, hown, hts, hK, hE, hA, hlk, hr, hst⟩ := F
  intro H locs ls hl hP hD hS
  exact lv_icmp_eq hx hb hdg ht (fun z => kt z H locs ls hl hP hD hS) (fun z => kf z H locs ls hl hP hD hS)
theorem J_ncmp_eq (F : Fx p l s m args meth c G A own cc n ret) {a b : Nat} {off : Int} (tgt : Nat) (ha : a < 2 ^ 31) (hb : b < 2 ^ 31) (hdg : decode cc pc = .ok (.if_icmp .eq off, 3)) (ht : (pc : Int) + off = (tgt : Int)) (kt : a = b → J p l e R s m args below meth c G A n Q kc ks tgt lv st ws) (kf : ¬ a = b → J p l e R s m args below meth c G A n Q kc ks (pc + 3) lv st ws) : J p l e R s m args below meth c G A n Q kc ks pc lv (.int (nI b) :: .int (nI a) :: st) ws :=
  J_icmp_eq F tgt hdg ht (fun z => kt ((nI_eq ha hb).mp z)) (fun z => kf (fun e => z ((nI_eq ha hb).mpr e)))
theorem J_if_eq (F : Fx p l s m args meth c G A own cc n ret) {x : Int32} {off : Int} (tgt : Nat) (hdg : decode cc pc = .ok (.ifCond .eq off, 3)) (ht : (pc : Int) + off = (tgt : Int)) (kt : x = 0 → J p l e R s m args below meth c G A n Q kc ks tgt lv st ws) (kf : ¬ x = 0 → J p l e R s m args below meth c G A n Q kc ks (pc + 3) lv st ws) : J p l e R s m args below meth c G A n Q kc ks pc lv (.int x :: st) ws := by
  obtain ⟨hx, hb, hml, hown, hts, hK, hE, hA, hlk, hr, hst⟩ := F
  intro H locs ls hl hP hD hS
  exact lv_if_eq hx hb hdg ht (fun z => kt z H locs ls hl hP hD hS) (fun z => kf z H locs ls hl hP hD hS)
theorem J_nif_eq (F : Fx p l s m args meth c G A own cc n ret) {a : Nat} {off : Int} (tgt : Nat) (ha : a < 2 ^ 31) (hdg : decode cc pc = .ok (.ifCond .eq off, 3)) (ht : (pc : Int) + off = (tgt : Int)) (kt : a = 0 → J p l e R s m args below meth c G A n Q kc ks tgt lv st ws) (kf : 0 < a → J p l e R s m args below meth c G A n Q kc ks (pc + 3) lv st ws) : J p l e R s m args below meth c G A n Q kc ks pc lv (.int (nI a) :: st) ws := by
  refine J_if_eq F tgt hdg ht (fun z => kt ((nI_eq ha (by decide)).mp (by rw [nI_0]; exact z))) (fun z => kf (Nat.pos_of_ne_zero fun q => z (by rw [q]; exact nI_0)))
theorem J_lcmp_eq (F : Fx p l s m args meth c G A own cc n ret) {x y : Int64} {off : Int} (tgt : Nat) (hdg : decode cc pc = .ok (.lcmp, 1)) (hd2 : decode cc (pc + 1) = .ok (.ifCond .eq off, 3)) (ht : ((pc + 1 : Nat) : Int) + off = (tgt : Int)) (kt : x = y → J p l e R s m args below meth c G A n Q kc ks tgt lv st ws) (kf : ¬ x = y → J p l e R s m args below meth c G A n Q kc ks (pc + 4) lv st ws) : J p l e R s m args below meth c G A n Q kc ks pc lv (.long y :: .long x :: st) ws := by
  have F' := F
  obtain ⟨hx, hb, hml, hown, hts, hK, hE, hA, hlk, hr, hst⟩ := F
  intro H locs ls hl hP hD hS
  exact W.lcmp hx hb hdg (J_if_eq F' tgt hd2 ht (fun z => kt ((lg_cmp_eq x y).mp z)) (fun z => kf (fun q => z ((lg_cmp_eq x y).mpr q))) H locs ls hl hP hD hS)
theorem J_icmp_ne (F : Fx p l s m args meth c G A own cc n ret) {x y : Int32} {off : Int} (tgt : Nat) (hdg : decode cc pc = .ok (.if_icmp .ne off, 3)) (ht : (pc : Int) + off = (tgt : Int)) (kt : ¬ x = y → J p l e R s m args below meth c G A n Q kc ks tgt lv st ws) (kf : x = y → J p l e R s m args below meth c G A n Q kc ks (pc + 3) lv st ws) : J p l e R s m args below meth c G A n Q kc ks pc lv (.int y :: .int x :: st) ws := by
  obtain ⟨hx, hb, hml, hown, hts, hK, hE, hA, hlk, hr, hst⟩ := F
  intro H locs ls hl hP hD hS
  exact lv_icmp_ne hx hb hdg ht (fun z => kt z H locs ls hl hP hD hS) (fun z => kf z H locs ls hl hP hD hS)
theorem J_ncmp_ne (F : Fx p l s m args meth c G A own cc n ret) {a b : Nat} {off : Int} (tgt : Nat) (ha : a < 2 ^ 31) (hb : b < 2 ^ 31) (hdg : decode cc pc = .ok (.if_icmp .ne off, 3)) (ht : (pc : Int) + off = (tgt : Int)) (kt : ¬ a = b → J p l e R s m args below meth c G A n Q kc ks tgt lv st ws) (kf : a = b → J p l e R s m args below meth c G A n Q kc ks (pc + 3) lv st ws) : J p l e R s m args below meth c G A n Q kc ks pc lv (.int (nI b) :: .int (nI a) :: st) ws :=
  J_icmp_ne F tgt hdg ht (fun z => kt (fun e => z ((nI_eq ha hb).mpr e))) (fun z => kf ((nI_eq ha hb).mp z))
theorem J_if_ne (F : Fx p l s m args meth c G A own cc n ret) {x : Int32} {off : Int} (tgt : Nat) (hdg : decode cc pc = .ok (.ifCond .ne off, 3)) (ht : (pc : Int) + off = (tgt : Int)) (kt : ¬ x = 0 → J p l e R s m args below meth c G A n Q kc ks tgt lv st ws) (kf : x = 0 → J p l e R s m args below meth c G A n Q kc ks (pc + 3) lv st ws) : J p l e R s m args below meth c G A n Q kc ks pc lv (.int x :: st) ws := by
  obtain ⟨hx, hb, hml, hown, hts, hK, hE, hA, hlk, hr, hst⟩ := F
  intro H locs ls hl hP hD hS
  exact lv_if_ne hx hb hdg ht (fun z => kt z H locs ls hl hP hD hS) (fun z => kf z H locs ls hl hP hD hS)
theorem J_nif_ne (F : Fx p l s m args meth c G A own cc n ret) {a : Nat} {off : Int} (tgt : Nat) (ha : a < 2 ^ 31) (hdg : decode cc pc = .ok (.ifCond .ne off, 3)) (ht : (pc : Int) + off = (tgt : Int)) (kt : 0 < a → J p l e R s m args below meth c G A n Q kc ks tgt lv st ws) (kf : a = 0 → J p l e R s m args below meth c G A n Q kc ks (pc + 3) lv st ws) : J p l e R s m args below meth c G A n Q kc ks pc lv (.int (nI a) :: st) ws := by
  refine J_if_ne F tgt hdg ht (fun z => kt (Nat.pos_of_ne_zero fun q => z (by rw [q]; exact nI_0))) (fun z => kf ((nI_eq ha (by decide)).mp (by rw [nI_0]; first | exact z | exact Decidable.not_not.mp z)))
theorem J_lcmp_ne (F : Fx p l s m args meth c G A own cc n ret) {x y : Int64} {off : Int} (tgt : Nat) (hdg : decode cc pc = .ok (.lcmp, 1)) (hd2 : decode cc (pc + 1) = .ok (.ifCond .ne off, 3)) (ht : ((pc + 1 : Nat) : Int) + off = (tgt : Int)) (kt : ¬ x = y → J p l e R s m args below meth c G A n Q kc ks tgt lv st ws) (kf : x = y → J p l e R s m args below meth c G A n Q kc ks (pc + 4) lv st ws) : J p l e R s m args below meth c G A n Q kc ks pc lv (.long y :: .long x :: st) ws := by
  have F' := F
  obtain ⟨hx, hb, hml, hown, hts, hK, hE, hA, hlk, hr, hst⟩ := F
  intro H locs ls hl hP hD hS
  exact W.lcmp hx hb hdg (J_if_ne F' tgt hd2 ht (fun z => kt (fun q => z ((lg_cmp_eq x y).mpr q))) (fun z => kf ((lg_cmp_eq x y).mp (by first | exact z | exact Decidable.not_not.mp z))) H locs ls hl hP hD hS)
theorem J_icmp_lt (F : Fx p l s m args meth c G A own cc n ret) {x y : Int32} {off : Int} (tgt : Nat) (hdg : decode cc pc = .ok (.if_icmp .lt off, 3)) (ht : (pc : Int) + off = (tgt : Int)) (kt : x < y → J p l e R s m args below meth c G A n Q kc ks tgt lv st ws) (kf : ¬ x < y → J p l e R s m args below meth c G A n Q kc ks (pc + 3) lv st ws) : J p l e R s m args below meth c G A n Q kc ks pc lv (.int y :: .int x :: st) ws := by
  obtain ⟨hx, hb, hml, hown, hts, hK, hE, hA, hlk, hr, hst⟩ := F
  intro H locs ls hl hP hD hS
  exact lv_icmp_lt hx hb hdg ht (fun z => kt z H locs ls hl hP hD hS) (fun z => kf z H locs ls hl hP hD hS)
theorem J_ncmp_lt (F : Fx p l s m args meth c G A own cc n ret) {a b : Nat} {off : Int} (tgt : Nat) (ha : a < 2 ^ 31) (hb : b < 2 ^ 31) (hdg : decode cc pc = .ok (.if_icmp .lt off, 3)) (ht : (pc : Int) + off = (tgt : Int)) (kt : a < b → J p l e R s m args below meth c G A n Q kc ks tgt lv st ws) (kf : b ≤ a → J p l e R s m args below meth c G A n Q kc ks (pc + 3) lv st ws) : J p l e R s m args below meth c G A n Q kc ks pc lv (.int (nI b) :: .int (nI a) :: st) ws :=
  J_icmp_lt F tgt hdg ht (fun z => kt ((nI_ltI ha hb).mp z)) (fun z => kf (Nat.le_of_not_lt fun e => z ((nI_ltI ha hb).mpr e)))
theorem J_if_lt (F : Fx p l s m args meth c G A own cc n ret) {x : Int32} {off : Int} (tgt : Nat) (hdg : decode cc pc = .ok (.ifCond .lt off, 3)) (ht : (pc : Int) + off = (tgt : Int)) (kt : x < 0 → J p l e R s m args below meth c G A n Q kc ks tgt lv st ws) (kf : ¬ x < 0 → J p l e R s m args below meth c G A n Q kc ks (pc + 3) lv st ws) : J p l e R s m args below meth c G A n Q kc ks pc lv (.int x :: st) ws := by
  obtain ⟨hx, hb, hml, hown, hts, hK, hE, hA, hlk, hr, hst⟩ := F
  intro H locs ls hl hP hD hS
  exact lv_if_lt hx hb hdg ht (fun z => kt z H locs ls hl hP hD hS) (fun z => kf z H locs ls hl hP hD hS)
theorem J_nif_lt (F : Fx p l s m args meth c G A own cc n ret) {a : Nat} {off : Int} (ha : a < 2 ^ 31) (tgt : Nat) (hdg : decode cc pc = .ok (.ifCond .lt off, 3)) (ht : (pc : Int) + off = (tgt : Int)) (kf : J p l e R s m args below meth c G A n Q kc ks (pc + 3) lv st ws) : J p l e R s m args below meth c G A n Q kc ks pc lv (.int (nI a) :: st) ws := J_if_lt F tgt hdg ht (fun z => absurd z (nI_pos ha)) (fun _ => kf)
theorem J_lcmp_lt (F : Fx p l s m args meth c G A own cc n ret) {x y : Int64} {off : Int} (tgt : Nat) (hdg : decode cc pc = .ok (.lcmp, 1)) (hd2 : decode cc (pc + 1) = .ok (.ifCond .lt off, 3)) (ht : ((pc + 1 : Nat) : Int) + off = (tgt : Int)) (kt : x < y → J p l e R s m args below meth c G A n Q kc ks tgt lv st ws) (kf : ¬ x < y → J p l e R s m args below meth c G A n Q kc ks (pc + 4) lv st ws) : J p l e R s m args below meth c G A n Q kc ks pc lv (.long y :: .long x :: st) ws := by
  have F' := F
  obtain ⟨hx, hb, hml, hown, hts, hK, hE, hA, hlk, hr, hst⟩ := F
  intro H locs ls hl hP hD hS
  exact W.lcmp hx hb hdg (J_if_lt F' tgt hd2 ht (fun z => kt ((lg_cmp_lt x y).mp z)) (fun z => kf (fun q => z ((lg_cmp_lt x y).mpr q))) H locs ls hl hP hD hS)
theorem J_icmp_ge (F : Fx p l s m args meth c G A own cc n ret) {x y : Int32} {off : Int} (tgt : Nat) (hdg : decode cc pc = .ok (.if_icmp .ge off, 3)) (ht : (pc : Int) + off = (tgt : Int)) (kt : y ≤ x → J p l e R s m args below meth c G A n Q kc ks tgt lv st ws) (kf : ¬ y ≤ x → J p l e R s m args below meth c G A n Q kc ks (pc + 3) lv st ws) : J p l e R s m args below meth c G A n Q kc ks pc lv (.int y :: .int x :: st) ws := by
  obtain ⟨hx, hb, hml, hown, hts, hK, hE, hA, hlk, hr, hst⟩ := F
  intro H locs ls hl hP hD hS
  exact lv_icmp_ge hx hb hdg ht (fun z => kt z H locs ls hl hP hD hS) (fun z => kf z H locs ls hl hP hD hS)
theorem J_ncmp_ge (F : Fx p l s m args meth c G A own cc n ret) {a b : Nat} {off : Int} (tgt : Nat) (ha : a < 2 ^ 31) (hb : b < 2 ^ 31) (hdg : decode cc pc = .ok (.if_icmp .ge off, 3)) (ht : (pc : Int) + off = (tgt : Int)) (kt : b ≤ a → J p l e R s m args below meth c G A n Q kc ks tgt lv st ws) (kf : a < b → J p l e R s m args below meth c G A n Q kc ks (pc + 3) lv st ws) : J p l e R s m args below meth c G A n Q kc ks pc lv (.int (nI b) :: .int (nI a) :: st) ws :=
  J_icmp_ge F tgt hdg ht (fun z => kt ((nI_leI hb ha).mp z)) (fun z => kf (Nat.lt_of_not_le fun e => z ((nI_leI hb ha).mpr e)))
theorem J_if_ge (F : Fx p l s m args meth c G A own cc n ret) {x : Int32} {off : Int} (tgt : Nat) (hdg : decode cc pc = .ok (.ifCond .ge off, 3)) (ht : (pc : Int) + off = (tgt : Int)) (kt : 0 ≤ x → J p l e R s m args below meth c G A n Q kc ks tgt lv st ws) (kf : ¬ 0 ≤ x → J p l e R s m args below meth c G A n Q kc ks (pc + 3) lv st ws) : J p l e R s m args below meth c G A n Q kc ks pc lv (.int x :: st) ws := by
  obtain ⟨hx, hb, hml, hown, hts, hK, hE, hA, hlk, hr, hst⟩ := F
  intro H locs ls hl hP hD hS
  exact lv_if_ge hx hb hdg ht (fun z => kt z H locs ls hl hP hD hS) (fun z => kf z H locs ls hl hP hD hS)
theorem J_nif_ge (F : Fx p l s m args meth c G A own cc n ret) {a : Nat} {off : Int} (ha : a < 2 ^ 31) (tgt : Nat) (hdg : decode cc pc = .ok (.ifCond .ge off, 3)) (ht : (pc : Int) + off = (tgt : Int)) (kt : J p l e R s m args below meth c G A n Q kc ks tgt lv st ws) : J p l e R s m args below meth c G A n Q kc ks pc lv (.int (nI a) :: st) ws := J_if_ge F tgt hdg ht (fun _ => kt) (fun z => absurd (nI_pos' ha) z)
theorem J_lcmp_ge (F : Fx p l s m args meth c G A own cc n ret) {x y : Int64} {off : Int} (tgt : Nat) (hdg : decode cc pc = .ok (.lcmp, 1)) (hd2 : decode cc (pc + 1) = .ok (.ifCond .ge off, 3)) (ht : ((pc + 1 : Nat) : Int) + off = (tgt : Int)) (kt : y ≤ x → J p l e R s m args below meth c G A n Q kc ks tgt lv st ws) (kf : ¬ y ≤ x → J p l e R s m args below meth c G A n Q kc ks (pc + 4) lv st ws) : J p l e R s m args below meth c G A n Q kc ks pc lv (.long y :: .long x :: st) ws := by
  have F' := F
  obtain ⟨hx, hb, hml, hown, hts, hK, hE, hA, hlk, hr, hst⟩ := F
  intro H locs ls hl hP hD hS
  exact W.lcmp hx hb hdg (J_if_ge F' tgt hd2 ht (fun z => kt ((lg_cmp_ge x y).mp z)) (fun z => kf (fun q => z ((lg_cmp_ge x y).mpr q))) H locs ls hl hP hD hS)
theorem J_icmp_gt (F : Fx p l s m args meth c G A own cc n ret) {x y : Int32} {off : Int} (tgt : Nat) (hdg : decode cc pc = .ok (.if_icmp .gt off, 3)) (ht : (pc : Int) + off = (tgt : Int)) (kt : y < x → J p l e R s m args below meth c G A n Q kc ks tgt lv st ws) (kf : ¬ y < x → J p l e R s m args below meth c G A n Q kc ks (pc + 3) lv st ws) : J p l e R s m args below meth c G A n Q kc ks pc lv (.int y :: .int x :: st) ws := by
  obtain ⟨hx, hb, hml, hown, hts, hK, hE, hA, hlk, hr, hst⟩ := F
  intro H locs ls hl hP hD hS
  exact lv_icmp_gt hx hb hdg ht (fun z => kt z H locs ls hl hP hD hS) (fun z => kf z H locs ls hl hP hD hS)
theorem J_ncmp_gt (F : Fx p l s m args meth c G A own cc n ret) {a b : Nat} {off : Int} (tgt : Nat) (ha : a < 2 ^ 31) (hb : b < 2 ^ 31) (hdg : decode cc pc = .ok (.if_icmp .gt off, 3)) (ht : (pc : Int) + off = (tgt : Int)) (kt : b < a → J p l e R s m args below meth c G A n Q kc ks tgt lv st ws) (kf : a ≤ b → J p l e R s m args below meth c G A n Q kc ks (pc + 3) lv st ws) : J p l e R s m args below meth c G A n Q kc ks pc lv (.int (nI b) :: .int (nI a) :: st) ws :=
  J_icmp_gt F tgt hdg ht (fun z => kt ((nI_ltI hb ha).mp z)) (fun z => kf (Nat.le_of_not_lt fun e => z ((nI_ltI hb ha).mpr e)))
theorem J_if_gt (F : Fx p l s m args meth c G A own cc n ret) {x : Int32} {off : Int} (tgt : Nat) (hdg : decode cc pc = .ok (.ifCond .gt off, 3)) (ht : (pc : Int) + off = (tgt : Int)) (kt : 0 < x → J p l e R s m args below meth c G A n Q kc ks tgt lv st ws) (kf : ¬ 0 < x → J p l e R s m args below meth c G A n Q kc ks (pc + 3) lv st ws) : J p l e R s m args below meth c G A n Q kc ks pc lv (.int x :: st) ws := by
  obtain ⟨hx, hb, hml, hown, hts, hK, hE, hA, hlk, hr, hst⟩ := F
  intro H locs ls hl hP hD hS
  exact lv_if_gt hx hb hdg ht (fun z => kt z H locs ls hl hP hD hS) (fun z => kf z H locs ls hl hP hD hS)
theorem J_nif_gt (F : Fx p l s m args meth c G A own cc n ret) {a : Nat} {off : Int} (tgt : Nat) (ha : a < 2 ^ 31) (hdg : decode cc pc = .ok (.ifCond .gt off, 3)) (ht : (pc : Int) + off = (tgt : Int)) (kt : 0 < a → J p l e R s m args below meth c G A n Q kc ks tgt lv st ws) (kf : a = 0 → J p l e R s m args below meth c G A n Q kc ks (pc + 3) lv st ws) : J p l e R s m args below meth c G A n Q kc ks pc lv (.int (nI a) :: st) ws := by
  refine J_if_gt F tgt hdg ht (fun z => kt ((nI_ltI (by decide) ha).mp (by rw [nI_0]; exact z))) (fun z => kf (Nat.eq_zero_of_not_pos fun q => z (by have := (nI_ltI (a := 0) (by decide) ha).mpr q; rw [nI_0] at this; exact this)))
theorem J_lcmp_gt (F : Fx p l s m args meth c G A own cc n ret) {x y : Int64} {off : Int} (tgt : Nat) (hdg : decode cc pc = .ok (.lcmp, 1)) (hd2 : decode cc (pc + 1) = .ok (.ifCond .gt off, 3)) (ht : ((pc + 1 : Nat) : Int) + off = (tgt : Int)) (kt : y < x → J p l e R s m args below meth c G A n Q kc ks tgt lv st ws) (kf : ¬ y < x → J p l e R s m args below meth c G A n Q kc ks (pc + 4) lv st ws) : J p l e R s m args below meth c G A n Q kc ks pc lv (.long y :: .long x :: st) ws := by
  have F' := F
  obtain ⟨hx, hb, hml, hown, hts, hK, hE, hA, hlk, hr, hst⟩ := F
  intro H locs ls hl hP hD hS
  exact W.lcmp hx hb hdg (J_if_gt F' tgt hd2 ht (fun z => kt ((lg_cmp_gt x y).mp z)) (fun z => kf (fun q => z ((lg_cmp_gt x y).mpr q))) H locs ls hl hP hD hS)
theorem J_icmp_le (F : Fx p l s m args meth c G A own cc n ret) {x y : Int32} {off : Int} (tgt : Nat) (hdg : decode cc pc = .ok (.if_icmp .le off, 3)) (ht : (pc : Int) + off = (tgt : Int)) (kt : x ≤ y → J p l e R s m args below meth c G A n Q kc ks tgt lv st ws) (kf : ¬ x ≤ y → J p l e R s m args below meth c G A n Q kc ks (pc + 3) lv st ws) : J p l e R s m args below meth c G A n Q kc ks pc lv (.int y :: .int x :: st) ws := by
  obtain ⟨hx, hb, hml, hown, hts, hK, hE, hA, hlk, hr, hst⟩ := F
  intro H locs ls hl hP hD hS
  exact lv_icmp_le hx hb hdg ht (fun z => kt z H locs ls hl hP hD hS) (fun z => kf z H locs ls hl hP hD hS)
theorem J_ncmp_le (F : Fx p l s m args meth c G A own cc n ret) {a b : Nat} {off : Int} (tgt : Nat) (ha : a < 2 ^ 31) (hb : b < 2 ^ 31) (hdg : decode cc pc = .ok (.if_icmp .le off, 3)) (ht : (pc : Int) + off = (tgt : Int)) (kt : a ≤ b → J p l e R s m args below meth c G A n Q kc ks tgt lv st ws) (kf : b < a → J p l e R s m args below meth c G A n Q kc ks (pc + 3) lv st ws) : J p l e R s m args below meth c G A n Q kc ks pc lv (.int (nI b) :: .int (nI a) :: st) ws :=
  J_icmp_le F tgt hdg ht (fun z => kt ((nI_leI ha hb).mp z)) (fun z => kf (Nat.lt_of_not_le fun e => z ((nI_leI ha hb).mpr e)))
theorem J_if_le (F : Fx p l s m args meth c G A own cc n ret) {x : Int32} {off : Int} (tgt : Nat) (hdg : decode cc pc = .ok (.ifCond .le off, 3)) (ht : (pc : Int) + off = (tgt : Int)) (kt : x ≤ 0 → J p l e R s m args below meth c G A n Q kc ks tgt lv st ws) (kf : ¬ x ≤ 0 → J p l e R s m args below meth c G A n Q kc ks (pc + 3) lv st ws) : J p l e R s m args below meth c G A n Q kc ks pc lv (.int x :: st) ws := by
  obtain ⟨hx, hb, hml, hown, hts, hK, hE, hA, hlk, hr, hst⟩ := F
  intro H locs ls hl hP hD hS
  exact lv_if_le hx hb hdg ht (fun z => kt z H locs ls hl hP hD hS) (fun z => kf z H locs ls hl hP hD hS)
theorem J_nif_le (F : Fx p l s m args meth c G A own cc n ret) {a : Nat} {off : Int} (tgt : Nat) (ha : a < 2 ^ 31) (hdg : decode cc pc = .ok (.ifCond .le off, 3)) (ht : (pc : Int) + off = (tgt : Int)) (kt : a = 0 → J p l e R s m args below meth c G A n Q kc ks tgt lv st ws) (kf : 0 < a → J p l e R s m args below meth c G A n Q kc ks (pc + 3) lv st ws) : J p l e R s m args below meth c G A n Q kc ks pc lv (.int (nI a) :: st) ws := by
  refine J_if_le F tgt hdg ht (fun z => kt (Nat.le_zero.mp ((nI_leI ha (by decide)).mp (by rw [nI_0]; exact z)))) (fun z => kf (Nat.pos_of_ne_zero fun q => z (by rw [q, nI_0]; exact Int32.le_refl 0)))
theorem J_lcmp_le (F : Fx p l s m args meth c G A own cc n ret) {x y : Int64} {off : Int} (tgt : Nat) (hdg : decode cc pc = .ok (.lcmp, 1)) (hd2 : decode cc (pc + 1) = .ok (.ifCond .le off, 3)) (ht : ((pc + 1 : Nat) : Int) + off = (tgt : Int)) (kt : x ≤ y → J p l e R s m args below meth c G A n Q kc ks tgt lv st ws) (kf : ¬ x ≤ y → J p l e R s m args below meth c G A n Q kc ks (pc + 4) lv st ws) : J p l e R s m args below meth c G A n Q kc ks pc lv (.long y :: .long x :: st) ws := by
  have F' := F
  obtain ⟨hx, hb, hml, hown, hts, hK, hE, hA, hlk, hr, hst⟩ := F
  intro H locs ls hl hP hD hS
  exact W.lcmp hx hb hdg (J_if_le F' tgt hd2 ht (fun z => kt ((lg_cmp_le x y).mp z)) (fun z => kf (fun q => z ((lg_cmp_le x y).mpr q))) H locs ls hl hP hD hS)
theorem J_get (F : Fx p l s m args meth c G A own cc n ret) {ci N ix a : Nat} {C ref : String} {T : u_T} {ty : Nat → FieldType} {fs : List Value} {v : Value} (fc : FC ci C T N ty) (q0 k : Nat) (he : ws[q0]? = some (a, .inr (ci, fs))) (hk : k < N) (hw : Cond.fieldLink own ix ref (T k).2.1 (T k).2.2.1 ∈ TBL) (href : (T k).1 = ref) (hv : fs[k]? = some v) (hdg : decode cc pc = .ok (.getfield ix, 3)) (kk : J p l e R s m args below meth c G A n Q kc ks (pc + 3) lv (v :: st) ws) : J p l e R s m args below meth c G A n Q kc ks pc lv (.ref a :: st) ws := by
  subst href
  obtain ⟨hx, hb, hml, hown, hts, hK, hE, hA, hlk, hr, hst⟩ := F
  intro H locs ls hl hP hD hS
  exact va_get hx hb hts fc.2.1 hown hK hP q0 he fc.1 k hk (hts _ hw) (fun _ h9 => h9) hv hdg (kk H locs ls hl hP hD hS)
theorem J_put (F : Fx p l s m args meth c G A own cc n ret) {ci N ix a : Nat} {C ref : String} {T : u_T} {ty : Nat → FieldType} {fs : List Value} {v : Value} {ws2 : va_W} (fc : FC ci C T N ty) (q0 k : Nat) (he : ws[q0]? = some (a, .inr (ci, fs))) (hk : k < N) (hw : Cond.fieldLink own ix ref (T k).2.1 (T k).2.2.1 ∈ TBL) (href : (T k).1 = ref) (hfin : (T k).2.2.2 = false) (hn : narrow (ty k) v = v) (hfit : fits (ty k) v = true) (hl0 : k < fs.length) (h2 : ws.set q0 (a, .inr (ci, fs.set k v)) = ws2) (hdg : decode cc pc = .ok (.putfield ix, 3)) (kk : J p l e R s m args below meth c G A n Q kc ks (pc + 3) lv st ws2) : J p l e R s m args below meth c G A n Q kc ks pc lv (v :: .ref a :: st) ws := by
  subst href; subst h2
  obtain ⟨hx, hb, hml, hown, hts, hK, hE, hA, hlk, hr, hst⟩ := F
  intro H locs ls hl hP hD hS
  exact va_put hx hb hts fc.2.1 ty fc.2.2.1 fc.2.2.2 hown hK hP hD hS q0 he fc.1 k hk (hts _ hw) (fun _ h9 => h9) hfin (fc.2.2.1 k hk) hn hfit hl0 hdg (fun H locs hP hD hS => kk H locs ls hl hP hD hS)
theorem J_putF (F : Fx p l s m args meth c G A own cc n ret) {ci N ix a : Nat} {C ref : String} {T : u_T} {ty : Nat → FieldType} {fs : List Value} {v : Value} {ws2 : va_W} (fc : FC ci C T N ty) (hinit : meth.name = "<init>") (q0 k : Nat) (he : ws[q0]? = some (a, .inr (ci, fs))) (hk : k < N) (hw : Cond.fieldLink own ix ref (T k).2.1 (T k).2.2.1 ∈ TBL) (href : (T k).1 = ref) (hfin : (T k).2.2.2 = true) (hdecl : (T k).1 = own) (hn : narrow (ty k) v = v) (hfit : fits (ty k) v = true) (hl0 : k < fs.length) (h2 : ws.set q0 (a, .inr (ci, fs.set k v)) = ws2) (hdg : decode cc pc = .ok (.putfield ix, 3)) (kk : J p l e R s m args below meth c G A n Q kc ks (pc + 3) lv st ws2) : J p l e R s m args below meth c G A n Q kc ks pc lv (v :: .ref a :: st) ws := by
  subst href; subst h2
  obtain ⟨hx, hb, hml, hown, hts, hK, hE, hA, hlk, hr, hst⟩ := F
  intro H locs ls hl hP hD hS
  exact va_putF hx hb hts fc.2.1 ty fc.2.2.1 fc.2.2.2 hown hK hP hD hS q0 he fc.1 k hk (hts _ hw) (fun _ h9 => h9) hfin hinit hdecl (fc.2.2.1 k hk) hn hfit hl0 hdg (fun H locs hP hD hS => kk H locs ls hl hP hD hS)
theorem J_iald (F : Fx p l s m args meth c G A own cc n ret) {a N i : Nat} {f : Nat → Int32} (q0 : Nat) (he : ws[q0]? = some (a, .inl (gI G, N, .inl f))) (hi : i < N) (hN : N < 2 ^ 31) (hdg : decode cc pc = .ok (.iaload, 1)) (kk : J p l e R s m args below meth c G A n Q kc ks (pc + 1) lv (.int (f i) :: st) ws) : J p l e R s m args below meth c G A n Q kc ks pc lv (.int (nI i) :: .ref a :: st) ws := by
  obtain ⟨hx, hb, hml, hown, hts, hK, hE, hA, hlk, hr, hst⟩ := F
  intro H locs ls hl hP hD hS
  refine va_iald hx hb hK hP q0 0 he rfl (vp_in_nI hi hN) hdg ?_
  rw [nI_clamp (Nat.lt_trans hi hN)]
  exact kk H locs ls hl hP hD hS
theorem J_zald (F : Fx p l s m args meth c G A own cc n ret) {a N i : Nat} {f : Nat → Int32} (q0 : Nat) (he : ws[q0]? = some (a, .inl (gZ G, N, .inl f))) (hi : i < N) (hN : N < 2 ^ 31) (hdg : decode cc pc = .ok (.baload, 1)) (kk : J p l e R s m args below meth c G A n Q kc ks (pc + 1) lv (.int (f i) :: st) ws) : J p l e R s m args below meth c G A n Q kc ks pc lv (.int (nI i) :: .ref a :: st) ws := by
  obtain ⟨hx, hb, hml, hown, hts, hK, hE, hA, hlk, hr, hst⟩ := F
  intro H locs ls hl hP hD hS
  refine va_zald hx hb hK hP q0 2 he rfl (vp_in_nI hi hN) hdg ?_
  rw [nI_clamp (Nat.lt_trans hi hN)]
  exact kk H locs ls hl hP hD hS
theorem J_lald (F : Fx p l s m args meth c G A own cc n ret) {a N i : Nat} {f : Nat → Int64} (q0 : Nat) (he : ws[q0]? = some (a, .inl (gJ G, N, .inr (.inl f)))) (hi : i < N) (hN : N < 2 ^ 31) (hdg : decode cc pc = .ok (.laload, 1)) (kk : J p l e R s m args below meth c G A n Q kc ks (pc + 1) lv (.long (f i) :: st) ws) : J p l e R s m args below meth c G A n Q kc ks pc lv (.int (nI i) :: .ref a :: st) ws := by
  obtain ⟨hx, hb, hml, hown, hts, hK, hE, hA, hlk, hr, hst⟩ := F
  intro H locs ls hl hP hD hS
  refine va_lald hx hb hK hP q0 1 he rfl (vp_in_nI hi hN) hdg ?_
  rw [nI_clamp (Nat.lt_trans hi hN)]
  exact kk H locs ls hl hP hD hS
theorem J_iast (F : Fx p l s m args meth c G A own cc n ret) {a N i : Nat} {f : Nat → Int32} {x : Int32} {ws2 : va_W} (q0 : Nat) (he : ws[q0]? = some (a, .inl (gI G, N, .inl f))) (hi : i < N) (hN : N < 2 ^ 31) (h2 : ws.set q0 (a, .inl (gI G, N, .inl (upd f i x))) = ws2) (hdg : decode cc pc = .ok (.iastore, 1)) (kk : J p l e R s m args below meth c G A n Q kc ks (pc + 1) lv st ws2) : J p l e R s m args below meth c G A n Q kc ks pc lv (.int x :: .int (nI i) :: .ref a :: st) ws := by
  subst h2
  obtain ⟨hx, hb, hml, hown, hts, hK, hE, hA, hlk, hr, hst⟩ := F
  intro H locs ls hl hP hD hS
  refine va_iast hx hb hK hP hD hS q0 0 he rfl (vp_in_nI hi hN) hdg ?_
  rw [nI_clamp (Nat.lt_trans hi hN)]
  exact fun H locs hP hD hS => kk H locs ls hl hP hD hS
theorem J_last (F : Fx p l s m args meth c G A own cc n ret) {a N i : Nat} {f : Nat → Int64} {x : Int64} {ws2 : va_W} (q0 : Nat) (he : ws[q0]? = some (a, .inl (gJ G, N, .inr (.inl f)))) (hi : i < N) (hN : N < 2 ^ 31) (h2 : ws.set q0 (a, .inl (gJ G, N, .inr (.inl (vp_updL f i x)))) = ws2) (hdg : decode cc pc = .ok (.lastore, 1)) (kk : J p l e R s m args below meth c G A n Q kc ks (pc + 1) lv st ws2) : J p l e R s m args below meth c G A n Q kc ks pc lv (.long x :: .int (nI i) :: .ref a :: st) ws := by
  subst h2
  obtain ⟨hx, hb, hml, hown, hts, hK, hE, hA, hlk, hr, hst⟩ := F
  intro H locs ls hl hP hD hS
  refine va_last hx hb hK hP hD hS q0 1 he rfl (vp_in_nI hi hN) hdg ?_
  rw [nI_clamp (Nat.lt_trans hi hN)]
  exact fun H locs hP hD hS => kk H locs ls hl hP hD hS
theorem J_zast (F : Fx p l s m args meth c G A own cc n ret) {a N i : Nat} {f : Nat → Int32} {x : Int32} {ws2 : va_W} (q0 : Nat) (he : ws[q0]? = some (a, .inl (gZ G, N, .inl f))) (hi : i < N) (hN : N < 2 ^ 31) (hx01 : vp_nar .boolean x = x) (h2 : ws.set q0 (a, .inl (gZ G, N, .inl (upd f i x))) = ws2) (hdg : decode cc pc = .ok (.bastore, 1)) (kk : J p l e R s m args below meth c G A n Q kc ks (pc + 1) lv st ws2) : J p l e R s m args below meth c G A n Q kc ks pc lv (.int x :: .int (nI i) :: .ref a :: st) ws := by
  subst h2
  obtain ⟨hx, hb, hml, hown, hts, hK, hE, hA, hlk, hr, hst⟩ := F
  intro H locs ls hl hP hD hS
  refine va_zast hx hb hK hP hD hS q0 2 he rfl (vp_in_nI hi hN) hdg ?_
  rw [nI_clamp (Nat.lt_trans hi hN), hx01]
  exact fun H locs hP hD hS => kk H locs ls hl hP hD hS
theorem J_sald (F : Fx p l s m args meth c G A own cc n ret) {a N i b : Nat} {f : Nat → Option Nat} (q0 : Nat) (he : ws[q0]? = some (a, .inl (gS G, N, .inr (.inr (.inr (.inr f)))))) (hi : i < N) (hN : N < 2 ^ 31) (hb0 : f i = some b) (hdg : decode cc pc = .ok (.aaload, 1)) (kk : J p l e R s m args below meth c G A n Q kc ks (pc + 1) lv (.ref b :: st) ws) : J p l e R s m args below meth c G A n Q kc ks pc lv (.int (nI i) :: .ref a :: st) ws := by
  obtain ⟨hx, hb, hml, hown, hts, hK, hE, hA, hlk, hr, hst⟩ := F
  intro H locs ls hl hP hD hS
  refine va_aldq hx hb hK hP q0 3 he (C := "SeasonalAdjuster$Series") rfl (vp_in_nI hi hN) hdg ?_
  rw [nI_clamp (Nat.lt_trans hi hN), hb0]
  exact kk H locs ls hl hP hD hS
theorem J_sast (F : Fx p l s m args meth c G A own cc n ret) {a N i v : Nat} {f : Nat → Option Nat} {vs : List Value} {ws2 : va_W} (q0 qk : Nat) (he : ws[q0]? = some (a, .inl (gS G, N, .inr (.inr (.inr (.inr f)))))) (hv : ws[qk]? = some (v, .inr (2, vs))) (hi : i < N) (hN : N < 2 ^ 31) (h2 : ws.set q0 (a, .inl (gS G, N, .inr (.inr (.inr (.inr (va_up f i (some v))))))) = ws2) (hdg : decode cc pc = .ok (.aastore, 1)) (kk : J p l e R s m args below meth c G A n Q kc ks (pc + 1) lv st ws2) : J p l e R s m args below meth c G A n Q kc ks pc lv (.ref v :: .int (nI i) :: .ref a :: st) ws := by
  subst h2
  obtain ⟨hx, hb, hml, hown, hts, hK, hE, hA, hlk, hr, hst⟩ := F
  intro H locs ls hl hP hD hS
  refine va_astq hx hb hK hP hD hS q0 3 qk 2 he (r := (RX2, TX2, 7)) rfl hv rfl (vp_in_nI hi hN) hdg ?_
  rw [nI_clamp (Nat.lt_trans hi hN)]
  exact fun H locs hP hD hS => kk H locs ls hl hP hD hS
theorem J_new (F : Fx p l s m args meth c G A own cc n ret) {ci N ix : Nat} {C : String} {T : u_T} {ty : Nat → FieldType} {fs : List Value} (fc : FC ci C T N ty) (hw : Cond.classLink own ix C ∈ TBL) (hw2 : Cond.instantiable C N ∈ TBL) (hw3 : Cond.initialized C ∈ TBL) (hfs : ∀ j, j < N → defaultValue (ty j) = vp_V fs j) (hc : kc + 1 ≤ R.cells) (hs : ks + N ≤ R.slots) (hdg : decode cc pc = .ok (.new ix, 3)) (kk : ∀ q : Nat, J p l e R s m args below meth c G A n Q (kc + 1) (ks + N) (pc + 3) lv (.ref q :: st) (ws ++ [(q, .inr (ci, fs))])) : J p l e R s m args below meth c G A n Q kc ks pc lv st ws := by
  obtain ⟨hx, hb, hml, hown, hts, hK, hE, hA, hlk, hr, hst⟩ := F
  intro H locs ls hl hP hD hS
  exact va_new hx hb hts fc.2.1 ty fc.2.2.1 hown (hts _ hw) (hts _ hw2) (hts _ hw3) hK hP hD hS hA fc.1 hfs hc hs hdg (fun q H hP hD hS => kk q H locs ls hl hP hD hS)
theorem gT_arr {s : State} {G : Gt} (hK : va_K (gD G) vwCl (gT G) s) (k : Nat) {cA cB : ClassId} {ty : FieldType} (h : (gT G)[k]? = some (cA, ty)) (hRB : va_RA s cB ty) : cB = cA := by
  have hRA := (hK.2 k _ h).2
  cases ty with
  | object C =>
    obtain ⟨_, _, _, _, _, h1⟩ := hRA
    obtain ⟨_, _, _, _, _, h2⟩ := hRB
    exact Option.some.inj (h2.symm.trans h1)
  | _ =>
    exact Option.some.inj (hRB.symm.trans hRA)
theorem J_newI (F : Fx p l s m args meth c G A own cc n ret) {N : Nat} (hw : Cond.arrayClass .int ∈ TBL) (hN : N < 1000) (hc : kc + 1 ≤ R.cells) (hs : ks + N ≤ R.slots) (hdg : decode cc pc = .ok (.newarray .int, 2)) (kk : ∀ q : Nat, J p l e R s m args below meth c G A n Q (kc + 1) (ks + N) (pc + 2) lv (.ref q :: st) (ws ++ [(q, .inl (gI G, N, .inl (fun _ => 0)))])) : J p l e R s m args below meth c G A n Q kc ks pc lv (.int (nI N) :: st) ws := by
  obtain ⟨hx, hb, hml, hown, hts, hK, hE, hA, hlk, hr, hst⟩ := F
  intro H locs ls hl hP hD hS
  refine va_newa (atype := .int) (ty := .int) (a0 := (N, .inl (fun _ => 0))) hx hb (hts _ hw) rfl hK hP hD hS hA (fun cA => rfl) (nI_pos (by omega)) (nI_clamp (by omega)) (Nat.le_trans (Nat.mul_le_mul (Nat.le_of_lt hN) (show componentBytes .int ≤ 8 by decide)) (by decide)) hc hs hdg (fun q cA H hK2 hP hD hS => ?_)
  have e1 : cA = gI G := gT_arr hK 0 rfl (hK2.2 4 (cA, .int) rfl).2
  subst e1
  exact kk q H locs ls hl hP hD hS
theorem J_newJ (F : Fx p l s m args meth c G A own cc n ret) {N : Nat} (hw : Cond.arrayClass .long ∈ TBL) (hN : N < 1000) (hc : kc + 1 ≤ R.cells) (hs : ks + N ≤ R.slots) (hdg : decode cc pc = .ok (.newarray .long, 2)) (kk : ∀ q : Nat, J p l e R s m args below meth c G A n Q (kc + 1) (ks + N) (pc + 2) lv (.ref q :: st) (ws ++ [(q, .inl (gJ G, N, .inr (.inl (fun _ => 0))))])) : J p l e R s m args below meth c G A n Q kc ks pc lv (.int (nI N) :: st) ws := by
  obtain ⟨hx, hb, hml, hown, hts, hK, hE, hA, hlk, hr, hst⟩ := F
  intro H locs ls hl hP hD hS
  refine va_newa (atype := .long) (ty := .long) (a0 := (N, .inr (.inl (fun _ => 0)))) hx hb (hts _ hw) rfl hK hP hD hS hA (fun cA => rfl) (nI_pos (by omega)) (nI_clamp (by omega)) (Nat.le_trans (Nat.mul_le_mul (Nat.le_of_lt hN) (show componentBytes .long ≤ 8 by decide)) (by decide)) hc hs hdg (fun q cA H hK2 hP hD hS => ?_)
  have e1 : cA = gJ G := gT_arr hK 1 rfl (hK2.2 4 (cA, .long) rfl).2
  subst e1
  exact kk q H locs ls hl hP hD hS
theorem J_newZ (F : Fx p l s m args meth c G A own cc n ret) {N : Nat} (hw : Cond.arrayClass .boolean ∈ TBL) (hN : N < 1000) (hc : kc + 1 ≤ R.cells) (hs : ks + N ≤ R.slots) (hdg : decode cc pc = .ok (.newarray .boolean, 2)) (kk : ∀ q : Nat, J p l e R s m args below meth c G A n Q (kc + 1) (ks + N) (pc + 2) lv (.ref q :: st) (ws ++ [(q, .inl (gZ G, N, .inl (fun _ => 0)))])) : J p l e R s m args below meth c G A n Q kc ks pc lv (.int (nI N) :: st) ws := by
  obtain ⟨hx, hb, hml, hown, hts, hK, hE, hA, hlk, hr, hst⟩ := F
  intro H locs ls hl hP hD hS
  refine va_newa (atype := .boolean) (ty := .boolean) (a0 := (N, .inl (fun _ => 0))) hx hb (hts _ hw) rfl hK hP hD hS hA (fun cA => rfl) (nI_pos (by omega)) (nI_clamp (by omega)) (Nat.le_trans (Nat.mul_le_mul (Nat.le_of_lt hN) (show componentBytes .boolean ≤ 8 by decide)) (by decide)) hc hs hdg (fun q cA H hK2 hP hD hS => ?_)
  have e1 : cA = gZ G := gT_arr hK 2 rfl (hK2.2 4 (cA, .boolean) rfl).2
  subst e1
  exact kk q H locs ls hl hP hD hS
theorem J_newS (F : Fx p l s m args meth c G A own cc n ret) {N ix : Nat} (hw : Cond.classLink own ix "SeasonalAdjuster$Series" ∈ TBL) (hN : N < 1000) (hc : kc + 1 ≤ R.cells) (hs : ks + N ≤ R.slots) (hdg : decode cc pc = .ok (.anewarray ix, 3)) (kk : ∀ q : Nat, J p l e R s m args below meth c G A n Q (kc + 1) (ks + N) (pc + 3) lv (.ref q :: st) (ws ++ [(q, .inl (gS G, N, .inr (.inr (.inr (.inr (fun _ => none))))))])) : J p l e R s m args below meth c G A n Q kc ks pc lv (.int (nI N) :: st) ws := by
  obtain ⟨hx, hb, hml, hown, hts, hK, hE, hA, hlk, hr, hst⟩ := F
  intro H locs ls hl hP hD hS
  have hE2 := hE
  obtain ⟨-, -, -, -, -, -, hAO, -⟩ := hE2
  refine va_newq (C := "SeasonalAdjuster$Series") hx hb hown (hts _ hw) hAO hK hP hD hS hA (nI_pos (by omega)) (nI_clamp (by omega)) (by omega) hc hs hdg (fun q cA H hK2 hP hD hS => ?_)
  have e1 : cA = gS G := gT_arr hK 3 rfl (hK2.2 4 (cA, .object "SeasonalAdjuster$Series") rfl).2
  subst e1
  exact kk q H locs ls hl hP hD hS
theorem J_objInit (F : Fx p l s m args meth c G A own cc n ret) {ix a : Nat} (hw : Cond.methodLink own ix Lib.objectInit ∈ TBL) (hw2 : Cond.instanceMethod Lib.objectInit ∈ TBL) (hw3 : Cond.code Lib.objectInit ⟨#[0xb1]⟩ 1 none ∈ TBL) (hR : 1 ≤ R.frames ∧ (st.map fun v => v.category).sum + 12 ≤ R.locals) (hdg : decode cc pc = .ok (.invokespecial ix, 3)) (k : J p l e R s m args below meth c G A n Q kc ks (pc + 3) lv st ws) : J p l e R s m args below meth c G A n Q kc ks pc lv (.ref a :: st) ws := by
  obtain ⟨hx, hb, hml, hown, hts, hK, hE, hA, hlk, hr, hst⟩ := F
  intro H locs ls hl hP hD hS
  exact W.objInit hx hb hown (hts _ hw) (hts _ hw2) (hts _ hw3) rfl (by rw [hml]; exact hl.1) rfl hdg hR.1 (by show 2 * 0 + _ + 12 ≤ _; omega) (k H locs ls hl hP hD hS)
theorem J_mmaxl (F : Fx p l s m args meth c G A own cc n ret) {ix : Nat} {x y v : Int64} (hw : Cond.methodLink own ix Lib.MathLoose.max_long.x ∈ TBL) (hw2 : Cond.static Lib.MathLoose.max_long.x ∈ TBL) (hw3 : Cond.initialized "java/lang/Math" ∈ TBL) (hw4 : Cond.code Lib.MathLoose.max_long.x Lib.MathLoose.max_long.code 4 (some .long) ∈ TBL) (hR : 1 ≤ R.frames ∧ (st.map fun v => v.category).sum + 15 ≤ R.locals ∧ kc ≤ R.cells ∧ ks ≤ R.slots) (hv : (if y < x then x else y) = v) (hdg : decode cc pc = .ok (.invokestatic ix, 3)) (k : J p l e R s m args below meth c G A n Q kc ks (pc + 3) lv (.long v :: st) ws) : J p l e R s m args below meth c G A n Q kc ks pc lv (.long y :: .long x :: st) ws := by
  subst hv
  obtain ⟨hx, hb, hml, hown, hts, hK, hE, hA, hlk, hr, hst⟩ := F
  intro H locs ls hl hP hD hS
  exact va_mmax_long hx hb (by rw [hml]; exact hl.1.symm) hown (hts _ hw) (hts _ hw2) (hts _ hw3) (hts _ hw4) hR.1 hR.2.1 hR.2.2.1 hR.2.2.2 hdg (k H locs ls hl hP hD hS)
theorem J_mminl (F : Fx p l s m args meth c G A own cc n ret) {ix : Nat} {x y v : Int64} (hw : Cond.methodLink own ix Lib.MathLoose.min_long.x ∈ TBL) (hw2 : Cond.static Lib.MathLoose.min_long.x ∈ TBL) (hw3 : Cond.initialized "java/lang/Math" ∈ TBL) (hw4 : Cond.code Lib.MathLoose.min_long.x Lib.MathLoose.min_long.code 4 (some .long) ∈ TBL) (hR : 1 ≤ R.frames ∧ (st.map fun v => v.category).sum + 15 ≤ R.locals ∧ kc ≤ R.cells ∧ ks ≤ R.slots) (hv : (if y < x then y else x) = v) (hdg : decode cc pc = .ok (.invokestatic ix, 3)) (k : J p l e R s m args below meth c G A n Q kc ks (pc + 3) lv (.long v :: st) ws) : J p l e R s m args below meth c G A n Q kc ks pc lv (.long y :: .long x :: st) ws := by
  subst hv
  obtain ⟨hx, hb, hml, hown, hts, hK, hE, hA, hlk, hr, hst⟩ := F
  intro H locs ls hl hP hD hS
  exact va_mmin_long hx hb (by rw [hml]; exact hl.1.symm) hown (hts _ hw) (hts _ hw2) (hts _ hw3) (hts _ hw4) hR.1 hR.2.1 hR.2.2.1 hR.2.2.2 hdg (k H locs ls hl hP hD hS)
theorem J_mabsl (F : Fx p l s m args meth c G A own cc n ret) {ix : Nat} {x v : Int64} (hw : Cond.methodLink own ix Lib.MathLoose.abs_long.x ∈ TBL) (hw2 : Cond.static Lib.MathLoose.abs_long.x ∈ TBL) (hw3 : Cond.initialized "java/lang/Math" ∈ TBL) (hw4 : Cond.code Lib.MathLoose.abs_long.x Lib.MathLoose.abs_long.code 2 (some .long) ∈ TBL) (hR : 1 ≤ R.frames ∧ (st.map fun v => v.category).sum + 13 ≤ R.locals ∧ kc ≤ R.cells ∧ ks ≤ R.slots) (hv : (if 0 < x then x else -x) = v) (hdg : decode cc pc = .ok (.invokestatic ix, 3)) (k : J p l e R s m args below meth c G A n Q kc ks (pc + 3) lv (.long v :: st) ws) : J p l e R s m args below meth c G A n Q kc ks pc lv (.long x :: st) ws := by
  subst hv
  obtain ⟨hx, hb, hml, hown, hts, hK, hE, hA, hlk, hr, hst⟩ := F
  intro H locs ls hl hP hD hS
  exact va_mabs_long hx hb (by rw [hml]; exact hl.1.symm) hown (hts _ hw) (hts _ hw2) (hts _ hw3) (hts _ hw4) hR.1 hR.2.1 hR.2.2.1 hR.2.2.2 hdg (k H locs ls hl hP hD hS)
theorem J_mmaxi (F : Fx p l s m args meth c G A own cc n ret) {ix : Nat} {x y v : Int32} (hw : Cond.methodLink own ix Lib.Math.max.name ∈ TBL) (hw2 : Cond.static Lib.Math.max.name ∈ TBL) (hw3 : Cond.initialized "java/lang/Math" ∈ TBL) (hw4 : Cond.code Lib.Math.max.name Lib.Math.max.code 2 (some .int) ∈ TBL) (hR : 1 ≤ R.frames ∧ (st.map fun v => v.category).sum + 13 ≤ R.locals ∧ kc ≤ R.cells ∧ ks ≤ R.slots) (hv : (if x < y then y else x) = v) (hdg : decode cc pc = .ok (.invokestatic ix, 3)) (k : J p l e R s m args below meth c G A n Q kc ks (pc + 3) lv (.int v :: st) ws) : J p l e R s m args below meth c G A n Q kc ks pc lv (.int y :: .int x :: st) ws := by
  subst hv
  obtain ⟨hx, hb, hml, hown, hts, hK, hE, hA, hlk, hr, hst⟩ := F
  intro H locs ls hl hP hD hS
  exact va_mmax hx hb (by rw [hml]; exact hl.1.symm) hown (hts _ hw) (hts _ hw2) (hts _ hw3) (hts _ hw4) hR.1 hR.2.1 hR.2.2.1 hR.2.2.2 hdg (k H locs ls hl hP hD hS)
theorem J_mmini (F : Fx p l s m args meth c G A own cc n ret) {ix : Nat} {x y v : Int32} (hw : Cond.methodLink own ix Lib.Math.min.name ∈ TBL) (hw2 : Cond.static Lib.Math.min.name ∈ TBL) (hw3 : Cond.initialized "java/lang/Math" ∈ TBL) (hw4 : Cond.code Lib.Math.min.name Lib.Math.min.code 2 (some .int) ∈ TBL) (hR : 1 ≤ R.frames ∧ (st.map fun v => v.category).sum + 13 ≤ R.locals ∧ kc ≤ R.cells ∧ ks ≤ R.slots) (hv : (if y < x then y else x) = v) (hdg : decode cc pc = .ok (.invokestatic ix, 3)) (k : J p l e R s m args below meth c G A n Q kc ks (pc + 3) lv (.int v :: st) ws) : J p l e R s m args below meth c G A n Q kc ks pc lv (.int y :: .int x :: st) ws := by
  subst hv
  obtain ⟨hx, hb, hml, hown, hts, hK, hE, hA, hlk, hr, hst⟩ := F
  intro H locs ls hl hP hD hS
  exact va_mmin hx hb (by rw [hml]; exact hl.1.symm) hown (hts _ hw) (hts _ hw2) (hts _ hw3) (hts _ hw4) hR.1 hR.2.1 hR.2.2.1 hR.2.2.2 hdg (k H locs ls hl hP hD hS)
theorem J_locs {lv2 : List (Nat × Value)} (ks0 : List Nat) (h : lv_pick lv ks0 = lv2) (k : J p l e R s m args below meth c G A n Q kc ks pc lv2 st ws) : J p l e R s m args below meth c G A n Q kc ks pc lv st ws := fun H locs ls hl hP hD hS => k H locs ls (lv_sub hl ks0 h) hP hD hS
theorem pick_all {ws ws2 : va_W} {is : List Nat} (h : is.map (fun i => ws[i]?) = ws2.map some) : is.filterMap (fun i => ws[i]?) = ws2 := by
  have h1 : is.filterMap (fun i => ws[i]?) = (is.map (fun i => ws[i]?)).filterMap id := by rw [List.filterMap_map]; rfl
  rw [h1, h, List.filterMap_map]
  have h2 : (id ∘ some : Nat × va_E → Option (Nat × va_E)) = some := rfl
  rw [h2]
  exact List.filterMap_some
theorem J_world {ws2 : va_W} (is : List Nat) (hn : va_nd is = true) (h : is.map (fun i => ws[i]?) = ws2.map some) (k : J p l e R s m args below meth c G A n Q kc ks pc lv st ws2) : J p l e R s m args below meth c G A n Q kc ks pc lv st ws := fun H locs ls hl hP hD hS => k H locs ls hl (hP.sub is (pick_all h)) (hD.sub is hn h) hS
theorem J_widen (kc2 ks2 : Nat) (h1 : kc ≤ kc2) (h2 : ks ≤ ks2) (k : J p l e R s m args below meth c G A n Q kc2 ks2 pc lv st ws) : J p l e R s m args below meth c G A n Q kc ks pc lv st ws := fun H locs ls hl hP hD hS => W.widen h1 h2 (k H locs ls hl hP hD hS)
theorem J_cast {lv2 : List (Nat × Value)} {st2 : List Value} {ws2 : va_W} (h1 : lv = lv2) (h2 : st = st2) (h3 : ws = ws2) (k : J p l e R s m args below meth c G A n Q kc ks pc lv2 st2 ws2) : J p l e R s m args below meth c G A n Q kc ks pc lv st ws := by
  subst h1; subst h2; subst h3
  exact k
theorem J_iret {post : Option Value → va_W → Prop} {mc ms : Nat} {v : Int32} (F : Fx p l s m args meth c G A own cc n (some .int)) (hp : post (some (.int v)) ws) (hc : kc ≤ mc) (hs : ks ≤ ms) (hdg : decode cc pc = .ok (.ireturn, 1)) : J p l e R s m args below meth c G A n (JQ below G A post args s mc ms) kc ks pc lv [.int v] ws := by
  obtain ⟨hx, hb, hml, hown, hts, hK, hE, hA, hlk, hr, hst⟩ := F
  intro H locs ls hl hP hD hS
  refine W.widen hc hs ?_
  exact W.iret hx hb hr (fun t ht hW => ⟨⟨_, ws, rfl, hp, by rw [ht]; exact hP, hD⟩, hS.F ht⟩) hS.2.2 hdg hlk
theorem J_iretX {post : Option Value → va_W → Prop} {mc ms : Nat} {px : String → va_W → Prop} {v : Int32} (F : Fx p l s m args meth c G A own cc n (some .int)) (hp : post (some (.int v)) ws) (hc : kc ≤ mc) (hs : ks ≤ ms) (hdg : decode cc pc = .ok (.ireturn, 1)) : J p l e R s m args below meth c G A n (JX below G A post px args s mc ms) kc ks pc lv [.int v] ws := by
  intro H locs ls hl hP hD hS
  exact vx_ret (J_iret F hp hc hs hdg H locs ls hl hP hD hS)
theorem J_lret {post : Option Value → va_W → Prop} {mc ms : Nat} {v : Int64} (F : Fx p l s m args meth c G A own cc n (some .long)) (hp : post (some (.long v)) ws) (hc : kc ≤ mc) (hs : ks ≤ ms) (hdg : decode cc pc = .ok (.lreturn, 1)) : J p l e R s m args below meth c G A n (JQ below G A post args s mc ms) kc ks pc lv [.long v] ws := by
  obtain ⟨hx, hb, hml, hown, hts, hK, hE, hA, hlk, hr, hst⟩ := F
  intro H locs ls hl hP hD hS
  refine W.widen hc hs ?_
  exact W.lret hx hb hr (fun t ht hW => ⟨⟨_, ws, rfl, hp, by rw [ht]; exact hP, hD⟩, hS.F ht⟩) hS.2.2 hdg hlk
theorem J_lretX {post : Option Value → va_W → Prop} {mc ms : Nat} {px : String → va_W → Prop} {v : Int64} (F : Fx p l s m args meth c G A own cc n (some .long)) (hp : post (some (.long v)) ws) (hc : kc ≤ mc) (hs : ks ≤ ms) (hdg : decode cc pc = .ok (.lreturn, 1)) : J p l e R s m args below meth c G A n (JX below G A post px args s mc ms) kc ks pc lv [.long v] ws := by
  intro H locs ls hl hP hD hS
  exact vx_ret (J_lret F hp hc hs hdg H locs ls hl hP hD hS)
theorem J_vret {post : Option Value → va_W → Prop} {mc ms : Nat} (F : Fx p l s m args meth c G A own cc n none) (hp : post none ws) (hc : kc ≤ mc) (hs : ks ≤ ms) (hdg : decode cc pc = .ok (.return_, 1)) : J p l e R s m args below meth c G A n (JQ below G A post args s mc ms) kc ks pc lv [] ws := by
  obtain ⟨hx, hb, hml, hown, hts, hK, hE, hA, hlk, hr, hst⟩ := F
  intro H locs ls hl hP hD hS
  refine W.widen hc hs ?_
  exact W.vret hx hb hr (fun t ht hW => ⟨⟨_, ws, rfl, hp, by rw [ht]; exact hP, hD⟩, hS.F ht⟩) hS.2.2 hdg hlk
theorem J_vretX {post : Option Value → va_W → Prop} {mc ms : Nat} {px : String → va_W → Prop} (F : Fx p l s m args meth c G A own cc n none) (hp : post none ws) (hc : kc ≤ mc) (hs : ks ≤ ms) (hdg : decode cc pc = .ok (.return_, 1)) : J p l e R s m args below meth c G A n (JX below G A post px args s mc ms) kc ks pc lv [] ws := by
  intro H locs ls hl hP hD hS
  exact vx_ret (J_vret F hp hc hs hdg H locs ls hl hP hD hS)
theorem J_zret {post : Option Value → va_W → Prop} {mc ms : Nat} {v : Int32} (F : Fx p l s m args meth c G A own cc n (some .boolean)) (hz : narrow .boolean (.int v) = .int v) (hp : post (some (.int v)) ws) (hc : kc ≤ mc) (hs : ks ≤ ms) (hdg : decode cc pc = .ok (.ireturn, 1)) : J p l e R s m args below meth c G A n (JQ below G A post args s mc ms) kc ks pc lv [.int v] ws := by
  obtain ⟨hx, hb, hml, hown, hts, hK, hE, hA, hlk, hr, hst⟩ := F
  intro H locs ls hl hP hD hS
  refine W.widen hc hs ?_
  exact W.zret hx hb hr hz (fun t ht hW => ⟨⟨_, ws, rfl, hp, by rw [ht]; exact hP, hD⟩, hS.F ht⟩) hS.2.2 hdg hlk
theorem J_zretX {post : Option Value → va_W → Prop} {mc ms : Nat} {px : String → va_W → Prop} {v : Int32} (F : Fx p l s m args meth c G A own cc n (some .boolean)) (hz : narrow .boolean (.int v) = .int v) (hp : post (some (.int v)) ws) (hc : kc ≤ mc) (hs : ks ≤ ms) (hdg : decode cc pc = .ok (.ireturn, 1)) : J p l e R s m args below meth c G A n (JX below G A post px args s mc ms) kc ks pc lv [.int v] ws := by
  intro H locs ls hl hP hD hS
  exact vx_ret (J_zret F hz hp hc hs hdg H locs ls hl hP hD hS)
end JR
