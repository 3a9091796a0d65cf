/-! constants, small laws of numbers, words by name -/
theorem ic_0 : Int32.ofInt 0 = nI 0 := by decide
theorem ic_1 : Int32.ofInt 1 = nI 1 := by decide
theorem ic_2 : Int32.ofInt 2 = nI 2 := by decide
theorem ic_3 : Int32.ofInt 3 = nI 3 := by decide
theorem ic_4 : Int32.ofInt 4 = nI 4 := by decide
theorem ic_5 : Int32.ofInt 5 = nI 5 := by decide
theorem ic_m1 : Int32.ofInt (-1) = (-1) := by decide
theorem bc_12 : (Int8.ofInt 12).toInt32 = nI 12 := by decide
theorem bc_20 : (Int8.ofInt 20).toInt32 = nI 20 := by decide
theorem bc_24 : (Int8.ofInt 24).toInt32 = nI 24 := by decide
theorem bc_31 : (Int8.ofInt 31).toInt32 = nI 31 := by decide
theorem bc_72 : (Int8.ofInt 72).toInt32 = nI 72 := by decide
theorem bc_73 : (Int8.ofInt 73).toInt32 = nI 73 := by decide
theorem bc_100 : (Int8.ofInt 100).toInt32 = nI 100 := by decide
theorem sc_220 : (Int16.ofInt 220).toInt32 = nI 220 := by decide
theorem sc_660 : (Int16.ofInt 660).toInt32 = nI 660 := by decide
theorem sc_880 : (Int16.ofInt 880).toInt32 = nI 880 := by decide
theorem dc_1000000 : (1000000 : Int32) = nI 1000000 := by decide
theorem dc_m1000000 : (-1000000 : Int32) = (-1000000) := rfl
theorem lc_0 : Int64.ofNat ((0 : Fin 2) : Nat) = 0 := by decide
theorem lc_1 : Int64.ofNat ((1 : Fin 2) : Nat) = 1 := by decide
theorem nI_inc (a : Nat) : nI a + Int32.ofInt 1 = nI (a + 1) := nI_1 a
theorem nI_inc3 (a : Nat) : nI a + Int32.ofInt 3 = nI (a + 3) := nI_add a 3
theorem nI_dec (a : Nat) (h : 1 ≤ a) : nI a + Int32.ofInt (-1) = nI (a - 1) := by
  obtain ⟨b, rfl⟩ : ∃ b, a = b + 1 := ⟨a - 1, by omega⟩
  exact pk_m1 b
theorem tw_objinit : Cond.code Lib.objectInit ⟨#[0xb1]⟩ 1 none ∈ TBL := tw_1_20
theorem tw_mmaxl : Cond.code Lib.MathLoose.max_long.x Lib.MathLoose.max_long.code 4 (some .long) ∈ TBL := tw_2_57
theorem tw_mminl : Cond.code Lib.MathLoose.min_long.x Lib.MathLoose.min_long.code 4 (some .long) ∈ TBL := tw_3_203
theorem tw_mabsl : Cond.code Lib.MathLoose.abs_long.x Lib.MathLoose.abs_long.code 2 (some .long) ∈ TBL := tw_2_64
theorem tw_mmaxi : Cond.code Lib.Math.max.name Lib.Math.max.code 2 (some .int) ∈ TBL := tw_3_43
theorem tw_mmini : Cond.code Lib.Math.min.name Lib.Math.min.code 2 (some .int) ∈ TBL := tw_3_162
theorem st_220 : ("SeasonalAdjuster", 220, "the series cannot be decomposed") ∈ strT := List.mem_of_getElem? (i := 0) rfl
theorem st_239 : ("SeasonalAdjuster", 239, "the argument is out of range") ∈ strT := List.mem_of_getElem? (i := 1) rfl
theorem st_53 : ("SeasonalAdjuster", 53, "some value is below 1") ∈ strT := List.mem_of_getElem? (i := 2) rfl
theorem st_237 : ("SeasonalAdjuster", 237, "the series is full") ∈ strT := List.mem_of_getElem? (i := 3) rfl
theorem st_225 : ("SeasonalAdjuster", 225, "there is no such entry") ∈ strT := List.mem_of_getElem? (i := 4) rfl
theorem st_235 : ("SeasonalAdjuster", 235, "the entry is missing") ∈ strT := List.mem_of_getElem? (i := 5) rfl
theorem st_100 : ("SeasonalAdjuster", 100, "there are no entries") ∈ strT := List.mem_of_getElem? (i := 6) rfl
theorem st_105 : ("SeasonalAdjuster", 105, "a season has no value to fill with") ∈ strT := List.mem_of_getElem? (i := 7) rfl
theorem st_112 : ("SeasonalAdjuster", 112, "the index is negative") ∈ strT := List.mem_of_getElem? (i := 8) rfl
theorem st_233 : ("SeasonalAdjuster", 233, "it is not defined for this entry") ∈ strT := List.mem_of_getElem? (i := 9) rfl
theorem st_155 : ("SeasonalAdjuster", 155, "there is no such outlier") ∈ strT := List.mem_of_getElem? (i := 10) rfl
theorem st_180 : ("SeasonalAdjuster", 180, "the mode is not additive") ∈ strT := List.mem_of_getElem? (i := 11) rfl
theorem st_190 : ("SeasonalAdjuster", 190, "all entries have the same number of days") ∈ strT := List.mem_of_getElem? (i := 12) rfl
theorem st_204 : ("SeasonalAdjuster", 204, "the undo stack is empty") ∈ strT := List.mem_of_getElem? (i := 13) rfl
theorem nt_SeasonalAdjuster_9 : ("SeasonalAdjuster", 9, yX2_init, "SeasonalAdjuster") ∈ nestT := List.mem_of_getElem? (i := 0) rfl
theorem nt_Decomposition_112 : ("SeasonalAdjuster$Decomposition", 112, yX3_quotient, "SeasonalAdjuster") ∈ nestT := List.mem_of_getElem? (i := 1) rfl
theorem nt_History_21 : ("SeasonalAdjuster$History", 21, yX2_init, "SeasonalAdjuster") ∈ nestT := List.mem_of_getElem? (i := 2) rfl
theorem nt_Series_58 : ("SeasonalAdjuster$Series", 58, yX3_quotient, "SeasonalAdjuster") ∈ nestT := List.mem_of_getElem? (i := 3) rfl
section JB
variable {p : Program} {l : Launch} {e : Env} {R : Room} {s : State} {m : MethodId} {args : Array Value} {below : List Frame} {meth : Method} {c : Code} {G : Gt} {A : Nat → Prop} {n : Nat} {Q : State → Prop} {kc ks : Nat}
variable {E : String} {pc : Nat} {lv : List (Nat × Value)} {st : List Value} {ws : va_W}
theorem Jx_world {ws2 : va_W} (is : List Nat) (hn : va_nd is = true) (h : is.map (fun i => ws[i]?) = ws2.map some) (k : Jx p l e R s m args below meth c G A n Q kc ks E pc lv st ws2) : Jx p l e R s m args below meth c G A n Q kc ks E pc lv st ws := fun H locs ls ce q hl hP hD hS => k H locs ls ce q hl (hP.sub is (pick_all h)) (hD.sub is hn h) hS
theorem Jx_cast {ws2 : va_W} (h : ws = ws2) (k : Jx p l e R s m args below meth c G A n Q kc ks E pc lv st ws2) : Jx p l e R s m args below meth c G A n Q kc ks E pc lv st ws := by
  subst h
  exact k
end JB
