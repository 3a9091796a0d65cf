/-! what the numbers are: the quotient, the decomposition, the searches: pure, in 64-bit arithmetic -/
def absL (a : Int64) : Int64 := if a < 0 then -a else a
def qt (a b : Int64) : Int64 := if a < 0 then -(if absL a - absL a / b * b < b - (absL a - absL a / b * b) then absL a / b else absL a / b + 1) else (if absL a - absL a / b * b < b - (absL a - absL a / b * b) then absL a / b else absL a / b + 1)
def quo (a b : Int64) : Int64 := if 0 < b then qt a b else 0
theorem quo_pos {a b : Int64} (h : 0 < b) : quo a b = qt a b := if_pos h
def xv (v : Nat → Int32) (t : Nat) : Int64 := (v t).toInt64
/-- f a + .. + f (a + k - 1), from the left -/
def sm (f : Nat → Int64) (a : Nat) : Nat → Int64
  | 0 => 0
  | k + 1 => sm f a k + f (a + k)
/-- how many gaps are below k -/
def cg (g : Nat → Int32) : Nat → Nat
  | 0 => 0
  | k + 1 => cg g k + (if g k = 0 then 0 else 1)
theorem cg_le (g : Nat → Int32) (k : Nat) : cg g k ≤ k := by
  induction k with
  | zero => exact Nat.le_refl 0
  | succ k ih => simp only [cg]; split <;> omega
theorem sm_congr {f f' : Nat → Int64} {a : Nat} : ∀ {k : Nat}, (∀ j, a ≤ j → j < a + k → f j = f' j) → sm f a k = sm f' a k
  | 0, _ => rfl
  | k + 1, h => by
    simp only [sm]
    rw [sm_congr (k := k) (fun j h1 h2 => h j h1 (by omega)), h (a + k) (by omega) (by omega)]
theorem sm_app (f : Nat → Int64) (a j : Nat) : ∀ k, sm f a (j + k) = sm f a j + sm f (a + j) k
  | 0 => by simp only [sm, Nat.add_zero, Int64.add_zero]
  | k + 1 => by
    rw [← Nat.add_assoc]
    simp only [sm]
    rw [sm_app f a j k, Nat.add_assoc, Int64.add_assoc]
-- stores read back
theorem up_lt {α : Type} {f f' s : Nat → α} {lo t : Nat} (h : ∀ j, lo ≤ j → j < t → f j = s j) (h1 : ∀ j, j ≠ t → f' j = f j) (h2 : f' t = s t) : ∀ j, lo ≤ j → j < t + 1 → f' j = s j := by
  intro j a b
  by_cases e : j = t
  · subst e; exact h2
  · rw [h1 j e]; exact h j a (by omega)
theorem up_i {f s : Nat → Int32} {lo t : Nat} {x : Int32} (h : ∀ j, lo ≤ j → j < t → f j = s j) (hx : x = s t) : ∀ j, lo ≤ j → j < t + 1 → upd f t x j = s j :=
  up_lt h (fun j e => pk_un e) (by rw [pk_us]; exact hx)
theorem up_l {f s : Nat → Int64} {lo t : Nat} {x : Int64} (h : ∀ j, lo ≤ j → j < t → f j = s j) (hx : x = s t) : ∀ j, lo ≤ j → j < t + 1 → vp_updL f t x j = s j :=
  up_lt h (fun j e => pk_uLn e) (by rw [pk_uLs]; exact hx)
-- searches: the nearest entry of t's season that has a value
def fD (P : Nat) (g : Nat → Int32) (t : Nat) : Nat → Option Nat
  | 0 => none
  | k + 1 => if k % P = t % P ∧ g k = 0 then some k else fD P g t k
def fU (P : Nat) (g : Nat → Int32) (t : Nat) : Nat → Nat → Option Nat
  | _, 0 => none
  | lo, k + 1 => if lo % P = t % P ∧ g lo = 0 then some lo else fU P g t (lo + 1) k
def dnb (P : Nat) (g : Nat → Int32) (t : Nat) : Option Nat := fD P g t t
def unb (P n : Nat) (g : Nat → Int32) (t : Nat) : Option Nat := fU P g t (t + 1) (n - (t + 1))
def oI : Option Nat → Int32
  | none => -1
  | some k => nI k
theorem mod_gap {P c j : Nat} (h : j % P = c % P) (h1 : j < c) (h2 : c < j + P) : False := by
  have h3 : (c - j) % P = 0 := by
    have := Nat.sub_mod_eq_zero_of_mod_eq (m := c) (n := j) (k := P) h.symm
    exact this
  rw [Nat.mod_eq_of_lt (by omega)] at h3
  omega
theorem fD_skip (P : Nat) (g : Nat → Int32) (t : Nat) {a : Nat} : ∀ k, (∀ j, a ≤ j → j < a + k → j % P ≠ t % P) → fD P g t (a + k) = fD P g t a
  | 0, _ => rfl
  | k + 1, h => by
    show fD P g t ((a + k) + 1) = _
    simp only [fD]
    rw [if_neg (fun z => h (a + k) (by omega) (by omega) z.1)]
    exact fD_skip P g t k (fun j h1 h2 => h j h1 (by omega))
theorem fD_low {P : Nat} {g : Nat → Int32} {t c : Nat} (hc : c % P = t % P) (h : c < P) : fD P g t c = none := by
  have := fD_skip P g t (a := 0) c (fun j _ h2 e => mod_gap (P := P) (c := c) (j := j) (e.trans hc.symm) (by omega) (by omega))
  rw [Nat.zero_add] at this
  rw [this]; rfl
theorem fD_step {P : Nat} {g : Nat → Int32} {t c : Nat} (hP : 0 < P) (hc : c % P = t % P) (h : P ≤ c) : fD P g t c = if g (c - P) = 0 then some (c - P) else fD P g t (c - P) := by
  have e : c = (c - P + 1) + (P - 1) := by omega
  have e2 : (c - P) % P = t % P := by rw [← Nat.mod_eq_sub_mod h]; exact hc
  have h1 := fD_skip P g t (a := c - P + 1) (P - 1) (fun j h1 h2 e3 => mod_gap (P := P) (c := c) (j := j) (e3.trans hc.symm) (by omega) (by omega))
  rw [← e] at h1
  rw [h1]
  simp only [fD]
  by_cases hg : g (c - P) = 0
  · rw [if_pos ⟨e2, hg⟩, if_pos hg]
  · rw [if_neg (fun z => hg z.2), if_neg hg]
theorem fU_skip (P : Nat) (g : Nat → Int32) (t : Nat) : ∀ (k lo m : Nat), (∀ j, lo ≤ j → j < lo + k → j % P ≠ t % P) → fU P g t lo (k + m) = fU P g t (lo + k) m
  | 0, lo, m, _ => by rw [Nat.zero_add, Nat.add_zero]
  | k + 1, lo, m, h => by
    rw [show k + 1 + m = (k + m) + 1 by omega]
    simp only [fU]
    rw [if_neg (fun z => h lo (by omega) (by omega) z.1), fU_skip P g t k (lo + 1) m (fun j h1 h2 => h j (by omega) (by omega))]
    congr 1; omega
/-- from c (of t's season) upwards: the next of the season is c + P -/
theorem fU_step {P n : Nat} {g : Nat → Int32} {t c : Nat} (hP : 0 < P) (hc : c % P = t % P) (h : c + P < n) : fU P g t (c + 1) (n - (c + 1)) = if g (c + P) = 0 then some (c + P) else fU P g t (c + P + 1) (n - (c + P + 1)) := by
  have h1 := fU_skip P g t (P - 1) (c + 1) (n - (c + P)) (fun j h1 h2 e3 => mod_gap (P := P) (c := j) (j := c) (hc.trans e3.symm) (by omega) (by omega))
  rw [show P - 1 + (n - (c + P)) = n - (c + 1) by omega, show c + 1 + (P - 1) = c + P by omega] at h1
  rw [h1, show n - (c + P) = (n - (c + P + 1)) + 1 by omega]
  simp only [fU]
  have e2 : (c + P) % P = t % P := by rw [Nat.add_mod_right]; exact hc
  by_cases hg : g (c + P) = 0
  · rw [if_pos ⟨e2, hg⟩, if_pos hg]
  · rw [if_neg (fun z => hg z.2), if_neg hg]
theorem fU_high {P n : Nat} {g : Nat → Int32} {t c : Nat} (hc : c % P = t % P) (h : n ≤ c + P) : fU P g t (c + 1) (n - (c + 1)) = none := by
  have h1 := fU_skip P g t (n - (c + 1)) (c + 1) 0 (fun j h1 h2 e3 => mod_gap (P := P) (c := j) (j := c) (hc.trans e3.symm) (by omega) (by omega))
  exact h1.trans rfl
theorem fD_lt {P : Nat} {g : Nat → Int32} {t : Nat} : ∀ {k a : Nat}, fD P g t k = some a → a < k ∧ g a = 0
  | 0, a, h => by cases h
  | k + 1, a, h => by
    simp only [fD] at h
    split at h
    · rename_i hk; cases h; exact ⟨by omega, hk.2⟩
    · have := fD_lt h; exact ⟨by omega, this.2⟩
theorem fU_lt {P : Nat} {g : Nat → Int32} {t : Nat} : ∀ {k lo a : Nat}, fU P g t lo k = some a → lo ≤ a ∧ a < lo + k ∧ g a = 0
  | 0, lo, a, h => by cases h
  | k + 1, lo, a, h => by
    simp only [fU] at h
    split at h
    · rename_i hk; cases h; exact ⟨by omega, by omega, hk.2⟩
    · have := fU_lt h; exact ⟨by omega, by omega, this.2.2⟩
theorem dnb_lt {P : Nat} {g : Nat → Int32} {t a : Nat} (h : dnb P g t = some a) : a < t ∧ g a = 0 := fD_lt h
theorem unb_lt {P n : Nat} {g : Nat → Int32} {t a : Nat} (h : unb P n g t = some a) : t < a ∧ a < n ∧ g a = 0 := by
  have := fU_lt h
  exact ⟨by omega, by omega, this.2.2⟩
/-- a walk down (up) the season of t that has passed all places within k -/
def ivD (P : Nat) (g : Nat → Int32) (t k : Nat) : Prop := (k ≤ t → (t - k) % P = t % P ∧ dnb P g t = fD P g t (t - k)) ∧ (t < k → dnb P g t = none)
theorem ivD_0 (P : Nat) (g : Nat → Int32) (t : Nat) : ivD P g t 0 := ⟨fun _ => ⟨rfl, rfl⟩, fun h => absurd h (Nat.not_lt_zero _)⟩
theorem ivD_end {P : Nat} {g : Nat → Int32} {t k : Nat} (h : ivD P g t k) (hlt : t < k + P) : dnb P g t = none := by
  rcases Nat.lt_or_ge t k with h8 | h8
  · exact h.2 h8
  · obtain ⟨e1, e2⟩ := h.1 h8
    exact e2.trans (fD_low e1 (by omega))
theorem ivD_miss {P : Nat} {g : Nat → Int32} {t k : Nat} (h : ivD P g t k) (hlt : t < k + P) : ivD P g t (k + P) := ⟨fun h9 => by omega, fun _ => ivD_end h hlt⟩
theorem ivD_gap {P : Nat} {g : Nat → Int32} {t k : Nat} (hP : 0 < P) (h : ivD P g t k) (hge : k + P ≤ t) (hg : ¬ g (t - (k + P)) = 0) : ivD P g t (k + P) := by
  obtain ⟨e1, e2⟩ := h.1 (by omega)
  have e3 := fD_step (g := g) hP e1 (by omega)
  rw [Nat.sub_sub, if_neg hg] at e3
  refine ⟨fun _ => ⟨?_, e2.trans e3⟩, fun h9 => by omega⟩
  rw [← Nat.sub_sub, ← Nat.mod_eq_sub_mod (by omega)]
  exact e1
theorem ivD_hit {P : Nat} {g : Nat → Int32} {t k : Nat} (hP : 0 < P) (h : ivD P g t k) (hge : k + P ≤ t) (hg : g (t - (k + P)) = 0) : dnb P g t = some (t - (k + P)) := by
  obtain ⟨e1, e2⟩ := h.1 (by omega)
  have e3 := fD_step (g := g) hP e1 (by omega)
  rw [Nat.sub_sub, if_pos hg] at e3
  exact e2.trans e3
def ivU (P n : Nat) (g : Nat → Int32) (t k : Nat) : Prop := (t + k < n → (t + k) % P = t % P ∧ unb P n g t = fU P g t (t + k + 1) (n - (t + k + 1))) ∧ (n ≤ t + k → unb P n g t = none)
theorem ivU_0 {P n : Nat} (g : Nat → Int32) {t : Nat} (h : t < n) : ivU P n g t 0 := ⟨fun _ => ⟨rfl, rfl⟩, fun h => by omega⟩
theorem ivU_end {P n : Nat} {g : Nat → Int32} {t k : Nat} (h : ivU P n g t k) (hlt : n ≤ t + (k + P)) : unb P n g t = none := by
  rcases Nat.lt_or_ge (t + k) n with h8 | h8
  · obtain ⟨e1, e2⟩ := h.1 h8
    exact e2.trans (fU_high e1 (by omega))
  · exact h.2 h8
theorem ivU_miss {P n : Nat} {g : Nat → Int32} {t k : Nat} (h : ivU P n g t k) (hlt : n ≤ t + (k + P)) : ivU P n g t (k + P) := ⟨fun h9 => by omega, fun _ => ivU_end h hlt⟩
theorem ivU_gap {P n : Nat} {g : Nat → Int32} {t k : Nat} (hP : 0 < P) (h : ivU P n g t k) (hge : t + (k + P) < n) (hg : ¬ g (t + (k + P)) = 0) : ivU P n g t (k + P) := by
  obtain ⟨e1, e2⟩ := h.1 (by omega)
  have e3 := fU_step (n := n) (g := g) hP e1 (by omega)
  rw [Nat.add_assoc t k P, if_neg hg] at e3
  refine ⟨fun _ => ⟨?_, e2.trans e3⟩, fun h9 => by omega⟩
  rw [← Nat.add_assoc, Nat.add_mod_right]
  exact e1
theorem ivU_hit {P n : Nat} {g : Nat → Int32} {t k : Nat} (hP : 0 < P) (h : ivU P n g t k) (hge : t + (k + P) < n) (hg : g (t + (k + P)) = 0) : unb P n g t = some (t + (k + P)) := by
  obtain ⟨e1, e2⟩ := h.1 (by omega)
  have e3 := fU_step (n := n) (g := g) hP e1 (by omega)
  rw [Nat.add_assoc t k P, if_pos hg] at e3
  exact e2.trans e3
theorem oI_m1 {o : Option Nat} (ho : ∀ a, o = some a → a < 72) : oI o = -1 ↔ o = none := by
  cases o with
  | none => exact ⟨fun _ => rfl, fun _ => rfl⟩
  | some k =>
    constructor
    · intro h
      have h1 : (nI k).toInt = (k : Int) := nI_toInt (by have := ho k rfl; omega)
      have h2 : oI (some k) = nI k := rfl
      rw [h2] at h
      rw [h] at h1
      have h3 : ((-1 : Int32)).toInt = -1 := by decide
      omega
    · intro h; cases h
/-- what a gap is filled with -/
def filv (P n : Nat) (v g : Nat → Int32) (t : Nat) : Int32 := match dnb P g t, unb P n g t with
  | none, none => 0
  | none, some b => v b
  | some a, none => v a
  | some a, some b => (quo (xv v a + xv v b) 2).toInt32
/-- the working days: the sum, a day's excess, the values with the effect removed -/
def exd (n : Nat) (d : Nat → Int32) (tot : Int64) (t : Nat) : Int64 := lN n * (d t).toInt64 - tot
def clampL (x : Int64) : Int64 := if (if x < 1000000 then x else 1000000) < -1000000 then -1000000 else (if x < 1000000 then x else 1000000)
def sdv (n : Nat) (v d : Nat → Int32) (B tot : Int64) (t : Nat) : Int64 := clampL (xv v t - quo (B * exd n d tot t) (1000 * lN n))
def chg (n : Nat) (v d : Nat → Int32) (B tot : Int64) : Nat → Nat
  | 0 => 0
  | k + 1 => chg n v d B tot k + (if sdv n v d B tot k = xv v k then 0 else 1)
theorem chg_le (n : Nat) (v d : Nat → Int32) (B tot : Int64) (k : Nat) : chg n v d B tot k ≤ k := by
  induction k with
  | zero => exact Nat.le_refl 0
  | succ k ih => simp only [chg]; split <;> omega
/-- some value is below 1 -/
def low (n : Nat) (v g : Nat → Int32) : Prop := ∃ t, t < n ∧ g t = 0 ∧ ¬ nI 1 ≤ v t
/-- the series can be decomposed -/
def dcm (P n : Nat) (g : Nat → Int32) : Prop := 5 ≤ n ∧ P + 2 * (P / 2) ≤ n ∧ cg g n = 0
/-- some gap has no neighbour -/
def unf (P n : Nat) (g : Nat → Int32) : Prop := ∃ t, t < n ∧ g t ≠ 0 ∧ dnb P g t = none ∧ unb P n g t = none
theorem nI_subm {a b : Nat} (h : b ≤ a) : nI a + (-1) * nI b = nI (a - b) := by
  rw [Int32.neg_mul, Int32.one_mul, ← Int32.sub_eq_add_neg]; exact pk_sub h
theorem nI_negm {a b : Nat} (h : a < b) (hb : b < 2 ^ 30) : nI a + (-1) * nI b < 0 := by
  rw [Int32.neg_mul, Int32.one_mul, ← Int32.sub_eq_add_neg]; exact pk_sneg hb h
theorem filv_congr {P n : Nat} {v v' g : Nat → Int32} {t : Nat} (ht : t < n) (h : ∀ j, j < n → g j = 0 → v' j = v j) : filv P n v' g t = filv P n v g t := by
  unfold filv
  cases hd : dnb P g t with
  | none =>
    cases hu : unb P n g t with
    | none => rfl
    | some b => have := unb_lt hu; exact h b this.2.1 this.2.2
  | some a =>
    have ha := dnb_lt hd
    cases hu : unb P n g t with
    | none => exact h a (by omega) ha.2
    | some b =>
      have := unb_lt hu
      simp only [xv]
      rw [h a (by omega) ha.2, h b this.2.1 this.2.2]
theorem nI_nm1 {a : Nat} (h : a < 2 ^ 31) : ¬ nI a = -1 := fun e => by
  have h1 := nI_toInt h
  rw [e] at h1
  have h3 : ((-1 : Int32)).toInt = -1 := by decide
  omega
def gb (n : Nat) (g : Nat → Int32) : Prop := ∀ t, t < n → vp_nar .boolean (g t) = g t
theorem cg_zero {g : Nat → Int32} {n : Nat} (h : cg g n = 0) : ∀ t, t < n → g t = 0 := by
  induction n with
  | zero => intro t ht; omega
  | succ k ih =>
    simp only [cg] at h
    intro t ht
    by_cases e : t = k
    · subst e
      by_cases hg : g t = 0
      · exact hg
      · rw [if_neg hg] at h; omega
    · exact ih (by omega) t (by omega)
