/-! orders by insertion; hashes -/
def nsum (f : Nat → Nat) : Nat → Nat
  | 0 => 0
  | k + 1 => nsum f k + f k
def ins (f : Nat → Nat) (p x : Nat) : Nat → Nat := fun j => if j < p then f j else if j = p then x else f (j - 1)
theorem ne64 {a b : Int64} (h : a ≠ b) : a < b ∨ b < a := by
  by_cases h1 : a < b
  · exact Or.inl h1
  · exact Or.inr (Decidable.by_contra fun h2 => h (Int64.le_antisymm (Int64.not_lt.mp h2) (Int64.not_lt.mp h1)))
theorem ne32 {a b : Int32} (h : a ≠ b) : a < b ∨ b < a := by
  by_cases h1 : a < b
  · exact Or.inl h1
  · exact Or.inr (Decidable.by_contra fun h2 => h (Int32.le_antisymm (Int32.not_lt.mp h2) (Int32.not_lt.mp h1)))
theorem ins_eq (f : Nat → Nat) (p x : Nat) : ins f p x p = x := by
  unfold ins
  rw [if_neg (Nat.lt_irrefl p), if_pos rfl]
theorem nsum_congr {f f' : Nat → Nat} : ∀ {k : Nat}, (∀ j, j < k → f j = f' j) → nsum f k = nsum f' k
  | 0, _ => rfl
  | k + 1, h => by
    simp only [nsum]
    rw [nsum_congr (k := k) (fun j h1 => h j (by omega)), h k (by omega)]
theorem nsum_ins (F f : Nat → Nat) (p x : Nat) : ∀ {c : Nat}, p ≤ c → nsum (fun j => F (ins f p x j)) (c + 1) = nsum (fun j => F (f j)) c + F x := by
  intro c
  induction c with
  | zero =>
    intro h
    have : p = 0 := by omega
    subst this
    simp [nsum, ins]
  | succ c ih =>
    intro h
    rw [show nsum (fun j => F (ins f p x j)) (c + 1 + 1) = nsum (fun j => F (ins f p x j)) (c + 1) + F (ins f p x (c + 1)) from rfl]
    rcases Nat.lt_or_ge c p with h1 | h1
    · have hp : p = c + 1 := by omega
      subst hp
      have e1 : nsum (fun j => F (ins f (c + 1) x j)) (c + 1) = nsum (fun j => F (f j)) (c + 1) := nsum_congr (fun j hj => by simp only [ins]; rw [if_pos hj])
      have e2 : ins f (c + 1) x (c + 1) = x := ins_eq f (c + 1) x
      rw [e1, e2]
    · rw [ih h1]
      have e2 : ins f p x (c + 1) = f c := by simp only [ins]; rw [if_neg (by omega), if_neg (by omega)]; rfl
      rw [e2]
      simp only [nsum]
      omega
/-- a strict total order -/
def TO (R : Nat → Nat → Bool) : Prop := (∀ a b c, R a b = true → R b c = true → R a c = true) ∧ (∀ a b, a ≠ b → R a b = true ∨ R b a = true) ∧ (∀ a b, R a b = true → R b a = false)
def srt (R : Nat → Nat → Bool) (f : Nat → Nat) (c : Nat) : Prop := ∀ i j, i < j → j < c → R (f i) (f j) = true
theorem srt_ins {R : Nat → Nat → Bool} (hR : TO R) {f : Nat → Nat} {c p x : Nat} (h : srt R f c) (hp : p ≤ c) (hlo : p = 0 ∨ R (f (p - 1)) x = true) (hhi : ∀ j, p ≤ j → j < c → R x (f j) = true) : srt R (ins f p x) (c + 1) := by
  intro i j hij hj
  simp only [ins]
  by_cases h1 : i < p
  · rw [if_pos h1]
    have hx : R (f i) x = true := by
      rcases hlo with hlo | hlo
      · omega
      · by_cases e : i = p - 1
        · rw [e]; exact hlo
        · exact hR.1 _ _ _ (h i (p - 1) (by omega) (by omega)) hlo
    by_cases h2 : j < p
    · rw [if_pos h2]; exact h i j hij (by omega)
    · rw [if_neg h2]
      by_cases h3 : j = p
      · rw [if_pos h3]; exact hx
      · rw [if_neg h3]; exact h i (j - 1) (by omega) (by omega)
  · rw [if_neg h1, if_neg (show ¬ j < p by omega), if_neg (show ¬ j = p by omega)]
    by_cases h3 : i = p
    · rw [if_pos h3]; exact hhi (j - 1) (by omega) (by omega)
    · rw [if_neg h3]; exact h (i - 1) (j - 1) (by omega) (by omega)
/-- in a sorted row the i-th has just i ahead of it -/
theorem srt_rank {R : Nat → Nat → Bool} (hR : TO R) {f : Nat → Nat} {c : Nat} (h : srt R f c) {i : Nat} (hi : i < c) : nsum (fun j => if R (f j) (f i) = true then 1 else 0) c = i := by
  have key : ∀ k, k ≤ c → nsum (fun j => if R (f j) (f i) = true then 1 else 0) k = if k ≤ i then k else i := by
    intro k
    induction k with
    | zero => intro _; rfl
    | succ k ih =>
      intro hk
      simp only [nsum]
      rw [ih (by omega)]
      have hirr : ∀ a, R a a = false := fun a => by
        cases hq : R a a with
        | false => rfl
        | true => have := hR.2.2 a a hq; rw [hq] at this; exact this
      rcases Nat.lt_trichotomy k i with h1 | h1 | h1
      · rw [if_pos (h k i h1 hi), if_pos (by omega), if_pos (by omega)]
      · subst h1
        have e9 : (if R (f k) (f k) = true then 1 else 0) = 0 := by rw [hirr]; rfl
        rw [e9]
        split <;> split <;> omega
      · have := hR.2.2 _ _ (h i k h1 (by omega))
        have e9 : (if R (f k) (f i) = true then 1 else 0) = 0 := by rw [this]; rfl
        rw [e9]
        split <;> split <;> omega
  rw [key c (Nat.le_refl _), if_neg (by omega)]
def ahB (w : Nat → Int32) (ds : Nat → Int64) (t u : Nat) : Bool := if w t = w u then (if ds t = ds u then decide (t < u) else decide (ds u < ds t)) else decide (w t < w u)
def fhB (fa : Nat → Int64) (t u : Nat) : Bool := if fa t = fa u then decide (t < u) else decide (fa u < fa t)
theorem fhB_TO (fa : Nat → Int64) : TO (fhB fa) := by
  refine ⟨fun a b c h1 h2 => ?_, fun a b h => ?_, fun a b h => ?_⟩
  · unfold fhB at h1 h2 ⊢
    by_cases e1 : fa a = fa b
    · rw [if_pos e1] at h1
      by_cases e2 : fa b = fa c
      · rw [if_pos e2] at h2
        rw [if_pos (e1.trans e2)]
        simp only [decide_eq_true_eq] at *; omega
      · rw [if_neg e2] at h2
        rw [if_neg (fun z => e2 (e1.symm.trans z)), e1]; exact h2
    · rw [if_neg e1] at h1
      simp only [decide_eq_true_eq] at h1
      by_cases e2 : fa b = fa c
      · rw [if_neg (fun z => e1 (z.trans e2.symm)), ← e2]
        simp only [decide_eq_true_eq]; exact h1
      · rw [if_neg e2] at h2
        simp only [decide_eq_true_eq] at h2
        have h3 := Int64.lt_trans h2 h1
        rw [if_neg (fun z => by rw [z] at h3; exact Int64.lt_irrefl h3)]
        simp only [decide_eq_true_eq]; exact h3
  · unfold fhB
    by_cases e1 : fa a = fa b
    · rw [if_pos e1, if_pos e1.symm]
      simp only [decide_eq_true_eq]; omega
    · rw [if_neg e1, if_neg (fun z => e1 z.symm)]
      simp only [decide_eq_true_eq]
      rcases ne64 e1 with h1 | h1
      · exact Or.inr h1
      · exact Or.inl h1
  · unfold fhB at h ⊢
    by_cases e1 : fa a = fa b
    · rw [if_pos e1] at h; rw [if_pos e1.symm]
      simp only [decide_eq_true_eq, decide_eq_false_iff_not] at *; omega
    · rw [if_neg e1] at h; rw [if_neg (fun z => e1 z.symm)]
      simp only [decide_eq_true_eq, decide_eq_false_iff_not] at *
      exact Int64.lt_asymm h
theorem ahB_eq (w : Nat → Int32) (ds : Nat → Int64) (t u : Nat) : ahB w ds t u = if w t = w u then fhB ds t u else decide (w t < w u) := rfl
theorem ahB_TO (w : Nat → Int32) (ds : Nat → Int64) : TO (ahB w ds) := by
  have hf := fhB_TO ds
  refine ⟨fun a b c h1 h2 => ?_, fun a b h => ?_, fun a b h => ?_⟩
  · rw [ahB_eq] at h1 h2 ⊢
    by_cases e1 : w a = w b
    · rw [if_pos e1] at h1
      by_cases e2 : w b = w c
      · rw [if_pos e2] at h2
        rw [if_pos (e1.trans e2)]
        exact hf.1 _ _ _ h1 h2
      · rw [if_neg e2] at h2
        rw [if_neg (fun z => e2 (e1.symm.trans z)), e1]; exact h2
    · rw [if_neg e1] at h1
      simp only [decide_eq_true_eq] at h1
      by_cases e2 : w b = w c
      · rw [if_neg (fun z => e1 (z.trans e2.symm)), ← e2]
        simp only [decide_eq_true_eq]; exact h1
      · rw [if_neg e2] at h2
        simp only [decide_eq_true_eq] at h2
        have h3 := Int32.lt_trans h1 h2
        rw [if_neg (fun z => by rw [z] at h3; exact Int32.lt_irrefl h3)]
        simp only [decide_eq_true_eq]; exact h3
  · rw [ahB_eq, ahB_eq]
    by_cases e1 : w a = w b
    · rw [if_pos e1, if_pos e1.symm]; exact hf.2.1 a b h
    · rw [if_neg e1, if_neg (fun z => e1 z.symm)]
      simp only [decide_eq_true_eq]
      rcases ne32 e1 with h1 | h1
      · exact Or.inl h1
      · exact Or.inr h1
  · rw [ahB_eq] at h ⊢
    by_cases e1 : w a = w b
    · rw [if_pos e1] at h; rw [if_pos e1.symm]; exact hf.2.2 a b h
    · rw [if_neg e1] at h; rw [if_neg (fun z => e1 z.symm)]
      simp only [decide_eq_true_eq, decide_eq_false_iff_not] at *
      exact Int32.lt_asymm h
/-- 'more extreme', where the place decides nothing -/
def moB (w : Nat → Int32) (ds : Nat → Int64) (t u : Nat) : Bool := if w t = w u then decide (ds u < ds t) else decide (w t < w u)
theorem moB_t {w : Nat → Int32} {ds : Nat → Int64} {t u : Nat} (h : moB w ds t u = true) : ahB w ds t u = true := by
  unfold moB at h; unfold ahB
  by_cases e1 : w t = w u
  · rw [if_pos e1] at h ⊢
    simp only [decide_eq_true_eq] at h
    rw [if_neg (fun z => by rw [z] at h; exact Int64.lt_irrefl h)]
    simp only [decide_eq_true_eq]; exact h
  · rw [if_neg e1] at h ⊢; exact h
theorem moB_f {w : Nat → Int32} {ds : Nat → Int64} {t u : Nat} (h : moB w ds t u = false) (hu : u < t) : ahB w ds u t = true := by
  unfold moB at h; unfold ahB
  by_cases e1 : w t = w u
  · rw [if_pos e1] at h; rw [if_pos e1.symm]
    simp only [decide_eq_false_iff_not] at h
    by_cases e2 : ds u = ds t
    · rw [if_pos e2]; simp only [decide_eq_true_eq]; exact hu
    · rw [if_neg e2]; simp only [decide_eq_true_eq]
      rcases ne64 e2 with h1 | h1
      · exact absurd h1 h
      · exact h1
  · rw [if_neg e1] at h; rw [if_neg (fun z => e1 z.symm)]
    simp only [decide_eq_false_iff_not] at h
    simp only [decide_eq_true_eq]
    rcases ne32 e1 with h1 | h1
    · exact absurd h1 h
    · exact h1
/-- a sum over the outliers among k places from a on -/
def osum (w : Nat → Int32) (F : Nat → Nat) (a : Nat) : Nat → Nat
  | 0 => 0
  | k + 1 => osum w F a k + (if nI 100 ≤ w (a + k) then 0 else F (a + k))
theorem osum_step {w : Nat → Int32} {F : Nat → Nat} {a t : Nat} (h : a ≤ t) : osum w F a (t + 1 - a) = osum w F a (t - a) + (if nI 100 ≤ w t then 0 else F t) := by
  rw [show t + 1 - a = (t - a) + 1 by omega]
  simp only [osum]
  rw [show a + (t - a) = t by omega]
theorem osum_congr {w w' : Nat → Int32} {F : Nat → Nat} {a : Nat} : ∀ {k : Nat}, (∀ j, a ≤ j → j < a + k → w j = w' j) → osum w F a k = osum w' F a k
  | 0, _ => rfl
  | k + 1, h => by
    simp only [osum]
    rw [osum_congr (k := k) (fun j h1 h2 => h j h1 (by omega)), h (a + k) (by omega) (by omega)]
/-- the row of outliers: o holds their places in order -/
def OUT (w : Nat → Int32) (ds : Nat → Int64) (fr tt : Nat) (o : Nat → Int32) (pz : Nat → Nat) (c t : Nat) : Prop :=
  (∀ j, j < c → o j = nI (pz j) ∧ fr ≤ pz j ∧ pz j < t ∧ ¬ nI 100 ≤ w (pz j)) ∧ srt (ahB w ds) pz c ∧ (∀ F : Nat → Nat, osum w F fr (t - fr) = nsum (fun j => F (pz j)) c)
/-- the row of seasons by rank -/
def SEA (fa : Nat → Int64) (o : Nat → Int32) (pz : Nat → Nat) (t : Nat) : Prop :=
  (∀ j, j < t → o j = nI (pz j) ∧ pz j < t) ∧ srt (fhB fa) pz t ∧ (∀ F : Nat → Nat, nsum F t = nsum (fun j => F (pz j)) t)
/-- an insertion under way: x goes to place p or below -/
def INS (R : Nat → Nat → Bool) (o : Nat → Int32) (pz : Nat → Nat) (c p x : Nat) : Prop :=
  (∀ j, j < p → o j = nI (pz j)) ∧ (∀ j, p < j → j ≤ c → o j = nI (pz (j - 1))) ∧ (∀ j, p ≤ j → j < c → R x (pz j) = true)
theorem INS_0 {R : Nat → Nat → Bool} {o : Nat → Int32} {pz : Nat → Nat} {c x : Nat} (h : ∀ j, j < c → o j = nI (pz j)) : INS R o pz c c x := ⟨h, fun j h1 h2 => by omega, fun j h1 h2 => by omega⟩
theorem INS_step {R : Nat → Nat → Bool} {o : Nat → Int32} {pz : Nat → Nat} {c p x : Nat} (h : INS R o pz c p x) (hp : 0 < p) (hpc : p ≤ c) (hR : R x (pz (p - 1)) = true) : INS R (upd o p (o (p - 1))) pz c (p - 1) x := by
  obtain ⟨h1, h2, h3⟩ := h
  refine ⟨fun j hj => by rw [pk_un (by omega)]; exact h1 j (by omega), fun j ha hb => ?_, fun j ha hb => ?_⟩
  · by_cases e : j = p
    · subst e; rw [pk_us]; exact h1 (j - 1) (by omega)
    · rw [pk_un e]; exact h2 j (by omega) hb
  · by_cases e : j = p - 1
    · rw [e]; exact hR
    · exact h3 j (by omega) hb
theorem INS_end {R : Nat → Nat → Bool} {o : Nat → Int32} {pz : Nat → Nat} {c p x : Nat} (h : INS R o pz c p x) (hpc : p ≤ c) : ∀ j, j < c + 1 → upd o p (nI x) j = nI (ins pz p x j) := by
  obtain ⟨h1, h2, -⟩ := h
  intro j hj
  simp only [ins]
  by_cases e : j = p
  · subst e; rw [pk_us, if_neg (by omega), if_pos rfl]
  · rw [pk_un e]
    by_cases hl : j < p
    · rw [if_pos hl]; exact h1 j hl
    · rw [if_neg hl, if_neg e]; exact h2 j (by omega) (by omega)
theorem ins_all {f : Nat → Nat} {p x : Nat} {Pr : Nat → Prop} {c : Nat} (hp : p ≤ c) (h : ∀ j, j < c → Pr (f j)) (hx : Pr x) : ∀ j, j < c + 1 → Pr (ins f p x j) := by
  intro j hj
  simp only [ins]
  by_cases hl : j < p
  · rw [if_pos hl]; exact h j (by omega)
  · rw [if_neg hl]
    by_cases e : j = p
    · rw [if_pos e]; exact hx
    · rw [if_neg e]; exact h (j - 1) (by omega)
theorem nsum_one : ∀ k, nsum (fun _ => 1) k = k
  | 0 => rfl
  | k + 1 => by simp only [nsum]; rw [nsum_one k]
theorem OUT_cnt {w : Nat → Int32} {ds : Nat → Int64} {fr tt : Nat} {o : Nat → Int32} {pz : Nat → Nat} {c t : Nat} (h : OUT w ds fr tt o pz c t) : c = osum w (fun _ => 1) fr (t - fr) := by
  rw [h.2.2 (fun _ => 1), nsum_one]
theorem osum_le (w : Nat → Int32) (a : Nat) : ∀ k, osum w (fun _ => 1) a k ≤ k
  | 0 => Nat.le_refl 0
  | k + 1 => by
    have := osum_le w a k
    simp only [osum]
    split <;> omega
theorem OUT_skip {w : Nat → Int32} {ds : Nat → Int64} {fr tt : Nat} {o : Nat → Int32} {pz : Nat → Nat} {c t : Nat} (h : OUT w ds fr tt o pz c t) (hf : fr ≤ t) (hw : nI 100 ≤ w t) : OUT w ds fr tt o pz c (t + 1) := by
  obtain ⟨h1, h2, h3⟩ := h
  refine ⟨fun j hj => ⟨(h1 j hj).1, (h1 j hj).2.1, by have := (h1 j hj).2.2.1; omega, (h1 j hj).2.2.2⟩, h2, fun F => ?_⟩
  rw [osum_step hf, if_pos hw, h3 F]; rfl
theorem OUT_ins {w : Nat → Int32} {ds : Nat → Int64} {fr tt : Nat} {o o2 : Nat → Int32} {pz : Nat → Nat} {c p t : Nat} (h : OUT w ds fr tt o pz c t) (hf : fr ≤ t) (hw : ¬ nI 100 ≤ w t) (hi : INS (ahB w ds) o2 pz c p t) (hp : p ≤ c) (hlo : p = 0 ∨ ahB w ds (pz (p - 1)) t = true) : OUT w ds fr tt (upd o2 p (nI t)) (ins pz p t) (c + 1) (t + 1) := by
  obtain ⟨h1, h2, h3⟩ := h
  refine ⟨fun j hj => ⟨INS_end hi hp j hj, ?_⟩, srt_ins (ahB_TO w ds) h2 hp hlo hi.2.2, fun F => ?_⟩
  · exact ins_all (Pr := fun z => fr ≤ z ∧ z < t + 1 ∧ ¬ nI 100 ≤ w z) hp (fun j hj => ⟨(h1 j hj).2.1, by have := (h1 j hj).2.2.1; omega, (h1 j hj).2.2.2⟩) ⟨hf, by omega, hw⟩ j hj
  · rw [osum_step hf, if_neg hw, nsum_ins F pz p t hp, h3 F]
theorem SEA_ins {fa : Nat → Int64} {o o2 : Nat → Int32} {pz : Nat → Nat} {p t : Nat} (h : SEA fa o pz t) (hi : INS (fhB fa) o2 pz t p t) (hp : p ≤ t) (hlo : p = 0 ∨ fhB fa (pz (p - 1)) t = true) : SEA fa (upd o2 p (nI t)) (ins pz p t) (t + 1) := by
  obtain ⟨h1, h2, h3⟩ := h
  refine ⟨fun j hj => ⟨INS_end hi hp j hj, ?_⟩, srt_ins (fhB_TO fa) h2 hp hlo hi.2.2, fun F => ?_⟩
  · exact ins_all (Pr := fun z => z < t + 1) hp (fun j hj => by have := (h1 j hj).2; omega) (by omega) j hj
  · rw [nsum_ins F pz p t hp]
    simp only [nsum]
    rw [h3 F]
theorem fhB_t {fa : Nat → Int64} {t u : Nat} (h : ¬ fa t ≤ fa u) : fhB fa t u = true := by
  unfold fhB
  have h1 := Int64.not_le.mp h
  rw [if_neg (fun z => by rw [z] at h1; exact Int64.lt_irrefl h1)]
  simp only [decide_eq_true_eq]; exact h1
theorem fhB_f {fa : Nat → Int64} {t u : Nat} (h : fa t ≤ fa u) (hu : u < t) : fhB fa u t = true := by
  unfold fhB
  by_cases e : fa u = fa t
  · rw [if_pos e]; simp only [decide_eq_true_eq]; exact hu
  · rw [if_neg e]; simp only [decide_eq_true_eq]
    rcases ne64 e with h1 | h1
    · exact absurd h (Int64.not_le.mpr h1)
    · exact h1
theorem nI_pm1 {a b : Nat} (h : b + 1 = a) : nI a + (-1) = nI b := by
  subst h
  exact pk_m1 b
-- hashes
def hx (h x : Int64) : Int64 := 31 * h + x
def hf (f : Nat → Int64) (a : Nat) (h0 : Int64) : Nat → Int64
  | 0 => h0
  | k + 1 => hx (hf f a h0 k) (f (a + k))
def hf2 (f g : Nat → Int64) (h0 : Int64) : Nat → Int64
  | 0 => h0
  | k + 1 => hx (hx (hf2 f g h0 k) (f k)) (g k)
theorem hf_step {f : Nat → Int64} {a t : Nat} {h0 : Int64} (h : a ≤ t) : hf f a h0 (t + 1 - a) = hx (hf f a h0 (t - a)) (f t) := by
  rw [show t + 1 - a = (t - a) + 1 by omega]
  simp only [hf]
  rw [show a + (t - a) = t by omega]
def ahs (P n fr oc : Nat) (wd : Int64) (fa : Nat → Int64) (w : Nat → Int32) (s r : Nat → Int64) (h0 : Int64) : Int64 := hf2 s r (hf (xv w) fr (hx (hf fa 0 (hx h0 wd) P) (lN oc)) (n - 2 * fr)) n
