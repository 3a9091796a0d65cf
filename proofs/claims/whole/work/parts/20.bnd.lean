/-! bounds: the quotient and the decomposition as integers; no divisor is below 1 -/
theorem tI_add {a b : Int64} (h1 : -(2 ^ 63) ≤ a.toInt + b.toInt) (h2 : a.toInt + b.toInt < 2 ^ 63) : (a + b).toInt = a.toInt + b.toInt := by
  rw [Int64.toInt_add, Int.bmod_eq_of_le_mul_two (by omega) (by omega)]
theorem tI_sub {a b : Int64} (h1 : -(2 ^ 63) ≤ a.toInt - b.toInt) (h2 : a.toInt - b.toInt < 2 ^ 63) : (a - b).toInt = a.toInt - b.toInt := by
  rw [Int64.toInt_sub, Int.bmod_eq_of_le_mul_two (by omega) (by omega)]
theorem tI_mul {a b : Int64} (h1 : -(2 ^ 63) ≤ a.toInt * b.toInt) (h2 : a.toInt * b.toInt < 2 ^ 63) : (a * b).toInt = a.toInt * b.toInt := by
  rw [Int64.toInt_mul, Int.bmod_eq_of_le_mul_two (by omega) (by omega)]
theorem tI_neg {a : Int64} (h1 : -(2 ^ 63) < a.toInt) : (-a).toInt = -a.toInt := by
  have h2 := Int64.toInt_lt a
  rw [Int64.toInt_neg, Int.bmod_eq_of_le_mul_two (by omega) (by omega)]
theorem tI_abs {a : Int64} (h1 : -(2 ^ 63) < a.toInt) : (absL a).toInt = if a.toInt < 0 then -a.toInt else a.toInt := by
  unfold absL
  have h0 : (a < 0) ↔ (a.toInt < 0) := by rw [Int64.lt_iff_toInt_lt]; rfl
  by_cases h : a.toInt < 0
  · rw [if_pos (h0.mpr h), if_pos h, tI_neg h1]
  · rw [if_neg (fun z => h (h0.mp z)), if_neg h]
theorem tI_lt {a b : Int64} : a < b ↔ a.toInt < b.toInt := Int64.lt_iff_toInt_lt
theorem tI_le {a b : Int64} : a ≤ b ↔ a.toInt ≤ b.toInt := Int64.le_iff_toInt_le
/-- the rounded quotient of a number that isn't negative -/
def rq (A b : Int) : Int := if 2 * (A % b) < b then A / b else A / b + 1
theorem rq_lo {A b lo : Int} (hb : 0 < b) (h : lo * b ≤ A) : lo ≤ rq A b := by
  have h1 : lo ≤ A / b := (Int.le_ediv_iff_mul_le hb).mpr h
  unfold rq; split <;> omega
theorem rq_hi {A b hi : Int} (hb : 0 < b) (h : A ≤ hi * b) : rq A b ≤ hi := by
  have h0 : b * (A / b) + A % b = A := Int.mul_ediv_add_emod A b
  have h2 := Int.emod_nonneg A (show b ≠ 0 by omega)
  unfold rq
  split
  · have h1 : A / b ≤ hi := by
      have := Int.ediv_le_ediv hb h
      rw [Int.mul_ediv_cancel _ (by omega)] at this
      exact this
    exact h1
  · have h3 : A / b < hi := by
      refine Int.lt_of_mul_lt_mul_left (a := b) ?_ (by omega)
      have h4 : hi * b = b * hi := Int.mul_comm _ _
      omega
    omega
theorem qt_val {a b : Int64} (h1 : -(2 ^ 62) ≤ a.toInt) (h2 : a.toInt ≤ 2 ^ 62) (hb : 0 < b.toInt) : (qt a b).toInt = if a.toInt < 0 then -(rq (-a.toInt) b.toInt) else rq a.toInt b.toInt := by
  have hA := tI_abs (a := a) (by omega)
  have h0 : (a < 0) ↔ (a.toInt < 0) := by rw [Int64.lt_iff_toInt_lt]; rfl
  have hA0 : 0 ≤ (absL a).toInt := by rw [hA]; split <;> omega
  have hA1 : (absL a).toInt ≤ 2 ^ 62 := by rw [hA]; split <;> omega
  have hbl := Int64.toInt_lt b
  have key : ∀ A : Int64, 0 ≤ A.toInt → A.toInt ≤ 2 ^ 62 → (if A - A / b * b < b - (A - A / b * b) then A / b else A / b + 1).toInt = rq A.toInt b.toInt ∧ 0 ≤ rq A.toInt b.toInt ∧ rq A.toInt b.toInt ≤ 2 ^ 62 + 1 := by
    intro A g1 g2
    have e0 : b.toInt * (A.toInt / b.toInt) + A.toInt % b.toInt = A.toInt := Int.mul_ediv_add_emod _ _
    have e1 := Int.emod_nonneg A.toInt (show b.toInt ≠ 0 by omega)
    have e2 := Int.emod_lt_of_pos A.toInt hb
    have e3 : 0 ≤ A.toInt / b.toInt := Int.ediv_nonneg g1 (by omega)
    have e4 : A.toInt / b.toInt ≤ A.toInt := Int.ediv_le_self _ g1
    have q1 : (A / b).toInt = A.toInt / b.toInt := by
      rw [Int64.toInt_div, Int.tdiv_eq_ediv_of_nonneg g1, Int.bmod_eq_of_le_mul_two (by omega) (by omega)]
    have q2 : (A / b * b).toInt = b.toInt * (A.toInt / b.toInt) := by
      have e5 : (A / b).toInt * b.toInt = b.toInt * (A.toInt / b.toInt) := by rw [q1, Int.mul_comm]
      rw [tI_mul (by omega) (by omega), e5]
    have q3 : (A - A / b * b).toInt = A.toInt % b.toInt := by
      rw [tI_sub (by omega) (by omega), q2]; omega
    have q4 : (b - (A - A / b * b)).toInt = b.toInt - A.toInt % b.toInt := by
      rw [tI_sub (by omega) (by omega), q3]
    have q5 : (A / b + 1).toInt = A.toInt / b.toInt + 1 := by
      have : (1 : Int64).toInt = 1 := by decide
      rw [tI_add (by omega) (by omega), q1, this]
    have hc : (A - A / b * b < b - (A - A / b * b)) ↔ 2 * (A.toInt % b.toInt) < b.toInt := by
      rw [tI_lt, q3, q4]; omega
    unfold rq
    by_cases hh : 2 * (A.toInt % b.toInt) < b.toInt
    · rw [if_pos (hc.mpr hh), if_pos hh, q1]
      exact ⟨rfl, e3, by omega⟩
    · rw [if_neg (fun z => hh (hc.mp z)), if_neg hh, q5]
      exact ⟨rfl, by omega, by omega⟩
  obtain ⟨k1, k2, k3⟩ := key (absL a) hA0 hA1
  unfold qt
  by_cases h : a.toInt < 0
  · rw [if_pos (h0.mpr h), if_pos h]
    rw [if_pos h] at hA
    rw [tI_neg (by rw [k1]; omega), k1, hA]
  · rw [if_neg (fun z => h (h0.mp z)), if_neg h]
    rw [if_neg h] at hA
    rw [k1, hA]
theorem tI0 {b : Int64} : 0 < b ↔ 0 < b.toInt := by rw [Int64.lt_iff_toInt_lt]; rfl
theorem quo_btw {a b : Int64} {lo hi : Int} (hb : 0 < b.toInt) (h1 : -(2 ^ 62) ≤ a.toInt) (h2 : a.toInt ≤ 2 ^ 62) (hl : lo * b.toInt ≤ a.toInt) (hh : a.toInt ≤ hi * b.toInt) : lo ≤ (quo a b).toInt ∧ (quo a b).toInt ≤ hi := by
  rw [quo_pos (tI0.mpr hb), qt_val h1 h2 hb]
  by_cases h : a.toInt < 0
  · rw [if_pos h]
    have g1 := rq_lo (A := -a.toInt) (b := b.toInt) (lo := -hi) hb (by rw [Int.neg_mul]; omega)
    have g2 := rq_hi (A := -a.toInt) (b := b.toInt) (hi := -lo) hb (by rw [Int.neg_mul]; omega)
    omega
  · rw [if_neg h]
    exact ⟨rq_lo hb hl, rq_hi hb hh⟩
theorem tI_lN {n : Nat} (h : n < 2 ^ 31) : (lN n).toInt = (n : Int) := lN_toInt h
-- sums
theorem mulk {lo : Int} {k : Nat} (h1 : -(2 ^ 55) ≤ lo) (h2 : lo ≤ 2 ^ 55) (hk : k ≤ 72) : -(2 ^ 55 * 72) ≤ lo * (k : Int) ∧ lo * (k : Int) ≤ 2 ^ 55 * 72 := by
  have hk0 : (0 : Int) ≤ (k : Int) := Int.natCast_nonneg k
  have hk1 : (k : Int) ≤ 72 := by omega
  have g1 : lo * (k : Int) ≤ 2 ^ 55 * (k : Int) := Int.mul_le_mul_of_nonneg_right h2 hk0
  have g2 : -(2 ^ 55) * (k : Int) ≤ lo * (k : Int) := Int.mul_le_mul_of_nonneg_right h1 hk0
  omega
theorem sm_btw {f : Nat → Int64} {a : Nat} {lo hi : Int} (hl : -(2 ^ 55) ≤ lo) (hl2 : lo ≤ 2 ^ 55) (hh : hi ≤ 2 ^ 55) (hh2 : -(2 ^ 55) ≤ hi) : ∀ {k : Nat}, k ≤ 72 → (∀ j, a ≤ j → j < a + k → lo ≤ (f j).toInt ∧ (f j).toInt ≤ hi) → lo * (k : Int) ≤ (sm f a k).toInt ∧ (sm f a k).toInt ≤ hi * (k : Int)
  | 0, _, _ => by
    have : (sm f a 0).toInt = 0 := by show (0 : Int64).toInt = 0; decide
    rw [this]; omega
  | k + 1, hk, h => by
    obtain ⟨i1, i2⟩ := sm_btw hl hl2 hh hh2 (k := k) (by omega) (fun j h1 h2 => h j h1 (by omega))
    obtain ⟨j1, j2⟩ := h (a + k) (by omega) (by omega)
    have m1 := mulk hl hl2 (k := k) (by omega)
    have m2 := mulk (lo := hi) hh2 hh (k := k) (by omega)
    have e1 : lo * ((k + 1 : Nat) : Int) = lo * (k : Int) + lo := by rw [Int.natCast_add, Int.mul_add]; omega
    have e2 : hi * ((k + 1 : Nat) : Int) = hi * (k : Int) + hi := by rw [Int.natCast_add, Int.mul_add]; omega
    simp only [sm]
    rw [tI_add (by omega) (by omega), e1, e2]
    omega
theorem sif_btw {P s : Nat} {f : Nat → Int64} {a : Nat} {lo hi : Int} (hl : -(2 ^ 55) ≤ lo) (hl2 : lo ≤ 2 ^ 55) (hh : hi ≤ 2 ^ 55) (hh2 : -(2 ^ 55) ≤ hi) : ∀ {k : Nat}, k ≤ 72 → (∀ j, a ≤ j → j < a + k → lo ≤ (f j).toInt ∧ (f j).toInt ≤ hi) → lo * (nif P s a k : Int) ≤ (sif P s f a k).toInt ∧ (sif P s f a k).toInt ≤ hi * (nif P s a k : Int)
  | 0, _, _ => by
    have : (sif P s f a 0).toInt = 0 := by simp only [sif]; decide
    rw [this]
    simp only [nif]
    omega
  | k + 1, hk, h => by
    obtain ⟨i1, i2⟩ := sif_btw hl hl2 hh hh2 (P := P) (s := s) (k := k) (by omega) (fun j h1 h2 => h j h1 (by omega))
    obtain ⟨j1, j2⟩ := h (a + k) (by omega) (by omega)
    have hn := nif_le P s a k
    have m1 := mulk hl hl2 (k := nif P s a k) (by omega)
    have m2 := mulk (lo := hi) hh2 hh (k := nif P s a k) (by omega)
    have e1 : lo * ((nif P s a k + 1 : Nat) : Int) = lo * (nif P s a k : Int) + lo := by rw [Int.natCast_add, Int.mul_add]; omega
    have e2 : hi * ((nif P s a k + 1 : Nat) : Int) = hi * (nif P s a k : Int) + hi := by rw [Int.natCast_add, Int.mul_add]; omega
    simp only [sif, nif]
    by_cases hs : (a + k) % P = s
    · rw [if_pos hs, if_pos hs, tI_add (by omega) (by omega), e1, e2]
      omega
    · rw [if_neg hs, if_neg hs]
      exact ⟨i1, i2⟩
theorem sif_wbt {P s : Nat} {w d : Nat → Int64} {a : Nat} {lo hi : Int} (hl : -(2 ^ 40) ≤ lo) (hl2 : lo ≤ 0) (hh : hi ≤ 2 ^ 40) (hh2 : 0 ≤ hi) : ∀ {k : Nat}, k ≤ 72 → (∀ j, a ≤ j → j < a + k → (0 ≤ (w j).toInt ∧ (w j).toInt ≤ 100) ∧ lo ≤ (d j).toInt ∧ (d j).toInt ≤ hi) → lo * (sif P s w a k).toInt ≤ (sif P s (fun t => w t * d t) a k).toInt ∧ (sif P s (fun t => w t * d t) a k).toInt ≤ hi * (sif P s w a k).toInt
  | 0, _, _ => by
    have e1 : (sif P s w a 0).toInt = 0 := by simp only [sif]; decide
    have e2 : (sif P s (fun t => w t * d t) a 0).toInt = 0 := by simp only [sif]; decide
    rw [e1, e2]; omega
  | k + 1, hk, h => by
    obtain ⟨i1, i2⟩ := sif_wbt hl hl2 hh hh2 (P := P) (s := s) (w := w) (d := d) (k := k) (by omega) (fun j h1 h2 => h j h1 (by omega))
    obtain ⟨⟨w1, w2⟩, j1, j2⟩ := h (a + k) (by omega) (by omega)
    obtain ⟨s1, s2⟩ := sif_btw (P := P) (s := s) (f := w) (a := a) (lo := 0) (hi := 100) (by omega) (by omega) (by omega) (by omega) (k := k) (by omega) (fun j h1 h2 => (h j h1 (by omega)).1)
    have hn := nif_le P s a k
    simp only [sif]
    by_cases hs : (a + k) % P = s
    · rw [if_pos hs, if_pos hs]
      generalize hS : (sif P s w a k).toInt = S at *
      generalize hT : (sif P s (fun t => w t * d t) a k).toInt = T at *
      generalize hw : (w (a + k)).toInt = W at *
      generalize hd : (d (a + k)).toInt = D at *
      have b1 : W * D ≤ W * hi := Int.mul_le_mul_of_nonneg_left j2 w1
      have b2 : W * lo ≤ W * D := Int.mul_le_mul_of_nonneg_left j1 w1
      have b3 : W * hi ≤ 100 * hi := Int.mul_le_mul_of_nonneg_right w2 hh2
      have b4 : W * (-lo) ≤ 100 * (-lo) := Int.mul_le_mul_of_nonneg_right w2 (by omega)
      have b5 : hi * S ≤ hi * 7200 := Int.mul_le_mul_of_nonneg_left (by omega) hh2
      have b6 : (-lo) * S ≤ (-lo) * 7200 := Int.mul_le_mul_of_nonneg_left (by omega) (by omega)
      rw [Int.mul_neg] at b4
      rw [Int.neg_mul] at b6
      have e1 : (w (a + k) * d (a + k)).toInt = W * D := by rw [tI_mul (by rw [hw, hd]; omega) (by rw [hw, hd]; omega), hw, hd]
      rw [tI_add (by rw [hS, hw]; omega) (by rw [hS, hw]; omega), tI_add (by rw [hT, e1]; omega) (by rw [hT, e1]; omega), e1, hS, hT, hw, Int.mul_add, Int.mul_add]
      have c1 : lo * W = W * lo := Int.mul_comm _ _
      have c2 : hi * W = W * hi := Int.mul_comm _ _
      omega
    · rw [if_neg hs, if_neg hs]
      exact ⟨i1, i2⟩
-- every season is met among P places in a row
theorem nif_pos {P s a : Nat} (hP : 0 < P) (hs : s < P) {k : Nat} (hk : P ≤ k) : 0 < nif P s a k := by
  have mono : ∀ {i j : Nat}, nif P s a i ≤ nif P s a (i + j) := by
    intro i j
    induction j with
    | zero => exact Nat.le_refl _
    | succ j ih =>
      refine Nat.le_trans ih ?_
      show nif P s a (i + j) ≤ nif P s a ((i + j) + 1)
      simp only [nif]
      split <;> omega
  obtain ⟨c, hc, hc2⟩ : ∃ c, c < P ∧ (a + c) % P = s := by
    have ha := Nat.mod_lt a hP
    have hda := Nat.div_add_mod a P
    by_cases h : a % P ≤ s
    · refine ⟨s - a % P, by omega, ?_⟩
      have : a + (s - a % P) = P * (a / P) + s := by omega
      rw [this, Nat.mul_add_mod, Nat.mod_eq_of_lt hs]
    · refine ⟨P - a % P + s, by omega, ?_⟩
      have : a + (P - a % P + s) = P * (a / P + 1) + s := by rw [Nat.mul_add]; omega
      rw [this, Nat.mul_add_mod, Nat.mod_eq_of_lt hs]
  have h1 : 0 < nif P s a (c + 1) := by
    simp only [nif]
    rw [if_pos hc2]; omega
  have h2 := mono (i := c + 1) (j := k - (c + 1))
  rw [show c + 1 + (k - (c + 1)) = k by omega] at h2
  omega
/-- the values are in range -/
def GV (M n : Nat) (v : Nat → Int32) : Prop := ∀ t, t < n → (if M = 0 then -1000000 else 1) ≤ (v t).toInt ∧ (v t).toInt ≤ 1000000
theorem xv_int (v : Nat → Int32) (t : Nat) : (xv v t).toInt = (v t).toInt := Int32.toInt_toInt64 _
section DB
variable {P M n : Nat} {v w : Nat → Int32}
theorem lo_m (M : Nat) : (if M = 0 then -1000000 else 1 : Int) = -1000000 ∨ (if M = 0 then -1000000 else 1 : Int) = 1 ∧ M ≠ 0 := by
  by_cases h : M = 0
  · rw [if_pos h]; exact Or.inl rfl
  · rw [if_neg h]; exact Or.inr ⟨rfl, h⟩
theorem ft_btw (hP : 2 ≤ P) (hP12 : P ≤ 12) (hn : n ≤ 72) (hv : GV M n v) {t : Nat} (h1 : P / 2 ≤ t) (h2 : t + P / 2 < n) : (if M = 0 then -1000000 else 1) ≤ (ft P (P / 2) v t).toInt ∧ (ft P (P / 2) v t).toInt ≤ 1000000 := by
  have hlo := lo_m M
  unfold GV at hv
  generalize (if M = 0 then -1000000 else 1 : Int) = lo at *
  have hs := sm_btw (f := xv v) (a := t - P / 2 + 1) (lo := lo) (hi := 1000000) (by omega) (by omega) (by omega) (by omega) (k := 2 * (P / 2) - 1) (by omega) (fun j a1 a2 => by rw [xv_int]; exact hv j (by omega))
  have ha := hv (t - P / 2) (by omega)
  have hb := hv (t + P / 2) (by omega)
  have ek : ((2 * (P / 2) - 1 : Nat) : Int) = 2 * ((P / 2 : Nat) : Int) - 1 := by omega
  rw [ek] at hs
  generalize hS : sm (xv v) (t - P / 2 + 1) (2 * (P / 2) - 1) = S at *
  have hh : ((P / 2 : Nat) : Int) ≤ 6 := by omega
  have hh0 : (1 : Int) ≤ ((P / 2 : Nat) : Int) := by omega
  have hPl : (lN P).toInt = (P : Int) := lN_toInt (by omega)
  have c2 : (2 : Int64).toInt = 2 := by decide
  have he : (xv v (t - P / 2) + xv v (t + P / 2)).toInt = (v (t - P / 2)).toInt + (v (t + P / 2)).toInt := by
    rw [tI_add (by rw [xv_int, xv_int]; omega) (by rw [xv_int, xv_int]; omega), xv_int, xv_int]
  have dl : lo * (2 * ((P / 2 : Nat) : Int) - 1) = 2 * (lo * ((P / 2 : Nat) : Int)) - lo := by rw [Int.mul_sub, Int.mul_one, ← Int.mul_assoc, Int.mul_comm lo 2, Int.mul_assoc]
  rw [dl] at hs
  have gl : lo * ((P / 2 : Nat) : Int) ≤ 1000000 * 6 ∧ -(1000000 * 6) ≤ lo * ((P / 2 : Nat) : Int) := by
    rcases hlo with h9 | ⟨h9, -⟩ <;> subst h9 <;> omega
  unfold ft
  rw [hS]
  by_cases hp : P % 2 = 1
  · rw [if_pos hp]
    have hs2 : (S + (xv v (t - P / 2) + xv v (t + P / 2))).toInt = S.toInt + ((v (t - P / 2)).toInt + (v (t + P / 2)).toInt) := by
      rw [tI_add (by omega) (by omega), he]
    have hPP : (P : Int) = 2 * ((P / 2 : Nat) : Int) + 1 := by omega
    have dm : lo * (P : Int) = 2 * (lo * ((P / 2 : Nat) : Int)) + lo := by rw [hPP, Int.mul_add, Int.mul_one, ← Int.mul_assoc, Int.mul_comm lo 2, Int.mul_assoc]
    exact quo_btw (by rw [hPl]; omega) (by rw [hs2]; omega) (by rw [hs2]; omega) (by rw [hs2, hPl, dm]; omega) (by rw [hs2, hPl]; omega)
  · rw [if_neg hp]
    have h2S : (2 * S).toInt = 2 * S.toInt := by rw [tI_mul (by rw [c2]; omega) (by rw [c2]; omega), c2]
    have hs2 : (2 * S + (xv v (t - P / 2) + xv v (t + P / 2))).toInt = 2 * S.toInt + ((v (t - P / 2)).toInt + (v (t + P / 2)).toInt) := by
      rw [tI_add (by omega) (by omega), he, h2S]
    have h2P : (2 * lN P).toInt = 2 * (P : Int) := by rw [tI_mul (by rw [c2]; omega) (by rw [c2]; omega), c2, hPl]
    have hPP : (P : Int) = 2 * ((P / 2 : Nat) : Int) := by omega
    have dm : lo * (2 * (P : Int)) = 4 * (lo * ((P / 2 : Nat) : Int)) := by
      rw [hPP]; grind
    exact quo_btw (by rw [h2P]; omega) (by rw [hs2]; omega) (by rw [hs2]; omega) (by rw [hs2, h2P, dm]; omega) (by rw [hs2, h2P]; omega)
theorem dv_btw (hP : 2 ≤ P) (hP12 : P ≤ 12) (hn : n ≤ 72) (hv : GV M n v) {t : Nat} (h1 : P / 2 ≤ t) (h2 : t + P / 2 < n) : (if M = 0 then -10000000000 else 0) ≤ (dv P M (P / 2) v t).toInt ∧ (dv P M (P / 2) v t).toInt ≤ 10000000000 := by
  have hf := ft_btw hP hP12 hn hv h1 h2
  have hx := hv t (by omega)
  unfold dv
  by_cases hM : M = 0
  · rw [if_pos hM] at hf hx ⊢
    rw [if_pos hM, tI_sub (by rw [xv_int]; omega) (by rw [xv_int]; omega), xv_int]; omega
  · rw [if_neg hM] at hf hx ⊢
    rw [if_neg hM]
    have c1 : (10000 : Int64).toInt = 10000 := by decide
    have e1 : (10000 * xv v t).toInt = 10000 * (v t).toInt := by rw [tI_mul (by rw [c1, xv_int]; omega) (by rw [c1, xv_int]; omega), c1, xv_int]
    exact quo_btw (by omega) (by rw [e1]; omega) (by rw [e1]; omega) (by rw [e1]; omega) (by rw [e1]; omega)
/-- weights are between 0 and 100 -/
def GW (P n : Nat) (w : Nat → Int32) : Prop := ∀ t, P / 2 ≤ t → t + P / 2 < n → 0 ≤ (w t).toInt ∧ (w t).toInt ≤ 100
theorem nif_p (hP : 2 ≤ P) (hPn : P + 2 * (P / 2) ≤ n) {s : Nat} (hs : s < P) : 0 < nif P s (P / 2) (n - 2 * (P / 2)) := nif_pos (by omega) hs (by omega)
theorem sw_btw (hn : n ≤ 72) (hw : GW P n w) (s : Nat) : 0 ≤ (sif P s (xv w) (P / 2) (n - 2 * (P / 2))).toInt ∧ (sif P s (xv w) (P / 2) (n - 2 * (P / 2))).toInt ≤ 7200 := by
  have h := sif_btw (P := P) (s := s) (f := xv w) (a := P / 2) (lo := 0) (hi := 100) (by omega) (by omega) (by omega) (by omega) (k := n - 2 * (P / 2)) (by omega) (fun j h1 h2 => by rw [xv_int]; exact hw j h1 (by omega))
  have hl := nif_le P s (P / 2) (n - 2 * (P / 2))
  omega
theorem raw_btw (hP : 2 ≤ P) (hP12 : P ≤ 12) (hn : n ≤ 72) (hPn : P + 2 * (P / 2) ≤ n) (hv : GV M n v) (hw : GW P n w) {s : Nat} (hs : s < P) : (if M = 0 then -10000000000 else 0) ≤ (raw P M (P / 2) n v w s).toInt ∧ (raw P M (P / 2) n v w s).toInt ≤ 10000000000 := by
  have hd := fun t h1 h2 => dv_btw hP hP12 hn hv (t := t) h1 h2
  have hlo : (if M = 0 then -10000000000 else 0 : Int) = -10000000000 ∨ (if M = 0 then -10000000000 else 0 : Int) = 0 := by
    by_cases h : M = 0
    · rw [if_pos h]; exact Or.inl rfl
    · rw [if_neg h]; exact Or.inr rfl
  generalize (if M = 0 then -10000000000 else 0 : Int) = lo at *
  have hnp := nif_p (P := P) hP hPn hs
  have hnl := nif_le P s (P / 2) (n - 2 * (P / 2))
  have hsw := sw_btw hn hw s
  have h1 := sif_btw (P := P) (s := s) (f := dv P M (P / 2) v) (a := P / 2) (lo := lo) (hi := 10000000000) (by omega) (by omega) (by omega) (by omega) (k := n - 2 * (P / 2)) (by omega) (fun j h1 h2 => hd j h1 (by omega))
  have h2 := sif_wbt (P := P) (s := s) (w := xv w) (d := dv P M (P / 2) v) (a := P / 2) (lo := lo) (hi := 10000000000) (by omega) (by omega) (by omega) (by omega) (k := n - 2 * (P / 2)) (by omega) (fun j h1 h2 => ⟨by rw [xv_int]; exact hw j h1 (by omega), hd j h1 (by omega)⟩)
  have m1 := mulk (lo := lo) (by omega) (by omega) (k := nif P s (P / 2) (n - 2 * (P / 2))) (by omega)
  have hl : (lN (nif P s (P / 2) (n - 2 * (P / 2)))).toInt = (nif P s (P / 2) (n - 2 * (P / 2)) : Int) := lN_toInt (by omega)
  have z0 : ∀ x : Int64, ¬ x = 0 → ¬ x.toInt = 0 := fun x h z => h (Int64.toInt_inj.mp (by rw [z]; rfl))
  unfold raw
  by_cases hz : sif P s (xv w) (P / 2) (n - 2 * (P / 2)) = 0
  · rw [if_pos hz]
    exact quo_btw (by rw [hl]; omega) (by omega) (by omega) (by rw [hl]; exact h1.1) (by rw [hl]; exact h1.2)
  · rw [if_neg hz]
    have hz2 := z0 _ hz
    clear h1 hl m1
    generalize sif P s (xv w) (P / 2) (n - 2 * (P / 2)) = S at *
    generalize sif P s (fun t => xv w t * dv P M (P / 2) v t) (P / 2) (n - 2 * (P / 2)) = T at *
    have b5 : 10000000000 * S.toInt ≤ 10000000000 * 7200 := Int.mul_le_mul_of_nonneg_left hsw.2 (by omega)
    have b6 : (-lo) * S.toInt ≤ (-lo) * 7200 := Int.mul_le_mul_of_nonneg_left hsw.2 (by omega)
    rw [Int.neg_mul] at b6
    exact quo_btw (by omega) (by omega) (by omega) h2.1 h2.2
theorem zz_btw (hP : 2 ≤ P) (hP12 : P ≤ 12) (hn : n ≤ 72) (hPn : P + 2 * (P / 2) ≤ n) (hv : GV M n v) (hw : GW P n w) : (if M = 0 then -10000000000 else 0) * (P : Int) ≤ (zz P M (P / 2) n v w).toInt ∧ (zz P M (P / 2) n v w).toInt ≤ 10000000000 * (P : Int) := by
  have hr := fun s h => raw_btw hP hP12 hn hPn hv hw (s := s) h
  have hlo : (if M = 0 then -10000000000 else 0 : Int) = -10000000000 ∨ (if M = 0 then -10000000000 else 0 : Int) = 0 := by
    by_cases h : M = 0
    · rw [if_pos h]; exact Or.inl rfl
    · rw [if_neg h]; exact Or.inr rfl
  generalize (if M = 0 then -10000000000 else 0 : Int) = lo at *
  exact sm_btw (by omega) (by omega) (by omega) (by omega) (k := P) (by omega) (fun j _ h2 => hr j (by omega))
theorem zz_nn (hP : 2 ≤ P) (hP12 : P ≤ 12) (hn : n ≤ 72) (hPn : P + 2 * (P / 2) ≤ n) (hv : GV M n v) (hw : GW P n w) (hM : ¬ M = 0) (hz : ¬ zz P M (P / 2) n v w = 0) : 0 < zz P M (P / 2) n v w := by
  have h := (zz_btw hP hP12 hn hPn hv hw).1
  rw [if_neg hM, Int.zero_mul] at h
  have z0 : ¬ (zz P M (P / 2) n v w).toInt = 0 := fun z => hz (Int64.toInt_inj.mp (by rw [z]; rfl))
  rw [tI0]; omega
theorem mx1_ge (q : Int64) : 1 ≤ (mx1 q).toInt := by
  unfold mx1
  have c1 : (1 : Int64).toInt = 1 := by decide
  by_cases h : q < 1
  · rw [if_pos h, c1]; omega
  · rw [if_neg h]
    rw [tI_lt, c1] at h
    omega
theorem fac_ge1 (hM : ¬ M = 0) (s : Nat) : 1 ≤ (fac P M (P / 2) n v w s).toInt := by
  have c1 : (1 : Int64).toInt = 1 := by decide
  unfold fac rat
  rw [if_neg hM]
  split
  · rw [c1]; omega
  · exact mx1_ge _
theorem fac_btw (hP : 2 ≤ P) (hP12 : P ≤ 12) (hn : n ≤ 72) (hPn : P + 2 * (P / 2) ≤ n) (hv : GV M n v) (hw : GW P n w) {s : Nat} (hs : s < P) : -2000000000000000 ≤ (fac P M (P / 2) n v w s).toInt ∧ (fac P M (P / 2) n v w s).toInt ≤ 2000000000000000 := by
  have hr := raw_btw hP hP12 hn hPn hv hw hs
  have hz := zz_btw hP hP12 hn hPn hv hw
  have hzn := zz_nn hP hP12 hn hPn hv hw
  have hg := fac_ge1 (P := P) (M := M) (n := n) (v := v) (w := w)
  have hPl : (lN P).toInt = (P : Int) := lN_toInt (by omega)
  by_cases hM : M = 0
  · unfold fac
    rw [if_pos hM] at hr hz ⊢
    have := quo_btw (a := zz P M (P / 2) n v w) (b := lN P) (lo := -10000000000) (hi := 10000000000) (by rw [hPl]; omega) (by omega) (by omega) (by rw [hPl]; exact hz.1) (by rw [hPl]; exact hz.2)
    rw [tI_sub (by omega) (by omega)]; omega
  · refine ⟨by have := hg hM s; omega, ?_⟩
    unfold fac rat
    rw [if_neg hM] at hr hz ⊢
    have c1 : (1 : Int64).toInt = 1 := by decide
    have c2 : (10000 : Int64).toInt = 10000 := by decide
    by_cases h0 : zz P M (P / 2) n v w = 0
    · rw [if_pos h0, c1]; omega
    · rw [if_neg h0]
      have hzp := tI0.mp (hzn hM h0)
      have e1 : (10000 * lN P).toInt = 10000 * (P : Int) := by rw [tI_mul (by rw [c2, hPl]; omega) (by rw [c2, hPl]; omega), c2, hPl]
      have e3 : (10000 * (P : Int)) * (raw P M (P / 2) n v w s).toInt ≤ (10000 * (P : Int)) * 10000000000 := Int.mul_le_mul_of_nonneg_left hr.2 (by omega)
      have e4 : 0 ≤ (10000 * (P : Int)) * (raw P M (P / 2) n v w s).toInt := Int.mul_nonneg (by omega) hr.1
      have e2 : (10000 * lN P * raw P M (P / 2) n v w s).toInt = (10000 * (P : Int)) * (raw P M (P / 2) n v w s).toInt := by rw [tI_mul (by rw [e1]; omega) (by rw [e1]; omega), e1]
      have := quo_btw (a := 10000 * lN P * raw P M (P / 2) n v w s) (b := zz P M (P / 2) n v w) (lo := 0) (hi := 2000000000000000) hzp (by rw [e2]; omega) (by rw [e2]; omega) (by rw [e2]; omega) (by rw [e2]; omega)
      unfold mx1
      split
      · rw [c1]; omega
      · exact this.2
theorem dst_btw (hP : 2 ≤ P) (hP12 : P ≤ 12) (hn : n ≤ 72) (hPn : P + 2 * (P / 2) ≤ n) (hv : GV M n v) (hw : GW P n w) {t : Nat} (h1 : P / 2 ≤ t) (h2 : t + P / 2 < n) : 0 ≤ (dst P M (P / 2) n v w t).toInt ∧ (dst P M (P / 2) n v w t).toInt ≤ 3000000000000000 := by
  have hd := dv_btw hP hP12 hn hv h1 h2
  have hf := fac_btw hP hP12 hn hPn hv hw (Nat.mod_lt t (show 0 < P by omega))
  have hlo : (if M = 0 then -10000000000 else 0 : Int) = -10000000000 ∨ (if M = 0 then -10000000000 else 0 : Int) = 0 := by
    by_cases h : M = 0
    · rw [if_pos h]; exact Or.inl rfl
    · rw [if_neg h]; exact Or.inr rfl
  unfold dst
  have e1 : (dv P M (P / 2) v t - fac P M (P / 2) n v w (t % P)).toInt = (dv P M (P / 2) v t).toInt - (fac P M (P / 2) n v w (t % P)).toInt := tI_sub (by omega) (by omega)
  rw [tI_abs (by rw [e1]; omega), e1]
  split <;> omega
theorem wid_btw (hP : 2 ≤ P) (hP12 : P ≤ 12) (hn : n ≤ 72) (hPn : P + 2 * (P / 2) ≤ n) (hv : GV M n v) (hw : GW P n w) : 0 ≤ (wid P M (P / 2) n v w).toInt ∧ (wid P M (P / 2) n v w).toInt ≤ 4000000000000000 := by
  have hs := sm_btw (f := dst P M (P / 2) n v w) (a := P / 2) (lo := 0) (hi := 3000000000000000) (by omega) (by omega) (by omega) (by omega) (k := n - 2 * (P / 2)) (by omega) (fun j h1 h2 => dst_btw hP hP12 hn hPn hv hw h1 (by omega))
  rw [Int.zero_mul] at hs
  have hl : (lN (n - 2 * (P / 2))).toInt = ((n - 2 * (P / 2) : Nat) : Int) := lN_toInt (by omega)
  have c4 : (4 : Int64).toInt = 4 := by decide
  have c5 : (5 : Int64).toInt = 5 := by decide
  have e1 : (4 * lN (n - 2 * (P / 2))).toInt = 4 * ((n - 2 * (P / 2) : Nat) : Int) := by rw [tI_mul (by rw [c4, hl]; omega) (by rw [c4, hl]; omega), c4, hl]
  unfold wid
  generalize (sm (dst P M (P / 2) n v w) (P / 2) (n - 2 * (P / 2))) = S at *
  generalize hN : n - 2 * (P / 2) = N at *
  have hN2 : 2 ≤ N ∧ N ≤ 72 := by omega
  have e2 : (5 * S).toInt = 5 * S.toInt := by rw [tI_mul (by rw [c5]; omega) (by rw [c5]; omega), c5]
  exact quo_btw (by rw [e1]; omega) (by rw [e2]; omega) (by rw [e2]; omega) (by rw [e2]; omega) (by rw [e2, e1]; omega)
theorem wfor_D {D x : Int64} (hD : 0 ≤ D.toInt) (hD2 : D.toInt ≤ 4000000000000000) (h1 : ¬ x ≤ 3 * D) (h2 : ¬ 5 * D ≤ x) : 0 < D.toInt ∧ (5 * D - x).toInt ≤ 2 * D.toInt ∧ 0 ≤ (5 * D - x).toInt ∧ (2 * D).toInt = 2 * D.toInt := by
  have c3 : (3 : Int64).toInt = 3 := by decide
  have c5 : (5 : Int64).toInt = 5 := by decide
  have c2 : (2 : Int64).toInt = 2 := by decide
  have e3 : (3 * D).toInt = 3 * D.toInt := by rw [tI_mul (by rw [c3]; omega) (by rw [c3]; omega), c3]
  have e5 : (5 * D).toInt = 5 * D.toInt := by rw [tI_mul (by rw [c5]; omega) (by rw [c5]; omega), c5]
  have e2 : (2 * D).toInt = 2 * D.toInt := by rw [tI_mul (by rw [c2]; omega) (by rw [c2]; omega), c2]
  rw [tI_le, e3] at h1
  rw [tI_le, e5] at h2
  have e6 : (5 * D - x).toInt = 5 * D.toInt - x.toInt := by rw [tI_sub (by omega) (by omega), e5]
  rw [e6, e2]; omega
theorem wfor_btw {D x : Int64} (hD : 0 ≤ D.toInt) (hD2 : D.toInt ≤ 4000000000000000) : 0 ≤ (wfor D x).toInt ∧ (wfor D x).toInt ≤ 100 := by
  unfold wfor
  by_cases h1 : x ≤ 3 * D
  · rw [if_pos h1]; decide
  · rw [if_neg h1]
    by_cases h2 : 5 * D ≤ x
    · rw [if_pos h2]; decide
    · rw [if_neg h2]
      obtain ⟨g1, g2, g3, g4⟩ := wfor_D hD hD2 h1 h2
      have c1 : (100 : Int64).toInt = 100 := by decide
      have e1 : (100 * (5 * D - x)).toInt = 100 * (5 * D - x).toInt := by rw [tI_mul (by rw [c1]; omega) (by rw [c1]; omega), c1]
      have hq := quo_btw (a := 100 * (5 * D - x)) (b := 2 * D) (lo := 0) (hi := 100) (by omega) (by omega) (by omega) (by omega) (by omega)
      rw [Int64.toInt_toInt32, Int.bmod_eq_of_le_mul_two (by omega) (by omega)]
      exact hq
theorem wit_btw (hP : 2 ≤ P) (hP12 : P ≤ 12) (hn : n ≤ 72) (hPn : P + 2 * (P / 2) ≤ n) (hv : GV M n v) (k : Nat) : GW P n (wit P M (P / 2) n v k) := by
  induction k with
  | zero =>
    intro t _ _
    show 0 ≤ (nI 100).toInt ∧ (nI 100).toInt ≤ 100
    decide
  | succ k ih =>
    intro t _ _
    have h := wid_btw hP hP12 hn hPn hv ih
    exact wfor_btw h.1 h.2
end DB
