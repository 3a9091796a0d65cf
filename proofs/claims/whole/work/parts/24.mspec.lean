/-! the reference's sums are the class's -/
theorem lNpos {n : Nat} (h : 0 < n) (h2 : n < 2 ^ 31) : (0 : Int64) < lN n := by rw [tI0, lN_toInt h2]; omega
theorem lNpos2 {k : Int64} {n : Nat} (hk : 0 < k.toInt) (hk2 : k.toInt ≤ 1000) (h : 0 < n) (h2 : n ≤ 1000) : (0 : Int64) < k * lN n := by
  have hn : (lN n).toInt = (n : Int) := lN_toInt (by omega)
  have h1 : k.toInt * (n : Int) ≤ 1000 * (n : Int) := Int.mul_le_mul_of_nonneg_right hk2 (by omega)
  have h3 : 0 < k.toInt * (n : Int) := Int.mul_pos hk (by omega)
  rw [tI0, tI_mul (by rw [hn]; omega) (by rw [hn]; omega), hn]; exact h3
theorem sm_head (f : Nat → Int64) (a : Nat) : ∀ k, sm f a (k + 1) = f a + sm f (a + 1) k
  | 0 => by simp only [sm, Nat.add_zero, Int64.add_zero, Int64.zero_add]
  | k + 1 => by
    rw [show sm f a (k + 1 + 1) = sm f a (k + 1) + f (a + (k + 1)) from rfl, sm_head f a k, show sm f (a + 1) (k + 1) = sm f (a + 1) k + f (a + 1 + k) from rfl, Int64.add_assoc, show a + (k + 1) = a + 1 + k by omega]
theorem full_eq (f : Nat → Int64) {t h : Nat} (h1 : 1 ≤ h) (ht : h ≤ t) : sm f 0 (t + h + 1) - sm f 0 (t - h) = sm f (t - h + 1) (2 * h - 1) + (f (t - h) + f (t + h)) := by
  have e1 := sm_app f 0 (t - h) (2 * h + 1)
  rw [show t - h + (2 * h + 1) = t + h + 1 by omega, Nat.zero_add] at e1
  have e2 : sm f (t - h) (2 * h + 1) = sm f (t - h) (2 * h) + f (t + h) := by
    show sm f (t - h) (2 * h) + f (t - h + 2 * h) = _
    rw [show t - h + 2 * h = t + h by omega]
  have e3 := sm_head f (t - h) (2 * h - 1)
  rw [show 2 * h - 1 + 1 = 2 * h by omega] at e3
  rw [e1, e2, e3]
  grind
theorem ft_odd {P : Nat} {v : Nat → Int32} {t : Nat} (hP : 2 ≤ P) (ht : P / 2 ≤ t) (h : P % 2 = 1) : quo (sm (xv v) 0 (t + P / 2 + 1) - sm (xv v) 0 (t - P / 2)) (lN P) = ft P (P / 2) v t := by
  unfold ft
  rw [if_pos h, full_eq (xv v) (by omega) ht]
theorem ft_even {P : Nat} {v : Nat → Int32} {t : Nat} (hP : 2 ≤ P) (ht : P / 2 ≤ t) (h : ¬ P % 2 = 1) : quo (2 * (sm (xv v) 0 (t + P / 2 + 1) - sm (xv v) 0 (t - P / 2)) - (v (t - P / 2)).toInt64 - (v (t + P / 2)).toInt64) (2 * lN P) = ft P (P / 2) v t := by
  unfold ft
  rw [if_neg h, full_eq (xv v) (by omega) ht]
  have e : 2 * (sm (xv v) (t - P / 2 + 1) (2 * (P / 2) - 1) + (xv v (t - P / 2) + xv v (t + P / 2))) - (v (t - P / 2)).toInt64 - (v (t + P / 2)).toInt64 = 2 * sm (xv v) (t - P / 2 + 1) (2 * (P / 2) - 1) + (xv v (t - P / 2) + xv v (t + P / 2)) := by
    simp only [xv]
    grind
  rw [e]
-- sums by steps of P
theorem sif_skip {P s : Nat} {f : Nat → Int64} {a k : Nat} : ∀ {j : Nat}, (∀ x, a + k ≤ x → x < a + (k + j) → x % P ≠ s) → sif P s f a (k + j) = sif P s f a k
  | 0, _ => rfl
  | j + 1, h => by
    rw [← Nat.add_assoc]
    simp only [sif]
    rw [if_neg (h (a + (k + j)) (by omega) (by omega))]
    exact sif_skip (fun x h1 h2 => h x h1 (by omega))
theorem nif_skip {P s : Nat} {a k : Nat} : ∀ {j : Nat}, (∀ x, a + k ≤ x → x < a + (k + j) → x % P ≠ s) → nif P s a (k + j) = nif P s a k
  | 0, _ => rfl
  | j + 1, h => by
    rw [← Nat.add_assoc]
    simp only [nif]
    rw [if_neg (h (a + (k + j)) (by omega) (by omega))]
    exact nif_skip (fun x h1 h2 => h x h1 (by omega))
theorem mod_btw {P s t x : Nat} (ht : t % P = s) (h1 : t < x) (h2 : x < t + P) : x % P ≠ s := fun e => mod_gap (P := P) (j := t) (c := x) (ht.trans e.symm) h1 h2
theorem sif_cA {P s : Nat} {f : Nat → Int64} {h c t : Nat} (ht : t % P = s) (h1 : h ≤ t) (h2 : t < c) (hP : 0 < P) : sif P s f h (min (t + P) c - h) = sif P s f h (min t c - h) + f t := by
  have e1 : min t c - h = t - h := by omega
  have e2 : min (t + P) c - h = (t + 1 - h) + (min (t + P) c - (t + 1)) := by omega
  rw [e2, sif_skip (fun x g1 g2 => mod_btw ht (by omega) (by omega)), sif_step h1, if_pos ht, e1]
theorem sif_cB {P s : Nat} {f : Nat → Int64} {h c t : Nat} (ht : t % P = s) (h1 : t < h ∨ c ≤ t) : sif P s f h (min (t + P) c - h) = sif P s f h (min t c - h) := by
  rcases h1 with h1 | h1
  · have e1 : min t c - h = 0 := by omega
    rw [e1, show min (t + P) c - h = 0 + (min (t + P) c - h) by omega, sif_skip (fun x g1 g2 => mod_btw ht (by omega) (by omega))]
  · rw [show min (t + P) c = min t c by omega]
theorem sif_c0 {P s : Nat} {f : Nat → Int64} {h c : Nat} (hs : s < P) : sif P s f h (min s c - h) = 0 := by
  rw [show min s c - h = 0 + (min s c - h) by omega, sif_skip (fun x g1 g2 => by rw [Nat.mod_eq_of_lt (by omega)]; omega)]
  rfl
theorem nif_cA {P s : Nat} {h c t : Nat} (ht : t % P = s) (h1 : h ≤ t) (h2 : t < c) (hP : 0 < P) : nif P s h (min (t + P) c - h) = nif P s h (min t c - h) + 1 := by
  have e1 : min t c - h = t - h := by omega
  have e2 : min (t + P) c - h = (t + 1 - h) + (min (t + P) c - (t + 1)) := by omega
  rw [e2, nif_skip (fun x g1 g2 => mod_btw ht (by omega) (by omega)), nif_step h1, if_pos ht, e1]
theorem nif_cB {P s : Nat} {h c t : Nat} (ht : t % P = s) (h1 : t < h ∨ c ≤ t) : nif P s h (min (t + P) c - h) = nif P s h (min t c - h) := by
  rcases h1 with h1 | h1
  · have e1 : min t c - h = 0 := by omega
    rw [e1, show min (t + P) c - h = 0 + (min (t + P) c - h) by omega, nif_skip (fun x g1 g2 => mod_btw ht (by omega) (by omega))]
  · rw [show min (t + P) c = min t c by omega]
theorem nif_c0 {P s : Nat} {h c : Nat} (hs : s < P) : nif P s h (min s c - h) = 0 := by
  rw [show min s c - h = 0 + (min s c - h) by omega, nif_skip (fun x g1 g2 => by rw [Nat.mod_eq_of_lt (by omega)]; omega)]
  rfl
-- counts over all entries, of which the inner ones matter
theorem osum_cA {w : Nat → Int32} {F : Nat → Nat} {h c t : Nat} (h1 : h ≤ t) (h2 : t < c) : osum w F h (min (t + 1) c - h) = osum w F h (min t c - h) + (if nI 100 ≤ w t then 0 else F t) := by
  rw [show min (t + 1) c - h = t + 1 - h by omega, show min t c - h = t - h by omega, osum_step h1]
theorem osum_cB {w : Nat → Int32} {F : Nat → Nat} {h c t : Nat} (h1 : t < h ∨ c ≤ t) : osum w F h (min (t + 1) c - h) = osum w F h (min t c - h) := by
  rw [show min (t + 1) c - h = min t c - h by omega]
theorem osum_mono {w : Nat → Int32} {F F' : Nat → Nat} {a : Nat} : ∀ {k : Nat}, (∀ j, a ≤ j → j < a + k → F j ≤ F' j) → osum w F a k ≤ osum w F' a k
  | 0, _ => Nat.le_refl _
  | k + 1, h => by
    have h1 := osum_mono (w := w) (k := k) (fun j g1 g2 => h j g1 (by omega))
    have h2 := h (a + k) (by omega) (by omega)
    simp only [osum]
    split <;> omega
theorem osum_lt {w : Nat → Int32} {F F' : Nat → Nat} {a T : Nat} : ∀ {k : Nat}, (∀ j, a ≤ j → j < a + k → F j ≤ F' j) → a ≤ T → T < a + k → ¬ nI 100 ≤ w T → F T < F' T → osum w F a k < osum w F' a k
  | 0, _, h1, h2, _, _ => by omega
  | k + 1, h, h1, h2, h3, h4 => by
    by_cases e : T = a + k
    · have g1 := osum_mono (w := w) (k := k) (fun j g1 g2 => h j g1 (by omega))
      subst e
      simp only [osum]
      rw [if_neg h3, if_neg h3]; omega
    · have g1 := osum_lt (w := w) (k := k) (fun j g1 g2 => h j g1 (by omega)) h1 (by omega) h3 h4
      have g2 := h (a + k) (by omega) (by omega)
      simp only [osum]
      split <;> omega
theorem TO_irr {R : Nat → Nat → Bool} (hR : TO R) (a : Nat) : R a a = false := by
  cases hq : R a a with
  | false => rfl
  | true => have := hR.2.2 a a hq; rw [hq] at this; exact this
theorem cnt_le {R : Nat → Nat → Bool} (hR : TO R) {A B : Nat} (h : R A B = true) (u : Nat) : (if R u A = true then 1 else 0) ≤ (if R u B = true then 1 else 0) := by
  by_cases h1 : R u A = true
  · rw [if_pos h1, if_pos (hR.1 _ _ _ h1 h)]; exact Nat.le_refl _
  · rw [if_neg h1]; exact Nat.zero_le _
theorem cnt_lt {R : Nat → Nat → Bool} (hR : TO R) {A B : Nat} (h : R A B = true) : (if R A A = true then 1 else 0) < (if R A B = true then 1 else 0) := by
  rw [if_pos h, TO_irr hR A]; decide
theorem orank_inj {W : Nat → Int32} {D : Nat → Int64} {h n A B : Nat} (a1 : h ≤ A) (a2 : A + h < n) (a3 : ¬ nI 100 ≤ W A) (b1 : h ≤ B) (b2 : B + h < n) (b3 : ¬ nI 100 ≤ W B) (e : orank W D h n A = orank W D h n B) : A = B := by
  have hR := ahB_TO W D
  refine Decidable.by_contra fun z => ?_
  unfold orank at e
  rcases hR.2.1 A B z with h1 | h1
  · have := osum_lt (w := W) (F := fun u => if ahB W D u A = true then 1 else 0) (F' := fun u => if ahB W D u B = true then 1 else 0) (a := h) (T := A) (k := n - 2 * h) (fun j _ _ => cnt_le hR h1 j) a1 (by omega) a3 (cnt_lt hR h1)
    omega
  · have := osum_lt (w := W) (F := fun u => if ahB W D u B = true then 1 else 0) (F' := fun u => if ahB W D u A = true then 1 else 0) (a := h) (T := B) (k := n - 2 * h) (fun j _ _ => cnt_le hR h1 j) b1 (by omega) b3 (cnt_lt hR h1)
    omega
theorem nsum_mono {F F' : Nat → Nat} : ∀ {k : Nat}, (∀ j, j < k → F j ≤ F' j) → nsum F k ≤ nsum F' k
  | 0, _ => Nat.le_refl _
  | k + 1, h => by
    have h1 := nsum_mono (k := k) (fun j g2 => h j (by omega))
    have h2 := h k (by omega)
    simp only [nsum]; omega
theorem nsum_lt {F F' : Nat → Nat} {T : Nat} : ∀ {k : Nat}, (∀ j, j < k → F j ≤ F' j) → T < k → F T < F' T → nsum F k < nsum F' k
  | 0, _, h2, _ => by omega
  | k + 1, h, h2, h4 => by
    by_cases e : T = k
    · have g1 := nsum_mono (k := k) (fun j g2 => h j (by omega))
      subst e
      simp only [nsum]; omega
    · have g1 := nsum_lt (k := k) (fun j g2 => h j (by omega)) (by omega) h4
      have g2 := h k (by omega)
      simp only [nsum]; omega
theorem frank_inj {F : Nat → Int64} {P A B : Nat} (a1 : A < P) (b1 : B < P) (e : frank F P A = frank F P B) : A = B := by
  have hR := fhB_TO F
  refine Decidable.by_contra fun z => ?_
  unfold frank at e
  rcases hR.2.1 A B z with h1 | h1
  · have := nsum_lt (F := fun u => if fhB F u A = true then 1 else 0) (F' := fun u => if fhB F u B = true then 1 else 0) (T := A) (k := P) (fun j _ => cnt_le hR h1 j) a1 (cnt_lt hR h1)
    omega
  · have := nsum_lt (F := fun u => if fhB F u B = true then 1 else 0) (F' := fun u => if fhB F u A = true then 1 else 0) (T := B) (k := P) (fun j _ => cnt_le hR h1 j) b1 (cnt_lt hR h1)
    omega
-- days
def GDD (n : Nat) (d : Nat → Int32) : Prop := ∀ t, t < n → 0 ≤ (d t).toInt ∧ (d t).toInt ≤ 31
theorem exd_int {n : Nat} {d : Nat → Int32} (hn : n ≤ 72) (hd : GDD n d) {t : Nat} (ht : t < n) : (exd n d (sm (xv d) 0 n) t).toInt = (n : Int) * (d t).toInt - (sm (xv d) 0 n).toInt ∧ 0 ≤ (sm (xv d) 0 n).toInt ∧ (sm (xv d) 0 n).toInt ≤ 2232 ∧ 0 ≤ (n : Int) * (d t).toInt ∧ (n : Int) * (d t).toInt ≤ 2232 := by
  have hs := sm_btw (f := xv d) (a := 0) (lo := 0) (hi := 31) (by omega) (by omega) (by omega) (by omega) (k := n) hn (fun j _ h2 => by rw [xv_int]; exact hd j (by omega))
  rw [Int.zero_mul] at hs
  have hdt := hd t ht
  have m1 : (n : Int) * (d t).toInt ≤ (n : Int) * 31 := Int.mul_le_mul_of_nonneg_left hdt.2 (by omega)
  have m2 : 0 ≤ (n : Int) * (d t).toInt := Int.mul_nonneg (by omega) hdt.1
  have hl : (lN n).toInt = (n : Int) := lN_toInt (by omega)
  have h8 : ((d t).toInt64).toInt = (d t).toInt := Int32.toInt_toInt64 _
  have e1 : (lN n * (d t).toInt64).toInt = (n : Int) * (d t).toInt := by rw [tI_mul (by rw [hl, h8]; omega) (by rw [hl, h8]; omega), hl, h8]
  refine ⟨?_, by omega, by omega, m2, by omega⟩
  unfold exd
  rw [tI_sub (by rw [e1]; omega) (by rw [e1]; omega), e1]
theorem sq_int {x : Int64} (h1 : -2232 ≤ x.toInt) (h2 : x.toInt ≤ 2232) : 0 ≤ (x * x).toInt ∧ (x * x).toInt ≤ 4981824 ∧ (x.toInt ≠ 0 → 1 ≤ (x * x).toInt) ∧ (x.toInt = 0 → (x * x).toInt = 0) := by
  generalize hX : x.toInt = X at *
  have g1 : 0 ≤ X * X ∧ X * X ≤ 4981824 ∧ (X ≠ 0 → 1 ≤ X * X) := by
    rcases Int.le_total 0 X with h | h
    · have a1 : X * X ≤ X * 2232 := Int.mul_le_mul_of_nonneg_left h2 h
      have a2 : 0 ≤ X * X := Int.mul_nonneg h h
      refine ⟨a2, by omega, fun z => ?_⟩
      have a3 : X * 1 ≤ X * X := Int.mul_le_mul_of_nonneg_left (by omega) h
      omega
    · have a1 : (-X) * (-X) ≤ (-X) * 2232 := Int.mul_le_mul_of_nonneg_left (by omega) (by omega)
      have a2 : 0 ≤ (-X) * (-X) := Int.mul_nonneg (by omega) (by omega)
      rw [Int.neg_mul_neg] at a1 a2
      refine ⟨a2, by omega, fun z => ?_⟩
      have a3 : (-X) * 1 ≤ (-X) * (-X) := Int.mul_le_mul_of_nonneg_left (by omega) (by omega)
      rw [Int.neg_mul_neg] at a3
      omega
  have e1 : (x * x).toInt = X * X := by rw [tI_mul (by rw [hX]; omega) (by rw [hX]; omega), hX]
  rw [e1]
  exact ⟨g1.1, g1.2.1, g1.2.2, fun z => by rw [z]; rfl⟩
theorem sm_pos1 {f : Nat → Int64} {a T : Nat} {hi : Int} (hh : hi ≤ 2 ^ 55) (hh2 : 0 ≤ hi) : ∀ {k : Nat}, k ≤ 72 → (∀ j, a ≤ j → j < a + k → 0 ≤ (f j).toInt ∧ (f j).toInt ≤ hi) → a ≤ T → T < a + k → 1 ≤ (f T).toInt → 1 ≤ (sm f a k).toInt
  | 0, _, _, h1, h2, _ => by omega
  | k + 1, hk, h, h1, h2, h3 => by
    have i1 := sm_btw (f := f) (a := a) (lo := 0) (hi := hi) (by omega) (by omega) hh (by omega) (k := k) (by omega) (fun j g1 g2 => h j g1 (by omega))
    have m1 := mulk (lo := hi) (by omega) hh (k := k) (by omega)
    rw [Int.zero_mul] at i1
    have i2 := h (a + k) (by omega) (by omega)
    simp only [sm]
    rw [tI_add (by omega) (by omega)]
    by_cases e : T = a + k
    · subst e; omega
    · have := sm_pos1 hh hh2 (k := k) (by omega) (fun j g1 g2 => h j g1 (by omega)) h1 (by omega) h3
      omega
theorem dsq_pos {n : Nat} {d : Nat → Int32} (hn : n ≤ 72) (hd : GDD n d) : 0 < dsq n d ↔ ∃ t, t < n ∧ d t ≠ d 0 := by
  have hx : ∀ j, j < n → 0 ≤ (exd n d (sm (xv d) 0 n) j * exd n d (sm (xv d) 0 n) j).toInt ∧ (exd n d (sm (xv d) 0 n) j * exd n d (sm (xv d) 0 n) j).toInt ≤ 4981824 := fun j hj => by
    have h1 := exd_int hn hd hj
    have h2 := sq_int (x := exd n d (sm (xv d) 0 n) j) (by omega) (by omega)
    exact ⟨h2.1, h2.2.1⟩
  unfold dsq
  constructor
  · intro h
    refine Classical.byContradiction fun z => ?_
    have hall : ∀ t, t < n → d t = d 0 := fun t ht => Decidable.by_contra fun q => z ⟨t, ht, q⟩
    rcases Nat.eq_zero_or_pos n with h0 | h0
    · subst h0; exact absurd (show (0 : Int64) < 0 from h) (by decide)
    · have hd0 := hd 0 h0
      have hs := sm_btw (f := xv d) (a := 0) (lo := (d 0).toInt) (hi := (d 0).toInt) (by omega) (by omega) (by omega) (by omega) (k := n) hn (fun j _ h2 => by rw [xv_int, hall j (by omega)]; exact ⟨Int.le_refl _, Int.le_refl _⟩)
      have hc : (n : Int) * (d 0).toInt = (d 0).toInt * (n : Int) := Int.mul_comm _ _
      have hz := sm_btw (f := fun t => exd n d (sm (xv d) 0 n) t * exd n d (sm (xv d) 0 n) t) (a := 0) (lo := 0) (hi := 0) (by omega) (by omega) (by omega) (by omega) (k := n) hn (fun j _ h2 => by
        have h1 := exd_int hn hd (t := j) (by omega)
        have h3 := sq_int (x := exd n d (sm (xv d) 0 n) j) (by omega) (by omega)
        rw [hall j (by omega)] at h1
        have h4 := h3.2.2.2 (by omega)
        omega)
      rw [tI0] at h
      omega
  · rintro ⟨t, ht, hne⟩
    have hneI : (d t).toInt ≠ (d 0).toInt := fun z => hne (Int32.toInt_inj.mp z)
    have h1 := exd_int hn hd ht
    have h2 := exd_int hn hd (t := 0) (by omega)
    have hnn : (n : Int) * (d t).toInt ≠ (n : Int) * (d 0).toInt := fun z => hneI (Int.eq_of_mul_eq_mul_left (by omega) z)
    rw [tI0]
    have key : ∃ T, T < n ∧ (exd n d (sm (xv d) 0 n) T).toInt ≠ 0 := by
      by_cases h3 : (exd n d (sm (xv d) 0 n) t).toInt = 0
      · exact ⟨0, by omega, by omega⟩
      · exact ⟨t, ht, h3⟩
    obtain ⟨T, hT, hT2⟩ := key
    have h4 := exd_int hn hd hT
    have h5 := (sq_int (x := exd n d (sm (xv d) 0 n) T) (by omega) (by omega)).2.2.1 hT2
    have := sm_pos1 (f := fun t => exd n d (sm (xv d) 0 n) t * exd n d (sm (xv d) 0 n) t) (a := 0) (T := T) (hi := 4981824) (by omega) (by omega) (k := n) hn (fun j _ g2 => hx j (by omega)) (Nat.zero_le _) (by omega) h5
    omega
/-- a series that its calls made -/
def GVg (M n : Nat) (v g : Nat → Int32) : Prop := ∀ t, t < n → g t = 0 → (if M = 0 then -1000000 else 1) ≤ (v t).toInt ∧ (v t).toInt ≤ 1000000
theorem GVg_GV {M n : Nat} {v g : Nat → Int32} (h : GVg M n v g) {P : Nat} (hd : dcm P n g) : GV M n v := fun t ht => h t ht (cg_zero hd.2.2 t ht)
theorem clamp_eq (x : Int64) : clampL x = if x < -1000000 then -1000000 else if 1000000 < x then 1000000 else x := by
  unfold clampL
  have c1 : (1000000 : Int64).toInt = 1000000 := by decide
  have c2 : (-1000000 : Int64).toInt = -1000000 := by decide
  by_cases h1 : x < 1000000
  · rw [if_pos h1]
    by_cases h2 : x < -1000000
    · rw [if_pos h2, if_pos h2]
    · rw [if_neg h2, if_neg h2, if_neg (Int64.lt_asymm h1)]
  · rw [if_neg h1, if_neg (by decide)]
    have h3 : ¬ x < -1000000 := by rw [tI_lt, c2]; rw [tI_lt, c1] at h1; omega
    rw [if_neg h3]
    by_cases h4 : 1000000 < x
    · rw [if_pos h4]
    · rw [if_neg h4]
      exact Int64.le_antisymm (Int64.not_lt.mp h1) (Int64.not_lt.mp h4)
theorem sm5_eq (f : Nat → Int64) (t : Nat) : quo (558 * f t + 294 * (f (t - 1) + f (t + 1)) - 73 * (f (t - 2) + f (t + 2))) 1000 = sm5 f t := by
  unfold sm5
  have e : 558 * f t + 294 * (f (t - 1) + f (t + 1)) - 73 * (f (t - 2) + f (t + 2)) = -73 * (f (t - 2) + f (t + 2)) + 294 * (f (t - 1) + f (t + 1)) + 558 * f t := by grind
  rw [e]
theorem sm3_rev (a b c : Int64) : sm3 a b c = sm3 c b a := by
  unfold sm3
  have e : a + 2 * b + c = c + 2 * b + a := by grind
  rw [e]
theorem hf_RM {nw : Nat → Int32} {P M R n : Nat} {v g d : Nat → Int32} (h : RM nw P M R n v g d) (h01 : G01 n g) (hP : P ≤ 12) (hM : M ≤ 1) (hR : R ≤ 5) (hn : n ≤ 72) (hc : Nat) : ∀ k, k ≤ n → hf (xv nw) 0 (hx 11981 (lN hc)) (4 + 3 * k) = dge v g d (dg0 hc P M R n) k
  | 0, _ => by
    show hx (hx (hx (hx (hx 11981 (lN hc)) (xv nw (0 + 0))) (xv nw (0 + 1))) (xv nw (0 + 2))) (xv nw (0 + 3)) = _
    simp only [xv, Nat.zero_add]
    rw [h.1, h.2.1, h.2.2.1, h.2.2.2.1, nI_l (by omega), nI_l (by omega), nI_l (by omega), nI_l (by omega)]
    rfl
  | k + 1, hk => by
    have ih := hf_RM h h01 hP hM hR hn hc k (by omega)
    rw [show 4 + 3 * (k + 1) = 4 + 3 * k + 1 + 1 + 1 by omega]
    simp only [hf, dge]
    rw [ih]
    obtain ⟨e1, e2, e3⟩ := h.2.2.2.2 k (by omega)
    simp only [xv, Nat.zero_add]
    rw [e1, e2, show 4 + 3 * k + 1 + 1 = 4 + 3 * k + 2 by omega, e3]
    rcases h01 k (by omega) with h9 | h9
    · rw [h9, if_pos nI_0, nI_l (by omega)]
    · rw [h9, if_neg (by decide), nI_l (by omega)]
