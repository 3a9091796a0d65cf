/-! the reference: what its row of ints says -/
def RM (nw : Nat → Int32) (P M R n : Nat) (v g d : Nat → Int32) : Prop := nw 0 = nI P ∧ nw 1 = nI M ∧ nw 2 = nI R ∧ nw 3 = nI n ∧ (∀ t, t < n → nw (4 + 3 * t) = g t ∧ nw (4 + 3 * t + 1) = v t ∧ nw (4 + 3 * t + 2) = d t)
def G01 (n : Nat) (g : Nat → Int32) : Prop := ∀ t, t < n → g t = nI 0 ∨ g t = nI 1
/-- the row was saved -/
def MSV (c : Nat) (pp nw : Nat → Int32) (c2 : Nat) (pp2 : Nat → Int32) : Prop := c2 = (if c = 4 then 4 else c + 1) ∧ (∀ k, k + 1 < c2 → ∀ i, i < 220 → pp2 (220 * k + i) = pp (220 * (k + (if c = 4 then 1 else 0)) + i)) ∧ (∀ i, i < 220 → pp2 (220 * (c2 - 1) + i) = nw i)
section RS
variable {nw : Nat → Int32} {P M R n : Nat} {v g d : Nat → Int32}
theorem RM_P (h : RM nw P M R n v g d) (j : Nat) : RM (upd nw 0 (nI j)) j M R n v g d :=
  ⟨pk_us, by rw [pk_un (by decide)]; exact h.2.1, by rw [pk_un (by decide)]; exact h.2.2.1, by rw [pk_un (by decide)]; exact h.2.2.2.1, fun t ht => by rw [pk_un (by omega), pk_un (by omega), pk_un (by omega)]; exact h.2.2.2.2 t ht⟩
theorem RM_M (h : RM nw P M R n v g d) (j : Nat) : RM (upd nw 1 (nI j)) P j R n v g d :=
  ⟨by rw [pk_un (by decide)]; exact h.1, pk_us, by rw [pk_un (by decide)]; exact h.2.2.1, by rw [pk_un (by decide)]; exact h.2.2.2.1, fun t ht => by rw [pk_un (by omega), pk_un (by omega), pk_un (by omega)]; exact h.2.2.2.2 t ht⟩
theorem RM_R (h : RM nw P M R n v g d) (j : Nat) : RM (upd nw 2 (nI j)) P M j n v g d :=
  ⟨by rw [pk_un (by decide)]; exact h.1, by rw [pk_un (by decide)]; exact h.2.1, pk_us, by rw [pk_un (by decide)]; exact h.2.2.2.1, fun t ht => by rw [pk_un (by omega), pk_un (by omega), pk_un (by omega)]; exact h.2.2.2.2 t ht⟩
theorem RM_n (h : RM nw P M R n v g d) {j : Nat} (hj : j ≤ n) : RM (upd nw 3 (nI j)) P M R j v g d :=
  ⟨by rw [pk_un (by decide)]; exact h.1, by rw [pk_un (by decide)]; exact h.2.1, by rw [pk_un (by decide)]; exact h.2.2.1, pk_us, fun t ht => by rw [pk_un (by omega), pk_un (by omega), pk_un (by omega)]; exact h.2.2.2.2 t (by omega)⟩
theorem RM_g (h : RM nw P M R n v g d) (j : Nat) (x : Int32) : RM (upd nw (4 + 3 * j) x) P M R n v (upd g j x) d := by
  refine ⟨by rw [pk_un (by omega)]; exact h.1, by rw [pk_un (by omega)]; exact h.2.1, by rw [pk_un (by omega)]; exact h.2.2.1, by rw [pk_un (by omega)]; exact h.2.2.2.1, fun t ht => ?_⟩
  obtain ⟨h1, h2, h3⟩ := h.2.2.2.2 t ht
  by_cases e : t = j
  · subst e; rw [pk_us, pk_us, pk_un (by omega), pk_un (by omega)]; exact ⟨rfl, h2, h3⟩
  · rw [pk_un (j := 4 + 3 * t) (by omega), pk_un (j := 4 + 3 * t + 1) (by omega), pk_un (j := 4 + 3 * t + 2) (by omega), pk_un e]; exact ⟨h1, h2, h3⟩
theorem RM_v (h : RM nw P M R n v g d) (j : Nat) (x : Int32) : RM (upd nw (4 + 3 * j + 1) x) P M R n (upd v j x) g d := by
  refine ⟨by rw [pk_un (by omega)]; exact h.1, by rw [pk_un (by omega)]; exact h.2.1, by rw [pk_un (by omega)]; exact h.2.2.1, by rw [pk_un (by omega)]; exact h.2.2.2.1, fun t ht => ?_⟩
  obtain ⟨h1, h2, h3⟩ := h.2.2.2.2 t ht
  by_cases e : t = j
  · subst e; rw [pk_us, pk_us, pk_un (by omega), pk_un (by omega)]; exact ⟨h1, rfl, h3⟩
  · rw [pk_un (j := 4 + 3 * t) (by omega), pk_un (j := 4 + 3 * t + 1) (by omega), pk_un (j := 4 + 3 * t + 2) (by omega), pk_un e]; exact ⟨h1, h2, h3⟩
theorem RM_d (h : RM nw P M R n v g d) (j : Nat) (x : Int32) : RM (upd nw (4 + 3 * j + 2) x) P M R n v g (upd d j x) := by
  refine ⟨by rw [pk_un (by omega)]; exact h.1, by rw [pk_un (by omega)]; exact h.2.1, by rw [pk_un (by omega)]; exact h.2.2.1, by rw [pk_un (by omega)]; exact h.2.2.2.1, fun t ht => ?_⟩
  obtain ⟨h1, h2, h3⟩ := h.2.2.2.2 t ht
  by_cases e : t = j
  · subst e; rw [pk_us, pk_us, pk_un (by omega), pk_un (by omega)]; exact ⟨h1, h2, rfl⟩
  · rw [pk_un (j := 4 + 3 * t) (by omega), pk_un (j := 4 + 3 * t + 1) (by omega), pk_un (j := 4 + 3 * t + 2) (by omega), pk_un e]; exact ⟨h1, h2, h3⟩
theorem RM_add (h : RM nw P M R n v g d) (x y z : Int32) : RM (upd (upd (upd (upd nw (4 + 3 * n) x) (4 + 3 * n + 1) y) (4 + 3 * n + 2) z) 3 (nI (n + 1))) P M R (n + 1) (upd v n y) (upd g n x) (upd d n z) := by
  have h2 : RM (upd (upd (upd nw (4 + 3 * n) x) (4 + 3 * n + 1) y) (4 + 3 * n + 2) z) P M R n (upd v n y) (upd g n x) (upd d n z) := RM_d (RM_v (RM_g h n x) n y) n z
  refine ⟨by rw [pk_un (by decide)]; exact h2.1, by rw [pk_un (by decide)]; exact h2.2.1, by rw [pk_un (by decide)]; exact h2.2.2.1, pk_us, fun t ht => ?_⟩
  rw [pk_un (j := 4 + 3 * t) (by omega), pk_un (j := 4 + 3 * t + 1) (by omega), pk_un (j := 4 + 3 * t + 2) (by omega)]
  by_cases e : t = n
  · subst e
    rw [pk_us, pk_us, pk_us, pk_un (by omega), pk_un (by omega), pk_us, pk_un (by omega), pk_us, pk_us]
    exact ⟨rfl, rfl, rfl⟩
  · exact h2.2.2.2.2 t (by omega)
theorem RM_ext (h : RM nw P M R n v g d) {v' g' d' : Nat → Int32} (h2 : ∀ t, t < n → v' t = v t ∧ g' t = g t ∧ d' t = d t) : RM nw P M R n v' g' d' :=
  ⟨h.1, h.2.1, h.2.2.1, h.2.2.2.1, fun t ht => by rw [(h2 t ht).1, (h2 t ht).2.1, (h2 t ht).2.2]; exact h.2.2.2.2 t ht⟩
theorem RM_congr (h : RM nw P M R n v g d) (hn : n ≤ 72) {nw' : Nat → Int32} (h2 : ∀ i, i < 220 → nw' i = nw i) : RM nw' P M R n v g d :=
  ⟨by rw [h2 0 (by decide)]; exact h.1, by rw [h2 1 (by decide)]; exact h.2.1, by rw [h2 2 (by decide)]; exact h.2.2.1, by rw [h2 3 (by decide)]; exact h.2.2.2.1, fun t ht => by rw [h2 _ (by omega), h2 _ (by omega), h2 _ (by omega)]; exact h.2.2.2.2 t ht⟩
end RS
theorem G01_upd {n : Nat} {g : Nat → Int32} (h : G01 n g) (j : Nat) {x : Int32} (hx : x = nI 0 ∨ x = nI 1) : G01 n (upd g j x) := by
  intro t ht
  by_cases e : t = j
  · subst e; rw [pk_us]; exact hx
  · rw [pk_un e]; exact h t ht
theorem G01_1 {g : Nat → Int32} {t : Nat} (h : g t = nI 0 ∨ g t = nI 1) : ¬ g t = 0 ↔ g t = nI 1 := by
  rcases h with h | h <;> rw [h] <;> decide
theorem blk_step {f nw : Nat → Int32} {b k : Nat} (h : ∀ i, i < k → f (b + i) = nw i) : ∀ i, i < k + 1 → upd f (b + k) (nw k) (b + i) = nw i := by
  intro i hi
  by_cases e : i = k
  · subst e; exact pk_us
  · rw [pk_un (by omega)]; exact h i (by omega)
theorem low_blk {f h : Nat → Int32} {b k : Nat} {x : Int32} (h1 : ∀ j, j < b → f j = h j) : ∀ j, j < b → upd f (b + k) x j = h j := by
  intro j hj
  rw [pk_un (by omega)]; exact h1 j hj
theorem msv_of {hc c0 : Nat} {pp nw pb : Nat → Int32} (hh : hc ≤ 4) (e : c0 = if hc = 4 then 3 else hc) (i1 : ∀ i, i < 220 → pb (220 * c0 + i) = nw i) (i2 : ∀ j, j < 220 * c0 → pb j = if hc = 4 then pp (j + 220) else pp j) : MSV hc pp nw (c0 + 1) pb := by
  refine ⟨?_, fun k hk i hi => ?_, ?_⟩
  · by_cases h : hc = 4
    · rw [if_pos h] at e; rw [if_pos h, e]
    · rw [if_neg h] at e; rw [if_neg h, e]
  · rw [i2 _ (by omega)]
    by_cases h : hc = 4
    · rw [if_pos h, if_pos h]; congr 1; omega
    · rw [if_neg h, if_neg h]; congr 1
  · rw [Nat.add_sub_cancel]; exact i1
theorem wi {x : Int32} {lo hi : Int64} {a b : Int32} (h1 : lo = a.toInt64) (h2 : hi = b.toInt64) : (lo ≤ x.toInt64 ∧ x.toInt64 ≤ hi) ↔ (a ≤ x ∧ x ≤ b) := by
  rw [h1, h2, Int64.le_iff_toInt_le, Int64.le_iff_toInt_le, Int32.le_iff_toInt_le, Int32.le_iff_toInt_le, Int32.toInt_toInt64, Int32.toInt_toInt64, Int32.toInt_toInt64]
theorem nI_toInt_sub1 {n : Nat} (h : n < 1000) : (nI n - nI 1).toInt = (n : Int) - 1 := by
  have := pk_sub_toInt (a := n) (b := 1) (by omega) (by omega)
  exact this
theorem ent_of {x : Int32} {n : Nat} (hn : n < 1000) (h : (0 : Int64) ≤ x.toInt64 ∧ x.toInt64 ≤ (nI n - nI 1).toInt64) : ∃ j, x = nI j ∧ j < n := by
  rw [Int64.le_iff_toInt_le, Int64.le_iff_toInt_le, Int32.toInt_toInt64, Int32.toInt_toInt64, nI_toInt_sub1 hn] at h
  have h0 : (0 : Int64).toInt = 0 := by decide
  rw [h0] at h
  have hx : ¬ x < 0 := by
    rw [Int32.lt_iff_toInt_lt]
    have h1 : (0 : Int32).toInt = 0 := by decide
    omega
  obtain ⟨j, hj, rfl⟩ := nI_of hx
  rw [nI_toInt hj] at h
  exact ⟨j, rfl, by omega⟩
theorem ent_no {x : Int32} {n : Nat} (hn : n < 1000) (h : ¬ ((0 : Int64) ≤ x.toInt64 ∧ x.toInt64 ≤ (nI n - nI 1).toInt64)) : ∀ j, j < n → x ≠ nI j := by
  intro j hj e
  refine h ?_
  have h0 : (0 : Int64).toInt = 0 := by decide
  rw [Int64.le_iff_toInt_le, Int64.le_iff_toInt_le, Int32.toInt_toInt64, Int32.toInt_toInt64, nI_toInt_sub1 hn, h0, e, nI_toInt (by omega)]
  omega
theorem inn_of {x : Int32} {a b : Nat} (ha : a < 1000) (hb : b < 1000) (h : lN a ≤ x.toInt64 ∧ x.toInt64 ≤ lN b) : ∃ j, x = nI j ∧ a ≤ j ∧ j ≤ b := by
  rw [Int64.le_iff_toInt_le, Int64.le_iff_toInt_le, Int32.toInt_toInt64, lN_toInt (by omega), lN_toInt (by omega)] at h
  have hx : ¬ x < 0 := by
    rw [Int32.lt_iff_toInt_lt]
    have h1 : (0 : Int32).toInt = 0 := by decide
    omega
  obtain ⟨j, hj, rfl⟩ := nI_of hx
  rw [nI_toInt hj] at h
  exact ⟨j, rfl, by omega, by omega⟩
theorem inn_no {x : Int32} {a b : Nat} (ha : a < 1000) (hb : b < 1000) (h : ¬ (lN a ≤ x.toInt64 ∧ x.toInt64 ≤ lN b)) : ∀ j, a ≤ j → j ≤ b → x ≠ nI j := by
  intro j h1 h2 e
  refine h ?_
  rw [Int64.le_iff_toInt_le, Int64.le_iff_toInt_le, Int32.toInt_toInt64, lN_toInt (by omega), lN_toInt (by omega), e, nI_toInt (by omega)]
  omega
theorem dstep {t k1 P : Nat} (h : k1 ≤ t) (ht : t < 1000) (hP : P < 1000) : (k1 + P ≤ t → nI (t - k1) + (-1) * nI P = nI (t - (k1 + P))) ∧ (t < k1 + P → nI (t - k1) + (-1) * nI P < 0) :=
  ⟨fun h2 => by rw [nI_subm (by omega), Nat.sub_sub], fun h2 => nI_negm (by omega) (by omega)⟩
