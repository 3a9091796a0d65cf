/-! what holds between the class and the reference, call after call -/
def GD (P M R n : Nat) (v g d : Nat → Int32) : Prop := 2 ≤ P ∧ P ≤ 12 ∧ M ≤ 1 ∧ R ≤ 5 ∧ n ≤ 72 ∧ G01 n g ∧ GVg M n v g ∧ GDD n d
def GDx (X : SC) : Prop := GD X.1 X.2.1 X.2.2.1 X.2.2.2.1 X.2.2.2.2.1 X.2.2.2.2.2.1 X.2.2.2.2.2.2
def RMx (nw : Nat → Int32) (X : SC) : Prop := RM nw X.1 X.2.1 X.2.2.1 X.2.2.2.1 X.2.2.2.2.1 X.2.2.2.2.2.1 X.2.2.2.2.2.2
def LI (P M R n : Nat) (v g d : Nat → Int32) (hc : Nat) (sf : Nat → Option Nat) (AD : Nat → A4) (Z : Nat → SC) (sb : Nat) (wd : Int64) (oc fr tt : Nat) (f1 : Nat → Int64) (f2 : Nat → Int64) (f3 : Nat → Int32) (f4 : Nat → Int64) (f5 : Nat → Int64) (f6 : Nat → Int64) (f7 : Nat → Int64) (f8 : Nat → Int64) (f9 : Nat → Int32) (f10 : Nat → Int32) (nw pp : Nat → Int32) : Prop :=
  GD P M R n v g d ∧ XI sb P M R n v g wd oc fr tt f1 f2 f3 f4 f5 f6 f7 f8 f9 f10 ∧ hc ≤ 4 ∧ asz sf AD ∧ RM nw P M R n v g d ∧ (∀ k, k < hc → RMx (fun i => pp (220 * k + i)) (Z k) ∧ GDx (Z k))
theorem G01_gb {n : Nat} {g : Nat → Int32} (h : G01 n g) : gb n g := fun t ht => by
  rcases h t ht with h9 | h9 <;> rw [h9] <;> decide
theorem GD_ext {P M R n : Nat} {v g d v' g' d' : Nat → Int32} (h : GD P M R n v g d) (h2 : ∀ t, t < n → v' t = v t ∧ g' t = g t ∧ d' t = d t) : GD P M R n v' g' d' := by
  obtain ⟨h1, h3, h4, h5, h6, h7, h8, h9⟩ := h
  exact ⟨h1, h3, h4, h5, h6, fun t ht => by rw [(h2 t ht).2.1]; exact h7 t ht, fun t ht hg => by rw [(h2 t ht).2.1] at hg; rw [(h2 t ht).1]; exact h8 t ht hg, fun t ht => by rw [(h2 t ht).2.2]; exact h9 t ht⟩
theorem SEQ_GD {X Y : SC} (h : SEQ X Y) (hg : GDx Y) : GDx X := by
  obtain ⟨h1, h2, h3, h4, h5⟩ := h
  have := GD_ext (P := Y.1) (M := Y.2.1) (R := Y.2.2.1) (n := Y.2.2.2.1) hg h5
  unfold GDx
  rw [h1, h2, h3, h4]; exact this
theorem SEQ_RM {X Y : SC} (h : SEQ X Y) {nw : Nat → Int32} (hg : RMx nw Y) : RMx nw X := by
  obtain ⟨h1, h2, h3, h4, h5⟩ := h
  have := RM_ext (P := Y.1) (M := Y.2.1) (R := Y.2.2.1) (n := Y.2.2.2.1) hg h5
  unfold RMx
  rw [h1, h2, h3, h4]; exact this
theorem RMx_congr {nw nw' : Nat → Int32} {X : SC} (h : RMx nw X) (hn : X.2.2.2.1 ≤ 72) (h2 : ∀ i, i < 220 → nw' i = nw i) : RMx nw' X := RM_congr h hn h2
theorem GDx_n {X : SC} (h : GDx X) : X.2.2.2.1 ≤ 72 := h.2.2.2.2.1
/-- a saved state joins the others -/
theorem hist_sv {hc c2 c3 : Nat} {Z Z2 : Nat → SC} {pp pp2 nw : Nat → Int32} {X : SC} (hh : hc ≤ 4) (h : ∀ k, k < hc → RMx (fun i => pp (220 * k + i)) (Z k) ∧ GDx (Z k)) (hr : RMx nw X) (hg : GDx X) (hz : HSV hc Z X c2 Z2) (hm : MSV hc pp nw c3 pp2) : c3 = c2 ∧ c2 ≤ 4 ∧ (∀ k, k < c2 → RMx (fun i => pp2 (220 * k + i)) (Z2 k) ∧ GDx (Z2 k)) := by
  obtain ⟨z1, z2, z3⟩ := hz
  obtain ⟨y1, y2, y3⟩ := hm
  have e : c3 = c2 := y1.trans z1.symm
  subst e
  refine ⟨rfl, ?_, fun k hk => ?_⟩
  · by_cases h4 : hc = 4
    · rw [if_pos h4] at z1; omega
    · rw [if_neg h4] at z1; omega
  · rcases Nat.lt_or_ge (k + 1) c3 with h9 | h9
    · have hk2 : k + (if hc = 4 then 1 else 0) < hc := by
        by_cases h4 : hc = 4
        · rw [if_pos h4] at z1 ⊢; omega
        · rw [if_neg h4] at z1 ⊢; omega
      obtain ⟨g1, g2⟩ := h _ hk2
      rw [z2 k h9]
      exact ⟨RMx_congr g1 (GDx_n g2) (fun i hi => y2 k h9 i hi), g2⟩
    · have ek : k = c3 - 1 := by omega
      rw [ek]
      exact ⟨RMx_congr (SEQ_RM z3 hr) (GDx_n (SEQ_GD z3 hg)) y3, SEQ_GD z3 hg⟩
section LM
variable {P M R n : Nat} {v g d : Nat → Int32} {hc : Nat} {sf : Nat → Option Nat} {AD : Nat → A4} {Z : Nat → SC} {sb : Nat} {wd : Int64} {oc fr tt : Nat} {f1 : Nat → Int64} {f2 : Nat → Int64} {f3 : Nat → Int32} {f4 : Nat → Int64} {f5 : Nat → Int64} {f6 : Nat → Int64} {f7 : Nat → Int64} {f8 : Nat → Int64} {f9 : Nat → Int32} {f10 : Nat → Int32} {nw pp : Nat → Int32}
theorem LI_mut (h : LI P M R n v g d hc sf AD Z sb wd oc fr tt f1 f2 f3 f4 f5 f6 f7 f8 f9 f10 nw pp) {c2 c3 : Nat} {sf2 : Nat → Option Nat} {AD2 : Nat → A4} {Z2 : Nat → SC} {pp2 : Nat → Int32} (hf : asz sf2 AD2) (hz : HSV hc Z (P, M, R, n, v, g, d) c2 Z2) (hm : MSV hc pp nw c3 pp2)
    {P' M' R' n' : Nat} {v' g' d' nw' : Nat → Int32} (hg : GD P' M' R' n' v' g' d') (hr : RM nw' P' M' R' n' v' g' d') (wd2 : Int64) (oc2 fr2 tt2 : Nat) (g1 : Nat → Int64) (g2 : Nat → Int64) (g3 : Nat → Int32) (g4 : Nat → Int64) (g5 : Nat → Int64) (g6 : Nat → Int64) (g7 : Nat → Int64) (g8 : Nat → Int64) (g9 : Nat → Int32) (g10 : Nat → Int32) : LI P' M' R' n' v' g' d' c2 sf2 AD2 Z2 1 wd2 oc2 fr2 tt2 g1 g2 g3 g4 g5 g6 g7 g8 g9 g10 nw' pp2 := by
  obtain ⟨h1, h2, h3, h4, h5, h6⟩ := h
  obtain ⟨k1, k2, k3⟩ := hist_sv (X := (P, M, R, n, v, g, d)) h3 h6 h5 h1 hz hm
  exact ⟨hg, ⟨Nat.le_refl 1, fun z => absurd z (by decide)⟩, k2, hf, hr, k3⟩
theorem LI_hc (h : LI P M R n v g d hc sf AD Z sb wd oc fr tt f1 f2 f3 f4 f5 f6 f7 f8 f9 f10 nw pp) {c2 c3 : Nat} {Z2 : Nat → SC} {pp2 : Nat → Int32} (hz : HSV hc Z (P, M, R, n, v, g, d) c2 Z2) (hm : MSV hc pp nw c3 pp2) : c3 = c2 := hm.1.trans hz.1.symm
theorem LI_parts (h : LI P M R n v g d hc sf AD Z sb wd oc fr tt f1 f2 f3 f4 f5 f6 f7 f8 f9 f10 nw pp) {sb2 : Nat} {wd2 : Int64} {oc2 fr2 tt2 : Nat} {g1 : Nat → Int64} {g2 : Nat → Int64} {g3 : Nat → Int32} {g4 : Nat → Int64} {g5 : Nat → Int64} {g6 : Nat → Int64} {g7 : Nat → Int64} {g8 : Nat → Int64} {g9 : Nat → Int32} {g10 : Nat → Int32} (hx : XI sb2 P M R n v g wd2 oc2 fr2 tt2 g1 g2 g3 g4 g5 g6 g7 g8 g9 g10) : LI P M R n v g d hc sf AD Z sb2 wd2 oc2 fr2 tt2 g1 g2 g3 g4 g5 g6 g7 g8 g9 g10 nw pp := ⟨h.1, hx, h.2.2⟩
theorem LI_undo (h : LI P M R n v g d hc sf AD Z sb wd oc fr tt f1 f2 f3 f4 f5 f6 f7 f8 f9 f10 nw pp) {c2 c3 : Nat} {X : SC} {nw2 : Nat → Int32} (hs : SEQ X (Z (hc - 1))) (hc2 : c2 + 1 = hc) (hc3 : c3 + 1 = hc) (hn : ∀ i, i < 220 → nw2 i = pp (220 * c3 + i)) : LI X.1 X.2.1 X.2.2.1 X.2.2.2.1 X.2.2.2.2.1 X.2.2.2.2.2.1 X.2.2.2.2.2.2 c2 sf AD Z 1 wd oc fr tt f1 f2 f3 f4 f5 f6 f7 f8 f9 f10 nw2 pp := by
  obtain ⟨h1, h2, h3, h4, h5, h6⟩ := h
  obtain ⟨g1, g2⟩ := h6 (hc - 1) (by omega)
  have hX := SEQ_GD hs g2
  have e : c3 = hc - 1 := by omega
  refine ⟨hX, ⟨Nat.le_refl 1, fun z => absurd z (by decide)⟩, by omega, h4, ?_, fun k hk => h6 k (by omega)⟩
  exact RMx_congr (SEQ_RM hs g1) (GDx_n hX) (fun i hi => by rw [hn i hi, e])
end LM
-- the calls keep a good series
section GK
variable {P M R n : Nat} {v g d : Nat → Int32}
theorem GD_P (h : GD P M R n v g d) {j : Nat} (h1 : 2 ≤ j) (h2 : j ≤ 12) : GD j M R n v g d := ⟨h1, h2, h.2.2⟩
theorem GD_M (h : GD P M R n v g d) {j : Nat} (h2 : j ≤ 1) (hl : j = 1 → ¬ low n v g) : GD P j R n v g d := by
  obtain ⟨h1, h3, h4, h5, h6, h7, h8, h9⟩ := h
  refine ⟨h1, h3, h2, h5, h6, h7, fun t ht hg => ?_, h9⟩
  have h10 := h8 t ht hg
  rcases (show j = 0 ∨ j = 1 by omega) with e | e
  · rw [if_pos e]
    refine ⟨?_, h10.2⟩
    have h11 := h10.1
    split at h11 <;> omega
  · rw [if_neg (by omega)]
    refine ⟨?_, h10.2⟩
    have h12 : nI 1 ≤ v t := Decidable.by_contra fun z => hl e ⟨t, ht, hg, z⟩
    rw [Int32.le_iff_toInt_le] at h12
    exact h12
theorem GD_R (h : GD P M R n v g d) {j : Nat} (h2 : j ≤ 5) : GD P M j n v g d := by
  obtain ⟨h1, h3, h4, h5, h6⟩ := h
  exact ⟨h1, h3, h4, h2, h6⟩
theorem lv_int {x : Int32} (hM : M ≤ 1) (h : (if M = 1 then nI 1 else -1000000) ≤ x ∧ x ≤ nI 1000000) : (if M = 0 then -1000000 else 1) ≤ x.toInt ∧ x.toInt ≤ 1000000 := by
  obtain ⟨h1, h2⟩ := h
  rw [Int32.le_iff_toInt_le] at h1 h2
  have c1 : (nI 1000000).toInt = 1000000 := by decide
  have c2 : (nI 1).toInt = 1 := by decide
  have c3 : (-1000000 : Int32).toInt = -1000000 := by decide
  rw [c1] at h2
  rcases (show M = 0 ∨ M = 1 by omega) with e | e
  · rw [if_neg (by omega), c3] at h1; rw [if_pos e]; exact ⟨h1, h2⟩
  · rw [if_pos e, c2] at h1; rw [if_neg (by omega)]; exact ⟨h1, h2⟩
theorem GD_add (h : GD P M R n v g d) (hn : n < 72) {x y : Int32} (hy : (y = nI 0 ∧ ((if M = 1 then nI 1 else -1000000) ≤ x ∧ x ≤ nI 1000000)) ∨ y = nI 1) : GD P M R (n + 1) (upd v n x) (upd g n y) (upd d n (nI 20)) := by
  obtain ⟨h1, h3, h4, h5, h6, h7, h8, h9⟩ := h
  refine ⟨h1, h3, h4, h5, by omega, fun t ht => ?_, fun t ht hg => ?_, fun t ht => ?_⟩
  · by_cases e : t = n
    · subst e; rw [pk_us]; rcases hy with hy | hy
      · exact Or.inl hy.1
      · exact Or.inr hy
    · rw [pk_un e]; exact h7 t (by omega)
  · by_cases e : t = n
    · subst e; rw [pk_us] at hg ⊢
      rcases hy with hy | hy
      · exact lv_int h4 hy.2
      · rw [hy] at hg; exact absurd hg (by decide)
    · rw [pk_un e] at hg ⊢; exact h8 t (by omega) hg
  · by_cases e : t = n
    · subst e; rw [pk_us]; decide
    · rw [pk_un e]; exact h9 t (by omega)
theorem GD_set (h : GD P M R n v g d) (j : Nat) {x y : Int32} (hy : (y = nI 0 ∧ ((if M = 1 then nI 1 else -1000000) ≤ x ∧ x ≤ nI 1000000)) ∨ y = nI 1) : GD P M R n (upd v j x) (upd g j y) d := by
  obtain ⟨h1, h3, h4, h5, h6, h7, h8, h9⟩ := h
  refine ⟨h1, h3, h4, h5, h6, G01_upd h7 j (by rcases hy with hy | hy; exact Or.inl hy.1; exact Or.inr hy), fun t ht hg => ?_, h9⟩
  by_cases e : t = j
  · subst e; rw [pk_us] at hg ⊢
    rcases hy with hy | hy
    · exact lv_int h4 hy.2
    · rw [hy] at hg; exact absurd hg (by decide)
  · rw [pk_un e] at hg ⊢; exact h8 t ht hg
theorem GD_d (h : GD P M R n v g d) (j : Nat) {x : Int32} (hx : nI 0 ≤ x ∧ x ≤ nI 31) : GD P M R n v g (upd d j x) := by
  obtain ⟨h1, h3, h4, h5, h6, h7, h8, h9⟩ := h
  refine ⟨h1, h3, h4, h5, h6, h7, h8, fun t ht => ?_⟩
  by_cases e : t = j
  · subst e; rw [pk_us]
    obtain ⟨k1, k2⟩ := hx
    rw [Int32.le_iff_toInt_le] at k1 k2
    exact ⟨k1, k2⟩
  · rw [pk_un e]; exact h9 t ht
theorem GD_n (h : GD P M R n v g d) {j : Nat} (hj : j ≤ n) : GD P M R j v g d := by
  obtain ⟨h1, h3, h4, h5, h6, h7, h8, h9⟩ := h
  exact ⟨h1, h3, h4, h5, by omega, fun t ht => h7 t (by omega), fun t ht hg => h8 t (by omega) hg, fun t ht => h9 t (by omega)⟩
theorem filv_btw (h : GD P M R n v g d) {t : Nat} (ht : t < n) (hu : ¬ (dnb P g t = none ∧ unb P n g t = none)) : (if M = 0 then -1000000 else 1) ≤ (filv P n v g t).toInt ∧ (filv P n v g t).toInt ≤ 1000000 := by
  obtain ⟨h1, h3, h4, h5, h6, h7, h8, h9⟩ := h
  have hlo := lo_m M
  unfold GVg at h8
  unfold filv
  cases hd : dnb P g t with
  | none =>
    cases hq : unb P n g t with
    | none => exact absurd ⟨hd, hq⟩ hu
    | some b => have hb := unb_lt hq; exact h8 b hb.2.1 hb.2.2
  | some a =>
    have ha := dnb_lt hd
    have ka := h8 a (by omega) ha.2
    cases hq : unb P n g t with
    | none => exact ka
    | some b =>
      have hb := unb_lt hq
      have kb := h8 b hb.2.1 hb.2.2
      generalize (if M = 0 then -1000000 else 1 : Int) = lo at *
      have c2 : (2 : Int64).toInt = 2 := by decide
      have e1 : (xv v a + xv v b).toInt = (v a).toInt + (v b).toInt := by rw [tI_add (by rw [xv_int, xv_int]; omega) (by rw [xv_int, xv_int]; omega), xv_int, xv_int]
      have := quo_btw (a := xv v a + xv v b) (b := 2) (lo := lo) (hi := 1000000) (by rw [c2]; omega) (by rw [e1]; omega) (by rw [e1]; omega) (by rw [e1, c2]; omega) (by rw [e1, c2]; omega)
      show lo ≤ ((quo (xv v a + xv v b) 2).toInt32).toInt ∧ ((quo (xv v a + xv v b) 2).toInt32).toInt ≤ 1000000
      rw [Int64.toInt_toInt32, Int.bmod_eq_of_le_mul_two (by omega) (by omega)]
      exact this
theorem GD_fill (h : GD P M R n v g d) (hu : ¬ unf P n g) {v2 g2 : Nat → Int32} (hv : ∀ t, t < n → v2 t = if g t = 0 then v t else filv P n v g t) (hg : ∀ t, t < n → g2 t = 0) : GD P M R n v2 g2 d := by
  have h0 := h
  obtain ⟨h1, h3, h4, h5, h6, h7, h8, h9⟩ := h
  refine ⟨h1, h3, h4, h5, h6, fun t ht => Or.inl ((hg t ht).trans nI_0.symm), fun t ht _ => ?_, h9⟩
  rw [hv t ht]
  by_cases hgt : g t = 0
  · rw [if_pos hgt]; exact h8 t ht hgt
  · rw [if_neg hgt]; exact filv_btw h0 ht (fun z => hu ⟨t, ht, hgt, z⟩)
theorem RM_fill {nw : Nat → Int32} {v2 g2 v3 g3 : Nat → Int32} (h : RM nw P M R n v3 g3 d) (hv : ∀ t, t < n → v2 t = if g t = 0 then v t else filv P n v g t) (hg : ∀ t, t < n → g2 t = 0) (hv3 : ∀ t, t < n → v3 t = if g t = 0 then v t else filv P n v g t) (hg3 : ∀ t, t < n → g3 t = 0) : RM nw P M R n v2 g2 d :=
  RM_ext h (fun t ht => ⟨(hv t ht).trans (hv3 t ht).symm, (hg t ht).trans (hg3 t ht).symm, rfl⟩)
theorem clamp_btw (x : Int64) : -1000000 ≤ (clampL x).toInt32.toInt ∧ (clampL x).toInt32.toInt ≤ 1000000 := by
  have c1 : (1000000 : Int64).toInt = 1000000 := by decide
  have c2 : (-1000000 : Int64).toInt = -1000000 := by decide
  have h : -1000000 ≤ (clampL x).toInt ∧ (clampL x).toInt ≤ 1000000 := by
    rw [clamp_eq]
    by_cases h1 : x < -1000000
    · rw [if_pos h1, c2]; omega
    · rw [if_neg h1]
      by_cases h2 : 1000000 < x
      · rw [if_pos h2, c1]; omega
      · rw [if_neg h2]
        rw [tI_lt, c2] at h1
        rw [tI_lt, c1] at h2
        omega
  rw [Int64.toInt_toInt32, Int.bmod_eq_of_le_mul_two (by omega) (by omega)]
  exact h
theorem GD_days (h : GD P M R n v g d) (hm : M = 0) {B tot : Int64} {v2 : Nat → Int32} (hv : ∀ t, t < n → v2 t = (sdv n v d B tot t).toInt32) : GD P M R n v2 g d := by
  obtain ⟨h1, h3, h4, h5, h6, h7, h8, h9⟩ := h
  refine ⟨h1, h3, h4, h5, h6, h7, fun t ht _ => ?_, h9⟩
  rw [hv t ht, if_pos hm]
  exact clamp_btw _
theorem RM_days {nw : Nat → Int32} {B tot : Int64} {v2 v3 : Nat → Int32} (h : RM nw P M R n v3 g d) (hv : ∀ t, t < n → v2 t = (sdv n v d B tot t).toInt32) (hv3 : ∀ t, t < n → v3 t = (sdv n v d B tot t).toInt32) : RM nw P M R n v2 g d :=
  RM_ext h (fun t ht => ⟨(hv t ht).trans (hv3 t ht).symm, rfl, rfl⟩)
end GK
