/-! the class: what its calls answer -/
theorem idx_of {x : Int32} {n : Nat} (h1 : ¬ x < 0) (h2 : x < nI n) (hn : n < 2 ^ 31) : ∃ j, x = nI j ∧ j < n := by
  obtain ⟨j, hj, rfl⟩ := nI_of h1
  exact ⟨j, rfl, (nI_ltI hj hn).mp h2⟩
theorem rng_of {x : Int32} {a b : Nat} (h1 : nI a ≤ x) (h2 : x ≤ nI b) (ha : a < 2 ^ 31) (hb : b < 2 ^ 31) : ∃ j, x = nI j ∧ a ≤ j ∧ j ≤ b := by
  have h0 : ¬ x < 0 := Int32.not_lt.mpr (Int32.le_trans (nI_pos' ha) h1)
  obtain ⟨j, hj, rfl⟩ := nI_of h0
  exact ⟨j, rfl, (nI_leI ha hj).mp h1, (nI_leI hj hb).mp h2⟩
theorem nI_neg_ne {x : Int32} (h : x < 0) {j : Nat} (hj : j < 2 ^ 31) : x ≠ nI j := fun e => nI_pos hj (by rw [← e]; exact h)
/-- the parts, where they aren't stale -/
def XI (sb P M R n : Nat) (v g : Nat → Int32) (wd : Int64) (oc fr tt : Nat) (f1 : Nat → Int64) (f2 : Nat → Int64) (f3 : Nat → Int32) (f4 : Nat → Int64) (f5 : Nat → Int64) (f6 : Nat → Int64) (f7 : Nat → Int64) (f8 : Nat → Int64) (f9 : Nat → Int32) (f10 : Nat → Int32) : Prop := sb ≤ 1 ∧ (sb = 0 → dcm P n g ∧ PRT P M R n v wd oc f1 f2 f3 f4 f5 f6 f7 f8 f9 f10 ∧ fr = P / 2 ∧ tt = (n - 1) - (P / 2))
abbrev wR (P M R n : Nat) (v : Nat → Int32) : Nat → Int32 := wit P M (P / 2) n v R
abbrev dR (P M R n : Nat) (v : Nat → Int32) : Nat → Int64 := dst P M (P / 2) n v (wR P M R n v)
abbrev fR (P M R n : Nat) (v : Nat → Int32) : Nat → Int64 := fac P M (P / 2) n v (wR P M R n v)
abbrev lR (P M R n : Nat) (v : Nat → Int32) : Nat → Int64 := lev P M (P / 2) n v (wR P M R n v)
abbrev tR (P M R n : Nat) (v : Nat → Int32) : Nat → Int64 := smo n (lR P M R n v)
abbrev iR (P M R n : Nat) (v : Nat → Int32) : Nat → Int64 := fun t => irr M (lR P M R n v t) (tR P M R n v t)
def fct (P M n : Nat) (T F : Nat → Int64) (k : Nat) : Int64 := if M = 0 then (T (n - 1) + quo (lN k * (T (n - 1) - T (n - 1 - min P (n - 1)))) (lN (min P (n - 1)))) + F ((n - 1 + k) % P) else quo ((T (n - 1) + quo (lN k * (T (n - 1) - T (n - 1 - min P (n - 1)))) (lN (min P (n - 1)))) * F ((n - 1 + k) % P)) 10000
def dpr (n : Nat) (d : Nat → Int32) (I : Nat → Int64) : Int64 := sm (fun t => exd n d (sm (xv d) 0 n) t * I t) 0 n
def dsq (n : Nat) (d : Nat → Int32) : Int64 := sm (fun t => exd n d (sm (xv d) 0 n) t * exd n d (sm (xv d) 0 n) t) 0 n
def deff (n : Nat) (d : Nat → Int32) (I : Nat → Int64) : Int64 := quo (1000 * lN n * dpr n d I) (dsq n d)
def orank (W : Nat → Int32) (D : Nat → Int64) (h n T : Nat) : Nat := osum W (fun u => if ahB W D u T = true then 1 else 0) h (n - 2 * h)
def frank (F : Nat → Int64) (P T : Nat) : Nat := nsum (fun u => if fhB F u T = true then 1 else 0) P
theorem osum_congr2 {w w' : Nat → Int32} {F F' : Nat → Nat} {a : Nat} : ∀ {k : Nat}, (∀ j, a ≤ j → j < a + k → w j = w' j) → (∀ j, a ≤ j → j < a + k → F j = F' j) → osum w F a k = osum w' F' a k
  | 0, _, _ => rfl
  | k + 1, h, h2 => by
    simp only [osum]
    rw [osum_congr2 (k := k) (fun j a1 a2 => h j a1 (by omega)) (fun j a1 a2 => h2 j a1 (by omega)), h (a + k) (by omega) (by omega), h2 (a + k) (by omega) (by omega)]
theorem OUT_get {w W : Nat → Int32} {ds D : Nat → Int64} {h n c : Nat} {o : Nat → Int32} {pz : Nat → Nat} (ho : OUT w ds h (n - 1 - h) o pz c (n - h)) (hn : 2 * h < n) (hw : ∀ t, h ≤ t → t + h < n → w t = W t) (hd : ∀ t, h ≤ t → t + h < n → ds t = D t) {j : Nat} (hj : j < c) : ∃ T, o j = nI T ∧ h ≤ T ∧ T + h < n ∧ ¬ nI 100 ≤ W T ∧ orank W D h n T = j := by
  obtain ⟨h1, h2, h3⟩ := ho
  obtain ⟨e1, e2, e3, e4⟩ := h1 j hj
  have hT : pz j + h < n := by omega
  refine ⟨pz j, e1, e2, hT, by rw [← hw _ e2 hT]; exact e4, ?_⟩
  have h4 := h3 (fun u => if ahB w ds u (pz j) = true then 1 else 0)
  rw [srt_rank (ahB_TO w ds) h2 hj] at h4
  unfold orank
  rw [show n - h - h = n - 2 * h by omega] at h4
  refine Eq.trans ?_ h4
  refine osum_congr2 (fun t a1 a2 => (hw t a1 (by omega)).symm) (fun t a1 a2 => ?_)
  have ha : ahB W D t (pz j) = ahB w ds t (pz j) := by
    unfold ahB
    rw [hw t a1 (by omega), hw _ e2 hT, hd t a1 (by omega), hd _ e2 hT]
  rw [ha]
theorem OUT_cnt2 {w W : Nat → Int32} {ds : Nat → Int64} {h n c : Nat} {o : Nat → Int32} {pz : Nat → Nat} (ho : OUT w ds h (n - 1 - h) o pz c (n - h)) (hw : ∀ t, h ≤ t → t + h < n → w t = W t) : c = osum W (fun _ => 1) h (n - 2 * h) := by
  rw [OUT_cnt ho, show n - h - h = n - 2 * h by omega]
  exact osum_congr (fun t a1 a2 => hw t a1 (by omega))
theorem SEA_get {fa F : Nat → Int64} {P : Nat} {o : Nat → Int32} {pz : Nat → Nat} (ho : SEA fa o pz P) (hf : ∀ s, s < P → fa s = F s) {j : Nat} (hj : j < P) : ∃ T, o j = nI T ∧ T < P ∧ frank F P T = j := by
  obtain ⟨h1, h2, h3⟩ := ho
  obtain ⟨e1, e2⟩ := h1 j hj
  refine ⟨pz j, e1, e2, ?_⟩
  have h4 := h3 (fun u => if fhB fa u (pz j) = true then 1 else 0)
  rw [srt_rank (fhB_TO fa) h2 hj] at h4
  unfold frank
  refine Eq.trans ?_ h4
  refine nsum_congr (fun t a2 => ?_)
  have ha : fhB F t (pz j) = fhB fa t (pz j) := by
    unfold fhB
    rw [hf t a2, hf _ e2]
  rw [ha]
theorem hf_congr {f f' : Nat → Int64} {a : Nat} {h0 : Int64} : ∀ {k : Nat}, (∀ j, a ≤ j → j < a + k → f j = f' j) → hf f a h0 k = hf f' a h0 k
  | 0, _ => rfl
  | k + 1, h => by
    simp only [hf]
    rw [hf_congr (k := k) (fun j a1 a2 => h j a1 (by omega)), h (a + k) (by omega) (by omega)]
theorem hf2_congr {f f' g g' : Nat → Int64} {h0 : Int64} : ∀ {k : Nat}, (∀ j, j < k → f j = f' j) → (∀ j, j < k → g j = g' j) → hf2 f g h0 k = hf2 f' g' h0 k
  | 0, _, _ => rfl
  | k + 1, h, h2 => by
    simp only [hf2]
    rw [hf2_congr (k := k) (fun j a1 => h j (by omega)) (fun j a1 => h2 j (by omega)), h k (by omega), h2 k (by omega)]
theorem ahs_congr {P n fr oc : Nat} {wd : Int64} {fa fa' : Nat → Int64} {w w' : Nat → Int32} {s s' r r' : Nat → Int64} {h0 : Int64} (h1 : ∀ j, j < P → fa j = fa' j) (h2 : ∀ t, fr ≤ t → t + fr < n → w t = w' t) (h3 : ∀ t, t < n → s t = s' t) (h4 : ∀ t, t < n → r t = r' t) : ahs P n fr oc wd fa w s r h0 = ahs P n fr oc wd fa' w' s' r' h0 := by
  unfold ahs
  rw [hf2_congr h3 h4, hf_congr (f := fa) (f' := fa') (fun j _ a2 => h1 j (by omega)), hf_congr (f := xv w) (f' := xv w') (fun j a1 a2 => by simp only [xv]; rw [h2 j a1 (by omega)])]
def dg0 (c P M R n : Nat) : Int64 := hx (hx (hx (hx (hx 11981 (lN c)) (lN P)) (lN M)) (lN R)) (lN n)
def dge (v g d : Nat → Int32) (h0 : Int64) : Nat → Int64
  | 0 => h0
  | k + 1 => hx (hx (hx (dge v g d h0 k) (lN (if g k = 0 then 0 else 1))) (xv v k)) (xv d k)
theorem gb_upd {n : Nat} {g : Nat → Int32} (h : gb n g) (j : Nat) {x : Int32} (hx : vp_nar .boolean x = x) : gb n (upd g j x) := by
  intro t ht
  by_cases e : t = j
  · subst e; rw [pk_us]; exact hx
  · rw [pk_un e]; exact h t ht
