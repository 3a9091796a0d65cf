/-! the decomposition: what each component is -/
def ft (P h : Nat) (v : Nat → Int32) (t : Nat) : Int64 := if P % 2 = 1 then quo (sm (xv v) (t - h + 1) (2 * h - 1) + (xv v (t - h) + xv v (t + h))) (lN P) else quo (2 * sm (xv v) (t - h + 1) (2 * h - 1) + (xv v (t - h) + xv v (t + h))) (2 * lN P)
def dv (P M h : Nat) (v : Nat → Int32) (t : Nat) : Int64 := if M = 0 then xv v t - ft P h v t else quo (10000 * xv v t) (ft P h v t)
/-- sums and counts over the places of one season -/
def sif (P s : Nat) (f : Nat → Int64) (a : Nat) : Nat → Int64
  | 0 => 0
  | k + 1 => if (a + k) % P = s then sif P s f a k + f (a + k) else sif P s f a k
def nif (P s a : Nat) : Nat → Nat
  | 0 => 0
  | k + 1 => if (a + k) % P = s then nif P s a k + 1 else nif P s a k
def raw (P M h n : Nat) (v w : Nat → Int32) (s : Nat) : Int64 := if sif P s (xv w) h (n - 2 * h) = 0 then quo (sif P s (dv P M h v) h (n - 2 * h)) (lN (nif P s h (n - 2 * h))) else quo (sif P s (fun t => xv w t * dv P M h v t) h (n - 2 * h)) (sif P s (xv w) h (n - 2 * h))
def zz (P M h n : Nat) (v w : Nat → Int32) : Int64 := sm (raw P M h n v w) 0 P
def mx1 (q : Int64) : Int64 := if q < 1 then 1 else q
def rat (P : Nat) (x z : Int64) : Int64 := if z = 0 then 1 else mx1 (quo (10000 * lN P * x) z)
def fac (P M h n : Nat) (v w : Nat → Int32) (s : Nat) : Int64 := if M = 0 then raw P M h n v w s - quo (zz P M h n v w) (lN P) else rat P (raw P M h n v w s) (zz P M h n v w)
def dst (P M h n : Nat) (v w : Nat → Int32) (t : Nat) : Int64 := absL (dv P M h v t - fac P M h n v w (t % P))
def wid (P M h n : Nat) (v w : Nat → Int32) : Int64 := quo (5 * sm (dst P M h n v w) h (n - 2 * h)) (4 * lN (n - 2 * h))
def wfor (D x : Int64) : Int32 := if x ≤ 3 * D then nI 100 else if 5 * D ≤ x then nI 0 else (quo (100 * (5 * D - x)) (2 * D)).toInt32
def wit (P M h n : Nat) (v : Nat → Int32) : Nat → Nat → Int32
  | 0 => fun _ => nI 100
  | k + 1 => fun t => wfor (wid P M h n v (wit P M h n v k)) (2 * dst P M h n v (wit P M h n v k) t)
def lev (P M h n : Nat) (v w : Nat → Int32) (t : Nat) : Int64 := if M = 0 then xv v t - fac P M h n v w (t % P) else quo (10000 * xv v t) (fac P M h n v w (t % P))
def sm5 (g : Nat → Int64) (t : Nat) : Int64 := quo (-73 * (g (t - 2) + g (t + 2)) + 294 * (g (t - 1) + g (t + 1)) + 558 * g t) 1000
def sm3 (a b c : Int64) : Int64 := quo (a + 2 * b + c) 4
def smo (n : Nat) (g : Nat → Int64) (t : Nat) : Int64 := if t = 0 then 2 * sm3 (g 0) (g 1) (g 2) - sm5 g 2 else if t = 1 then sm3 (g 0) (g 1) (g 2) else if t + 2 < n then sm5 g t else if t + 2 = n then sm3 (g (n - 1)) (g (n - 2)) (g (n - 3)) else 2 * sm3 (g (n - 1)) (g (n - 2)) (g (n - 3)) - sm5 g (n - 3)
def irr (M : Nat) (x y : Int64) : Int64 := if M = 0 then x - y else if 0 < y then quo (10000 * x) y else 10000
theorem sm_step {f : Nat → Int64} {a t : Nat} (h : a ≤ t) : sm f a (t + 1 - a) = sm f a (t - a) + f t := by
  rw [show t + 1 - a = (t - a) + 1 by omega]
  simp only [sm]
  rw [show a + (t - a) = t by omega]
theorem sif_step {P s : Nat} {f : Nat → Int64} {a t : Nat} (h : a ≤ t) : sif P s f a (t + 1 - a) = if t % P = s then sif P s f a (t - a) + f t else sif P s f a (t - a) := by
  rw [show t + 1 - a = (t - a) + 1 by omega]
  simp only [sif]
  rw [show a + (t - a) = t by omega]
theorem nif_step {P s a t : Nat} (h : a ≤ t) : nif P s a (t + 1 - a) = if t % P = s then nif P s a (t - a) + 1 else nif P s a (t - a) := by
  rw [show t + 1 - a = (t - a) + 1 by omega]
  simp only [nif]
  rw [show a + (t - a) = t by omega]
theorem nif_le (P s a : Nat) : ∀ k, nif P s a k ≤ k
  | 0 => Nat.le_refl 0
  | k + 1 => by
    have := nif_le P s a k
    simp only [nif]
    split <;> omega
theorem sif_congr {P s : Nat} {f f' : Nat → Int64} {a : Nat} : ∀ {k : Nat}, (∀ j, a ≤ j → j < a + k → f j = f' j) → sif P s f a k = sif P s f' a k
  | 0, _ => rfl
  | k + 1, h => by
    simp only [sif]
    rw [sif_congr (k := k) (fun j h1 h2 => h j h1 (by omega)), h (a + k) (by omega) (by omega)]
theorem abs_eq (x : Int64) : (if 0 < x then x else -x) = absL x := by
  unfold absL
  by_cases h1 : 0 < x
  · rw [if_pos h1, if_neg (Int64.not_lt.mpr (Int64.le_of_lt h1))]
  · rw [if_neg h1]
    by_cases h2 : x < 0
    · rw [if_pos h2]
    · have e : x = 0 := Int64.le_antisymm (Int64.not_lt.mp h1) (Int64.not_lt.mp h2)
      subst e
      decide
theorem raw_congr {P M h n : Nat} {v w w' : Nat → Int32} (hw : ∀ t, h ≤ t → t < h + (n - 2 * h) → w t = w' t) (s : Nat) : raw P M h n v w s = raw P M h n v w' s := by
  unfold raw
  have e1 : sif P s (xv w) h (n - 2 * h) = sif P s (xv w') h (n - 2 * h) := sif_congr (fun j h1 h2 => by simp only [xv]; rw [hw j h1 h2])
  have e2 : sif P s (fun t => xv w t * dv P M h v t) h (n - 2 * h) = sif P s (fun t => xv w' t * dv P M h v t) h (n - 2 * h) := sif_congr (fun j h1 h2 => by simp only [xv]; rw [hw j h1 h2])
  rw [e1, e2]
theorem fac_congr {P M h n : Nat} {v w w' : Nat → Int32} (hw : ∀ t, h ≤ t → t < h + (n - 2 * h) → w t = w' t) (s : Nat) : fac P M h n v w s = fac P M h n v w' s := by
  unfold fac zz
  rw [raw_congr hw s, sm_congr (f := raw P M h n v w) (f' := raw P M h n v w') (fun j _ _ => raw_congr hw j)]
theorem dst_congr {P M h n : Nat} {v w w' : Nat → Int32} (hw : ∀ t, h ≤ t → t < h + (n - 2 * h) → w t = w' t) (t : Nat) : dst P M h n v w t = dst P M h n v w' t := by
  unfold dst
  rw [fac_congr hw]
theorem wid_congr {P M h n : Nat} {v w w' : Nat → Int32} (hw : ∀ t, h ≤ t → t < h + (n - 2 * h) → w t = w' t) : wid P M h n v w = wid P M h n v w' := by
  unfold wid
  rw [sm_congr (f := dst P M h n v w) (f' := dst P M h n v w') (fun j _ _ => dst_congr hw j)]
theorem lev_congr {P M h n : Nat} {v w w' : Nat → Int32} (hw : ∀ t, h ≤ t → t < h + (n - 2 * h) → w t = w' t) (t : Nat) : lev P M h n v w t = lev P M h n v w' t := by
  unfold lev
  rw [fac_congr hw]
theorem sm5_congr {g g' : Nat → Int64} {t : Nat} (h : ∀ j, t - 2 ≤ j → j ≤ t + 2 → g j = g' j) : sm5 g t = sm5 g' t := by
  unfold sm5
  rw [h (t - 2) (by omega) (by omega), h (t + 2) (by omega) (by omega), h (t - 1) (by omega) (by omega), h (t + 1) (by omega) (by omega), h t (by omega) (by omega)]
theorem smo_congr {n : Nat} {g g' : Nat → Int64} (hn : 5 ≤ n) (h : ∀ j, j < n → g j = g' j) {t : Nat} (ht : t < n) : smo n g t = smo n g' t := by
  unfold smo
  rw [h 0 (by omega), h 1 (by omega), h 2 (by omega), h (n - 1) (by omega), h (n - 2) (by omega), h (n - 3) (by omega), sm5_congr (g := g) (g' := g') (t := 2) (fun j _ h2 => h j (by omega)), sm5_congr (g := g) (g' := g') (t := n - 3) (fun j _ h2 => h j (by omega))]
  by_cases e : t + 2 < n
  · rw [sm5_congr (g := g) (g' := g') (t := t) (fun j _ h2 => h j (by omega))]
  · simp only [if_neg e]
