/-! the reference's passes, over plain numbers -/
abbrev cgZ (A : MzT) (u m v : Nat) : Prop := ¬ u = m ∧ A u m < (1125899906842624 : Int) ∧ A m v < (1125899906842624 : Int) ∧ A u m + A m v < A u v
def stZ (A : MzT) (u v : Nat) (x : Int) : MzT := fun i j => if i = u ∧ j = v then x else A i j
def upZ (A : MzT) (u m v : Nat) : MzT := if cgZ A u m v then stZ A u v (A u m + A m v) else A
theorem up_le {A : MzT} {u m v : Nat} (x y : Nat) : upZ A u m v x y ≤ A x y := by
  unfold upZ
  by_cases g : cgZ A u m v
  · rw [if_pos g]
    unfold stZ
    by_cases e : x = u ∧ y = v
    · rw [if_pos e, e.1, e.2]; have := g.2.2.2; omega
    · rw [if_neg e]; omega
  · rw [if_neg g]; omega
theorem up_ne {A : MzT} {u m v x y : Nat} (h : ¬ (x = u ∧ y = v)) : upZ A u m v x y = A x y := by
  unfold upZ
  by_cases g : cgZ A u m v
  · rw [if_pos g]; exact if_neg h
  · rw [if_neg g]
theorem up_at {A : MzT} {u m v : Nat} : upZ A u m v u v = if cgZ A u m v then A u m + A m v else A u v := by
  unfold upZ
  by_cases g : cgZ A u m v
  · rw [if_pos g, if_pos g]; exact if_pos ⟨rfl, rfl⟩
  · rw [if_neg g, if_neg g]
def tU (t : Nat) : Nat := t / 100
def tM (t : Nat) : Nat := t / 10 % 10
def tV (t : Nat) : Nat := t % 10
/-- k steps from step t on -/
def psZ : Nat → Nat → MzT → MzT
  | 0, _, A => A
  | k + 1, t, A => psZ k (t + 1) (upZ A (tU t) (tM t) (tV t))
def fgZ : Nat → Nat → MzT → Bool → Bool
  | 0, _, _, f => f
  | k + 1, t, A, f => fgZ k (t + 1) (upZ A (tU t) (tM t) (tV t)) (if cgZ A (tU t) (tM t) (tV t) then true else f)
theorem ps_add : ∀ (j k t : Nat) (A : MzT), psZ (j + k) t A = psZ k (t + j) (psZ j t A)
  | 0, k, t, A => by rw [Nat.zero_add]; rfl
  | j + 1, k, t, A => by
    rw [show j + 1 + k = (j + k) + 1 by omega]
    show psZ (j + k) (t + 1) _ = psZ k (t + (j + 1)) (psZ j (t + 1) _)
    rw [ps_add j k (t + 1), show t + 1 + j = t + (j + 1) by omega]
theorem fg_add : ∀ (j k t : Nat) (A : MzT) (f : Bool), fgZ (j + k) t A f = fgZ k (t + j) (psZ j t A) (fgZ j t A f)
  | 0, k, t, A, f => by rw [Nat.zero_add]; rfl
  | j + 1, k, t, A, f => by
    rw [show j + 1 + k = (j + k) + 1 by omega]
    show fgZ (j + k) (t + 1) _ _ = fgZ k (t + (j + 1)) (psZ j (t + 1) _) (fgZ j (t + 1) _ _)
    rw [fg_add j k (t + 1), show t + 1 + j = t + (j + 1) by omega]
theorem ps_le : ∀ (k t : Nat) (A : MzT) (x y : Nat), psZ k t A x y ≤ A x y
  | 0, _, _, _, _ => Int.le_refl _
  | k + 1, t, A, x, y => Int.le_trans (ps_le k (t + 1) _ x y) (up_le x y)
theorem fg_true : ∀ (k t : Nat) (A : MzT), fgZ k t A true = true
  | 0, _, _ => rfl
  | k + 1, t, A => by
    show fgZ k (t + 1) _ (if _ then true else true) = true
    rw [show (if cgZ A (tU t) (tM t) (tV t) then true else true) = true from by split <;> rfl]
    exact fg_true k (t + 1) _
theorem fg_no : ∀ (k t : Nat) (A : MzT), fgZ k t A false = false → psZ k t A = A ∧ ∀ s, t ≤ s → s < t + k → ¬ cgZ A (tU s) (tM s) (tV s)
  | 0, t, A, _ => ⟨rfl, fun s h1 h2 => by omega⟩
  | k + 1, t, A, h => by
    by_cases g : cgZ A (tU t) (tM t) (tV t)
    · have h : fgZ k (t + 1) _ (if _ then true else false) = false := h
      rw [if_pos g, fg_true] at h
      cases h
    · have e : upZ A (tU t) (tM t) (tV t) = A := if_neg g
      have h : fgZ k (t + 1) _ (if _ then true else false) = false := h
      rw [if_neg g, e] at h
      have := fg_no k (t + 1) A h
      refine ⟨by show psZ k (t + 1) (upZ A (tU t) (tM t) (tV t)) = A; rw [e]; exact this.1, fun s h1 h2 => ?_⟩
      by_cases es : s = t
      · rw [es]; exact g
      · exact this.2 s (by omega) (by omega)
theorem fg_yes : ∀ (k t : Nat) (A : MzT), t + k ≤ 1000 → fgZ k t A false = true → ∃ x y, x < 10 ∧ y < 10 ∧ psZ k t A x y < A x y
  | 0, _, _, _, h => by cases h
  | k + 1, t, A, ht, h => by
    have h : fgZ k (t + 1) _ (if _ then true else false) = true := h
    by_cases g : cgZ A (tU t) (tM t) (tV t)
    · refine ⟨tU t, tV t, by unfold tU; omega, by unfold tV; omega, ?_⟩
      have h1 := ps_le k (t + 1) (upZ A (tU t) (tM t) (tV t)) (tU t) (tV t)
      have h2 : upZ A (tU t) (tM t) (tV t) (tU t) (tV t) = A (tU t) (tM t) + A (tM t) (tV t) := by rw [up_at, if_pos g]
      have h3 := g.2.2.2
      show psZ k (t + 1) (upZ A (tU t) (tM t) (tV t)) _ _ < _
      omega
    · rw [if_neg g] at h
      obtain ⟨x, y, hx, hy, hl⟩ := fg_yes k (t + 1) _ (by omega) h
      exact ⟨x, y, hx, hy, Int.lt_of_lt_of_le hl (up_le x y)⟩
/-- what holds along a pass -/
def kpZ (J : Nat → MzT → Prop) : Prop := ∀ t A, t < 1000 → J t A → J (t + 1) (upZ A (tU t) (tM t) (tV t))
theorem kp_run {J : Nat → MzT → Prop} (hJ : kpZ J) : ∀ (k t : Nat) (A : MzT), t + k ≤ 1000 → J t A → J (t + k) (psZ k t A)
  | 0, _, _, _, h => h
  | k + 1, t, A, ht, h => by
    rw [show t + (k + 1) = t + 1 + k by omega]
    exact kp_run hJ k (t + 1) _ (by omega) (hJ t A (by omega) h)
/-! a closed matrix below -/
def bzZ (Z : MzT) : MzT := fun x y => if x = y then 0 else Z x y
def loZ (Z A : MzT) : Prop := ∀ x y, x < 10 → y < 10 → bzZ Z x y ≤ A x y ∧ A x y ≤ (1125899906842624 : Int)
theorem lo_up {Z : MzT} (hc : clZ Z 10) (hd : ∀ x, x < 10 → 0 ≤ Z x x) : kpZ (fun _ A => loZ Z A) := by
  intro t A ht h x y hx hy
  have hu : tU t < 10 := by unfold tU; omega
  have hm : tM t < 10 := by unfold tM; omega
  have hv : tV t < 10 := by unfold tV; omega
  generalize tU t = u at hu ⊢
  generalize tM t = m at hm ⊢
  generalize tV t = v at hv ⊢
  by_cases e : x = u ∧ y = v
  · rw [e.1, e.2, up_at]
    by_cases g : cgZ A u m v
    · rw [if_pos g]
      obtain ⟨g1, g2, g3, g4⟩ := g
      have a1 := h u m hu hm
      have a2 := h m v hm hv
      have a3 := h u v hu hv
      refine ⟨?_, by omega⟩
      have b1 : bzZ Z u m = Z u m := if_neg g1
      rw [b1] at a1
      by_cases e1 : m = v
      · have b2 : bzZ Z m v = 0 := if_pos e1
        rw [b2] at a2
        rw [show bzZ Z u v = Z u m by rw [← e1]; exact b1]
        omega
      · have b2 : bzZ Z m v = Z m v := if_neg e1
        rw [b2] at a2
        have := hc u v m hm (by omega) (by omega)
        by_cases e2 : u = v
        · rw [show bzZ Z u v = 0 from if_pos e2]
          have d := hd u hu
          rw [← e2] at this a2 ⊢
          omega
        · rw [show bzZ Z u v = Z u v from if_neg e2]
          omega
    · rw [if_neg g]; exact h u v hu hv
  · rw [up_ne e]; exact h x y hx hy
/-! how much is left -/
def suN (f : Nat → Nat) : Nat → Nat
  | 0 => 0
  | n + 1 => suN f n + f n
theorem suN_le {f g : Nat → Nat} : ∀ n, (∀ i, i < n → f i ≤ g i) → suN f n ≤ suN g n
  | 0, _ => Nat.le_refl _
  | n + 1, h => Nat.add_le_add (suN_le n (fun i hi => h i (by omega))) (h n (by omega))
theorem suN_lt {f g : Nat → Nat} : ∀ n, (∀ i, i < n → f i ≤ g i) → (∃ i, i < n ∧ f i < g i) → suN f n < suN g n
  | 0, _, ⟨i, hi, _⟩ => absurd hi (Nat.not_lt_zero i)
  | n + 1, h, ⟨i, hi, hl⟩ => by
    have h1 := suN_le n (fun i hi => h i (by omega))
    have h2 := h n (by omega)
    show suN f n + f n < suN g n + g n
    by_cases e : i = n
    · subst e; omega
    · have := suN_lt n (fun i hi => h i (by omega)) ⟨i, by omega, hl⟩
      omega
def muZ (Z A : MzT) : Nat := suN (fun i => (A (i / 10) (i % 10) - bzZ Z (i / 10) (i % 10)).toNat) 100
theorem mu_lt {Z A : MzT} (hlo : loZ Z (psZ 1000 0 A)) (hf : fgZ 1000 0 A false = true) : muZ Z (psZ 1000 0 A) < muZ Z A := by
  obtain ⟨x, y, hx, hy, hl⟩ := fg_yes 1000 0 A (by decide) hf
  refine suN_lt 100 (fun i hi => ?_) ⟨10 * x + y, by omega, ?_⟩
  · have := ps_le 1000 0 A (i / 10) (i % 10)
    omega
  · rw [show (10 * x + y) / 10 = x by omega, show (10 * x + y) % 10 = y by omega]
    have := (hlo x y hx hy).1
    omega
/-- no change: closed -/
theorem fg_cl {A : MzT} (hf : fgZ 1000 0 A false = false) : psZ 1000 0 A = A ∧ ∀ u m v, u < 10 → m < 10 → v < 10 → ¬ u = m → A u m < (1125899906842624 : Int) → A m v < (1125899906842624 : Int) → A u v ≤ A u m + A m v := by
  obtain ⟨h1, h2⟩ := fg_no 1000 0 A hf
  refine ⟨h1, fun u m v hu hm hv hne g1 g2 => ?_⟩
  have := h2 (100 * u + 10 * m + v) (by omega) (by omega)
  have e1 : tU (100 * u + 10 * m + v) = u := by unfold tU; omega
  have e2 : tM (100 * u + 10 * m + v) = m := by unfold tM; omega
  have e3 : tV (100 * u + 10 * m + v) = v := by unfold tV; omega
  rw [e1, e2, e3] at this
  by_cases g : A u m + A m v < A u v
  · exact absurd ⟨hne, g1, g2, g⟩ this
  · omega
/-- such a matrix is below the class's -/
theorem cl_below {w A : MzT} (hw : inZ 2147483648 w) (hd : dgZ w 10) (h0 : ∀ x y, x < 10 → y < 10 → A x y ≤ w x y) (hc : ∀ u m v, u < 10 → m < 10 → v < 10 → ¬ u = m → A u m < (1125899906842624 : Int) → A m v < (1125899906842624 : Int) → A u v ≤ A u m + A m v) : ∀ j, j ≤ 10 → ∀ x y, x < 10 → y < 10 → A x y ≤ prZ w j x y
  | 0, _, x, y, hx, hy => h0 x y hx hy
  | j + 1, hj, x, y, hx, hy => by
    have ih := cl_below hw hd h0 hc j (by omega)
    show A x y ≤ phZ (prZ w j) j x y
    unfold phZ
    have a0 := ih x y hx hy
    by_cases g : prZ w j x j < (1125899906842624 : Int) ∧ prZ w j j y < (1125899906842624 : Int) ∧ prZ w j x j + prZ w j j y < prZ w j x y
    · rw [if_pos g]
      have a1 := ih x j hx (by omega)
      have a2 := ih j y (by omega) hy
      by_cases e : x = j
      · subst e
        have := hd x x (by omega) hx
        omega
      · have := hc x j y hx (by omega) hy e (by omega) (by omega)
        omega
    · rw [if_neg g]; exact a0
theorem cl_eq {w A : MzT} (hw : inZ 2147483648 w) (hd : dgZ w 10) (h0 : ∀ x y, x < 10 → y < 10 → A x y ≤ w x y) (hlo : loZ (prZ w 10) A) (hf : fgZ 1000 0 A false = false) : ∀ x y, x < 10 → y < 10 → ¬ x = y → A x y = prZ w 10 x y := by
  intro x y hx hy hne
  have h1 := cl_below hw hd h0 (fg_cl hf).2 10 (by decide) x y hx hy
  have h2 := (hlo x y hx hy).1
  rw [show bzZ (prZ w 10) x y = prZ w 10 x y from if_neg hne] at h2
  omega
/-! a pass where the class falls -/
def r3 : Nat → Int
  | 0 => 45097156608
  | m + 1 => 3 * r3 m
theorem r3_pos : ∀ m, 45097156608 ≤ r3 m
  | 0 => Int.le_refl _
  | m + 1 => by have := r3_pos m; show _ ≤ 3 * r3 m; omega
def rr (u m : Nat) : Int := if m < u then r3 m else 2147483648
def sS (u : Nat) : Nat → Int
  | 0 => 2147483648
  | m + 1 => sS u m + 2 * rr u m
theorem sS_pos (u : Nat) : ∀ m, 2147483648 ≤ sS u m
  | 0 => Int.le_refl _
  | m + 1 => by
    have := sS_pos u m
    have : 0 ≤ rr u m := by
      unfold rr
      have := r3_pos m
      by_cases g : m < u
      · rw [if_pos g]; omega
      · rw [if_neg g]; decide
    show _ ≤ sS u m + 2 * rr u m
    omega
theorem sS_top {u : Nat} (hu : u < 10) : sS u 10 ≤ r3 u := by
  have : u = 0 ∨ u = 1 ∨ u = 2 ∨ u = 3 ∨ u = 4 ∨ u = 5 ∨ u = 6 ∨ u = 7 ∨ u = 8 ∨ u = 9 := by omega
  rcases this with rfl | rfl | rfl | rfl | rfl | rfl | rfl | rfl | rfl | rfl <;> decide
theorem sS_mono (u : Nat) : ∀ d m, sS u m ≤ sS u (m + d)
  | 0, m => Int.le_refl _
  | d + 1, m => by
    have := sS_mono u d m
    have h2 : 0 ≤ rr u (m + d) := by
      unfold rr
      have := r3_pos (m + d)
      by_cases g : m + d < u
      · rw [if_pos g]; omega
      · rw [if_neg g]; decide
    show _ ≤ sS u (m + d) + 2 * rr u (m + d)
    omega
theorem r3_top {u : Nat} (hu : u < 10) : r3 u ≤ 900000000000000 := by
  have : u = 0 ∨ u = 1 ∨ u = 2 ∨ u = 3 ∨ u = 4 ∨ u = 5 ∨ u = 6 ∨ u = 7 ∨ u = 8 ∨ u = 9 := by omega
  rcases this with rfl | rfl | rfl | rfl | rfl | rfl | rfl | rfl | rfl | rfl <;> decide
/-- rows done, the row at hand, rows to come -/
def loF (u m v : Nat) (A : MzT) : Prop := ∀ x y, x < 10 → y < 10 → A x y ≤ (1125899906842624 : Int) ∧ (x < u → -r3 x ≤ A x y) ∧ (u < x → -2147483648 ≤ A x y) ∧ (x = u → -(sS u m + 2 * rr u m) ≤ A x y ∧ (y = m → -(sS u m + (if v ≤ m then 0 else rr u m)) ≤ A x y) ∧ (v = 0 → -sS u m ≤ A x y))
theorem lo_in {u m v : Nat} {A : MzT} (hu : u < 10) (hm : m < 10) (hv : v < 10) (h : loF u m v A) : ∀ x y, x < 10 → y < 10 → -1000000000000000 ≤ A x y ∧ A x y ≤ (1125899906842624 : Int) := fun x y hx hy => by
  obtain ⟨h0, h1, h2, h3⟩ := h x y hx hy
  have t1 := r3_top hx
  have t2 := r3_top hu
  have t3 := sS_top hu
  have t4 := sS_mono u (10 - (m + 1)) (m + 1)
  rw [show m + 1 + (10 - (m + 1)) = 10 by omega] at t4
  have t5 : sS u (m + 1) = sS u m + 2 * rr u m := rfl
  by_cases e : x < u
  · have := h1 e; omega
  · by_cases e2 : u < x
    · have := h2 e2; omega
    · have := (h3 (by omega)).1; omega
theorem loF_v {u m v : Nat} {A : MzT} (hu : u < 10) (hm : m < 10) (hv : v < 10) (h : loF u m v A) : loF u m (v + 1) (upZ A u m v) := by
  intro x y hx hy
  obtain ⟨h0, h1, h2, h3⟩ := h x y hx hy
  have hp := sS_pos u m
  have hrp : 0 ≤ rr u m := by
    unfold rr
    have := r3_pos m
    by_cases g : m < u
    · rw [if_pos g]; omega
    · rw [if_neg g]; decide
  by_cases e : x = u ∧ y = v
  · rw [e.1, e.2, up_at]
    by_cases g : cgZ A u m v
    · rw [if_pos g]
      obtain ⟨g1, g2, g3, g4⟩ := g
      have hum := h u m hu hm
      have hmv := h m v hm hv
      have huv := h u v hu hv
      have bm : -rr u m ≤ A m v := by
        unfold rr
        by_cases q : m < u
        · rw [if_pos q]; exact hmv.2.1 q
        · rw [if_neg q]; exact hmv.2.2.1 (by omega)
      have bu := (hum.2.2.2 rfl).2.1 rfl
      refine ⟨by omega, fun q => by omega, fun q => by omega, fun _ => ⟨?_, fun q => ?_, fun q => by omega⟩⟩
      · by_cases q : v ≤ m
        · rw [if_pos q] at bu; omega
        · rw [if_neg q] at bu; omega
      · rw [if_neg (by omega)]
        rw [if_pos (by omega)] at bu
        omega
    · rw [if_neg g]
      obtain ⟨k0, k1, k2, k3⟩ := h u v hu hv
      refine ⟨k0, k1, k2, fun _ => ⟨(k3 rfl).1, fun q => ?_, fun q => by omega⟩⟩
      have := (k3 rfl).2.1 q
      rw [if_pos (by omega)] at this
      rw [if_neg (by omega)]
      omega
  · rw [up_ne e]
    refine ⟨h0, h1, h2, fun q => ⟨(h3 q).1, fun z => ?_, fun z => by omega⟩⟩
    have := (h3 q).2.1 z
    by_cases c1 : v ≤ m
    · rw [if_pos c1] at this
      by_cases c2 : v + 1 ≤ m
      · rw [if_pos c2]; exact this
      · rw [if_neg c2]; omega
    · rw [if_neg c1] at this
      rw [if_neg (by omega)]; exact this
theorem loF_m {u m : Nat} {A : MzT} (h : loF u m 10 A) : loF u (m + 1) 0 A := by
  intro x y hx hy
  obtain ⟨h0, h1, h2, h3⟩ := h x y hx hy
  have e : sS u (m + 1) = sS u m + 2 * rr u m := rfl
  have hrp : 0 ≤ rr u (m + 1) := by
    unfold rr
    have := r3_pos (m + 1)
    by_cases g : m + 1 < u
    · rw [if_pos g]; omega
    · rw [if_neg g]; decide
  refine ⟨h0, h1, h2, fun q => ?_⟩
  have := (h3 q).1
  exact ⟨by omega, fun _ => by rw [if_pos (Nat.zero_le _)]; omega, fun _ => by omega⟩
theorem loF_u {u : Nat} {A : MzT} (hu : u < 10) (h : loF u 10 0 A) : loF (u + 1) 0 0 A := by
  intro x y hx hy
  obtain ⟨h0, h1, h2, h3⟩ := h x y hx hy
  have hrp : 0 ≤ rr (u + 1) 0 := by
    unfold rr
    rw [if_pos (by omega)]
    decide
  have e0 : sS (u + 1) 0 = 2147483648 := rfl
  refine ⟨h0, fun q => ?_, fun q => h2 (by omega), fun q => ?_⟩
  · by_cases e : x = u
    · have := (h3 e).2.2 rfl
      have := sS_top hu
      rw [e] at *
      omega
    · exact h1 (by omega)
  · have := h2 (by omega)
    exact ⟨by omega, fun _ => by rw [if_pos (Nat.zero_le _)]; omega, fun _ => by omega⟩
/-- and above: no more than the class's rounds up to k -/
def hiF (P : Nat → MzT) (k u m v : Nat) (A : MzT) : Prop := ∀ x y, x < 10 → y < 10 → (x < u → A x y ≤ P (min x k) x y) ∧ (u < x → A x y ≤ P 0 x y) ∧ (x = u → A x y ≤ P (min (if y < v then m + 1 else m) (min u k)) x y)
theorem pr_mono {w : MzT} {x y : Nat} : ∀ d j, prZ w (j + d) x y ≤ prZ w j x y
  | 0, _ => Int.le_refl _
  | d + 1, j => Int.le_trans (ph_le (A := prZ w (j + d)) (m := j + d)) (pr_mono d j)
theorem pr_mn {w : MzT} {x y i j : Nat} (h : j ≤ i) : prZ w i x y ≤ prZ w j x y := by
  have := pr_mono (w := w) (x := x) (y := y) (i - j) j
  rw [show j + (i - j) = i by omega] at this
  exact this
theorem hiF_v {w A : MzT} {k u m v : Nat} (hu : u < 10) (hm : m < 10) (hv : v < 10) (h : hiF (prZ w) k u m v A) : hiF (prZ w) k u m (v + 1) (upZ A u m v) := by
  intro x y hx hy
  obtain ⟨h1, h2, h3⟩ := h x y hx hy
  by_cases e : x = u ∧ y = v
  · obtain ⟨e1, e2⟩ := e
    subst e1 e2
    refine ⟨fun q => by omega, fun q => by omega, fun _ => ?_⟩
    rw [if_pos (by omega)]
    have a0 := h3 rfl
    rw [if_neg (by omega)] at a0
    have le := up_le (A := A) (u := x) (m := m) (v := y) x y
    by_cases q : m < min x k
    · rw [show min (m + 1) (min x k) = m + 1 by omega]
      rw [show min m (min x k) = m by omega] at a0
      show upZ A x m y x y ≤ phZ (prZ w m) m x y
      unfold phZ
      have a1 := (h x m hx hm).2.2 rfl
      have a1 : A x m ≤ prZ w m x m := Int.le_trans a1 (pr_mn (by
        by_cases z : m < y
        · rw [if_pos z]; omega
        · rw [if_neg z]; omega))
      have a2 := (h m y hm hy).1 (by omega)
      rw [show min m k = m by omega] at a2
      by_cases g : prZ w m x m < (1125899906842624 : Int) ∧ prZ w m m y < (1125899906842624 : Int) ∧ prZ w m x m + prZ w m m y < prZ w m x y
      · rw [if_pos g, up_at]
        by_cases g2 : cgZ A x m y
        · rw [if_pos g2]; omega
        · rw [if_neg g2]
          by_cases g3 : A x m + A m y < A x y
          · exact absurd ⟨by omega, by omega, by omega, g3⟩ g2
          · omega
      · rw [if_neg g]; omega
    · rw [show min (m + 1) (min x k) = min m (min x k) by omega]
      omega
  · rw [up_ne e]
    refine ⟨h1, h2, fun q => ?_⟩
    have := h3 q
    by_cases z : y < v
    · rw [if_pos z] at this
      rw [if_pos (by omega)]; exact this
    · rw [if_neg z] at this
      rw [if_neg (by omega)]; exact this
theorem hiF_m {w A : MzT} {k u m : Nat} (h : hiF (prZ w) k u m 10 A) : hiF (prZ w) k u (m + 1) 0 A := by
  intro x y hx hy
  obtain ⟨h1, h2, h3⟩ := h x y hx hy
  refine ⟨h1, h2, fun q => ?_⟩
  have := h3 q
  rw [if_pos hy] at this
  rw [if_neg (Nat.not_lt_zero y)]
  exact this
theorem hiF_u {w A : MzT} {k u : Nat} (hu : u < 10) (h : hiF (prZ w) k u 10 0 A) : hiF (prZ w) k (u + 1) 0 0 A := by
  intro x y hx hy
  obtain ⟨h1, h2, h3⟩ := h x y hx hy
  refine ⟨fun q => ?_, fun q => h2 (by omega), fun q => ?_⟩
  · by_cases e : x = u
    · have := h3 e
      rw [if_neg (Nat.not_lt_zero y), show min 10 (min u k) = min x k by omega] at this
      exact this
    · exact h1 (by omega)
  · rw [if_neg (Nat.not_lt_zero y), show min 0 (min (u + 1) k) = 0 by omega]
    exact h2 (by omega)
/-- along the first pass -/
def J1 (w : MzT) (k t : Nat) (A : MzT) : Prop := loF (tU t) (tM t) (tV t) A ∧ hiF (prZ w) k (tU t) (tM t) (tV t) A
theorem J1_kp {w : MzT} {k : Nat} : kpZ (fun t A => (t < 1000 → J1 w k t A) ∧ (t = 1000 → ∀ x y, x < 10 → y < 10 → -1000000000000000 ≤ A x y ∧ A x y ≤ (1125899906842624 : Int) ∧ A x y ≤ prZ w (min x k) x y)) := by
  intro t A ht h
  have h := h.1 ht
  have hu : tU t < 10 := by unfold tU; omega
  have hm : tM t < 10 := by unfold tM; omega
  have hv : tV t < 10 := by unfold tV; omega
  have v1 := loF_v hu hm hv h.1
  have v2 := hiF_v hu hm hv h.2
  have et : t = 100 * tU t + 10 * tM t + tV t := by unfold tU tM tV; omega
  by_cases e1 : tV t = 9
  · rw [e1] at v1 v2 et
    have m1 := loF_m v1
    have m2 := hiF_m v2
    by_cases e2 : tM t = 9
    · rw [e2] at m1 m2 et
      have u1 := loF_u hu m1
      have u2 := hiF_u hu m2
      refine ⟨fun q => ?_, fun q x y hx hy => ?_⟩
      · unfold J1
        rw [show tU (t + 1) = tU t + 1 by unfold tU at et ⊢; omega, show tM (t + 1) = 0 by unfold tM; omega, show tV (t + 1) = 0 by unfold tV; omega, e1, e2]
        exact ⟨u1, u2⟩
      · have := u1 x y hx hy
        have h4 := u2 x y hx hy
        rw [e1, e2]
        have hx2 : x < tU t + 1 := by omega
        have q1 := this.2.1 hx2
        have q2 := h4.1 hx2
        have q3 := r3_top hx
        exact ⟨by omega, this.1, q2⟩
    · refine ⟨fun q => ?_, fun q => by omega⟩
      unfold J1
      rw [show tU (t + 1) = tU t by unfold tU at et ⊢; omega, show tM (t + 1) = tM t + 1 by unfold tM at et e2 ⊢; omega, show tV (t + 1) = 0 by unfold tV; omega, e1]
      exact ⟨m1, m2⟩
  · refine ⟨fun q => ?_, fun q => by omega⟩
    unfold J1
    rw [show tU (t + 1) = tU t by unfold tU at et ⊢; omega, show tM (t + 1) = tM t by unfold tM tV at *; omega, show tV (t + 1) = tV t + 1 by unfold tV at e1 ⊢; omega]
    exact ⟨v1, v2⟩
