/-! closing of rows, over plain numbers: the class's rounds and the reference's passes -/
abbrev MzT : Type := Nat → Nat → Int
def phZ (A : MzT) (m : Nat) : MzT := fun x y => if A x m < (1125899906842624 : Int) ∧ A m y < (1125899906842624 : Int) ∧ A x m + A m y < A x y then A x m + A m y else A x y
def prZ (w : MzT) : Nat → MzT
  | 0 => w
  | m + 1 => phZ (prZ w m) m
def inZ (R : Int) (A : MzT) : Prop := ∀ x y, A x y = (1125899906842624 : Int) ∨ (-R ≤ A x y ∧ A x y ≤ R)
def rZ : Nat → Int
  | 0 => 2147483648
  | m + 1 => 2 * rZ m
theorem rZ_pos : ∀ m, 2147483648 ≤ rZ m
  | 0 => Int.le_refl _
  | m + 1 => by have := rZ_pos m; show _ ≤ 2 * rZ m; omega
theorem rZ_top : ∀ d m, m + d = 10 → rZ m ≤ 2199023255552
  | 0, m, h => by rw [show m = 10 by omega]; decide
  | d + 1, m, h => by
    have := rZ_top d (m + 1) (by omega)
    have e : rZ (m + 1) = 2 * rZ m := rfl
    have := rZ_pos m
    omega
theorem rZ_le {m : Nat} (h : m ≤ 10) : rZ m ≤ 2199023255552 := rZ_top (10 - m) m (by omega)
theorem inZ_mono {R S : Int} {A : MzT} (h : inZ R A) (hRS : R ≤ S) : inZ S A := fun x y => by
  rcases h x y with g | g
  · exact Or.inl g
  · exact Or.inr ⟨by omega, by omega⟩
theorem inZ_ph {R : Int} {A : MzT} {m : Nat} (h : inZ R A) (hR : 0 ≤ R) : inZ (2 * R) (phZ A m) := fun x y => by
  unfold phZ
  by_cases g : A x m < (1125899906842624 : Int) ∧ A m y < (1125899906842624 : Int) ∧ A x m + A m y < A x y
  · rw [if_pos g]
    have h1 := h x m
    have h2 := h m y
    refine Or.inr ?_
    omega
  · rw [if_neg g]
    have := h x y
    omega
theorem inZ_pr {w : MzT} (h : inZ 2147483648 w) : ∀ m, inZ (rZ m) (prZ w m)
  | 0 => h
  | m + 1 => inZ_ph (inZ_pr h m) (by have := rZ_pos m; omega)
def clZ (A : MzT) (k : Nat) : Prop := ∀ x y m, m < k → A x m < (1125899906842624 : Int) → A m y < (1125899906842624 : Int) → A x y ≤ A x m + A m y ∧ A x y < (1125899906842624 : Int)
theorem ph_le {A : MzT} {m x y : Nat} : phZ A m x y ≤ A x y := by
  unfold phZ
  by_cases g : A x m < (1125899906842624 : Int) ∧ A m y < (1125899906842624 : Int) ∧ A x m + A m y < A x y
  · rw [if_pos g]; omega
  · rw [if_neg g]; omega
theorem ph_cl {R : Int} {A : MzT} {k : Nat} (hi : inZ R A) (hR : R ≤ 2199023255552) (hc : clZ A k) (h0 : 0 ≤ A k k) : clZ (phZ A k) (k + 1) := by
  intro x y m hm
  have i1 := hi x y
  have i2 := hi x m
  have i3 := hi m y
  have i4 := hi x k
  have i5 := hi k y
  by_cases e : m = k
  · subst e
    unfold phZ
    by_cases g1 : A x m < (1125899906842624 : Int) ∧ A m m < (1125899906842624 : Int) ∧ A x m + A m m < A x m
    · omega
    rw [if_neg g1]
    by_cases g2 : A m m < (1125899906842624 : Int) ∧ A m y < (1125899906842624 : Int) ∧ A m m + A m y < A m y
    · omega
    rw [if_neg g2]
    by_cases g3 : A x m < (1125899906842624 : Int) ∧ A m y < (1125899906842624 : Int) ∧ A x m + A m y < A x y
    · rw [if_pos g3]; omega
    · rw [if_neg g3]; omega
  · have c1 := hc x y m (by omega)
    have c2 := hc k y m (by omega)
    have c3 := hc x k m (by omega)
    have c4 := hc k k m (by omega)
    unfold phZ
    by_cases g1 : A x k < (1125899906842624 : Int) ∧ A k m < (1125899906842624 : Int) ∧ A x k + A k m < A x m
    · rw [if_pos g1]
      by_cases g2 : A m k < (1125899906842624 : Int) ∧ A k y < (1125899906842624 : Int) ∧ A m k + A k y < A m y
      · rw [if_pos g2]
        intro _ _
        have c4 := c4 g1.2.1 g2.1
        by_cases g3 : A x k < (1125899906842624 : Int) ∧ A k y < (1125899906842624 : Int) ∧ A x k + A k y < A x y
        · rw [if_pos g3]; omega
        · rw [if_neg g3]; omega
      · rw [if_neg g2]
        intro _ h2
        have c2 := c2 g1.2.1 h2
        by_cases g3 : A x k < (1125899906842624 : Int) ∧ A k y < (1125899906842624 : Int) ∧ A x k + A k y < A x y
        · rw [if_pos g3]; omega
        · rw [if_neg g3]; omega
    · rw [if_neg g1]
      by_cases g2 : A m k < (1125899906842624 : Int) ∧ A k y < (1125899906842624 : Int) ∧ A m k + A k y < A m y
      · rw [if_pos g2]
        intro h1 _
        have c3 := c3 h1 g2.1
        by_cases g3 : A x k < (1125899906842624 : Int) ∧ A k y < (1125899906842624 : Int) ∧ A x k + A k y < A x y
        · rw [if_pos g3]; omega
        · rw [if_neg g3]; omega
      · rw [if_neg g2]
        intro h1 h2
        have c1 := c1 h1 h2
        by_cases g3 : A x k < (1125899906842624 : Int) ∧ A k y < (1125899906842624 : Int) ∧ A x k + A k y < A x y
        · rw [if_pos g3]; omega
        · rw [if_neg g3]; omega
/-- no round short of zero before k -/
def dgZ (w : MzT) (k : Nat) : Prop := ∀ j x, j ≤ k → x < 10 → 0 ≤ prZ w j x x
theorem pr_cl {w : MzT} (hw : inZ 2147483648 w) : ∀ k, k ≤ 10 → dgZ w k → clZ (prZ w k) k
  | 0, _, _ => fun _ _ m h => absurd h (Nat.not_lt_zero m)
  | k + 1, hk, hd => ph_cl (inZ_pr hw k) (rZ_le (by omega)) (pr_cl hw k (by omega) (fun j x hj hx => hd j x (by omega) hx)) (hd k k (by omega) (by omega))
/-- the first fall lies behind the round -/
theorem pr_late {w : MzT} (hw : inZ 2147483648 w) {k u : Nat} (hk : k < 10) (hu : u < 10) (hd : dgZ w k) (hf : prZ w (k + 1) u u < 0) : k < u := by
  have hcl := pr_cl hw k (by omega) hd
  have hi := inZ_pr hw k
  have hR := rZ_le (m := k) (by omega)
  have d1 := hd k k (by omega) hk
  have d2 := hd k u (by omega) hu
  have e : prZ w (k + 1) u u = phZ (prZ w k) k u u := rfl
  rw [e] at hf
  unfold phZ at hf
  by_cases g : prZ w k u k < (1125899906842624 : Int) ∧ prZ w k k u < (1125899906842624 : Int) ∧ prZ w k u k + prZ w k k u < prZ w k u u
  · rw [if_pos g] at hf
    by_cases e1 : u = k
    · subst e1; omega
    · by_cases e2 : u < k
      · have := hcl k k u e2 g.2.1 g.1
        omega
      · omega
  · rw [if_neg g] at hf
    omega
/-! the class's matrix of longs -/
def reA (R : Int) (A : MtT) (Z : MzT) : Prop := ∀ u v, u < 10 → v < 10 → (A u v = N62 ∧ Z u v = (1125899906842624 : Int)) ∨ ((A u v).toInt = Z u v ∧ -R ≤ Z u v ∧ Z u v ≤ R)
theorem n62I : (N62 : Int64).toInt = 4611686018427387904 := by decide
theorem reA_ne {R : Int} {A : MtT} {Z : MzT} {u v : Nat} (h : reA R A Z) (hR : R ≤ 2199023255552) (hu : u < 10) (hv : v < 10) : A u v = N62 ↔ ¬ Z u v < (1125899906842624 : Int) := by
  rcases h u v hu hv with g | g
  · exact ⟨fun _ => by omega, fun _ => g.1⟩
  · exact ⟨fun z => by rw [z, n62I] at g; omega, fun z => by omega⟩
theorem ad64 {x y : Int64} (h1 : -1152921504606846976 ≤ x.toInt + y.toInt) (h2 : x.toInt + y.toInt ≤ 1152921504606846976) : (x + y).toInt = x.toInt + y.toInt := by
  rw [Int64.toInt_add]
  exact Int.bmod_eq_of_le (by omega) (by omega)
def miZ (Z : MzT) (m u : Nat) : MzT := fun x y => if x < u then phZ Z m x y else Z x y
theorem fw_step {R : Int} {A : MtT} {Z : MzT} {m u : Nat} (hm : m < 10) (hu : u < 10) (hi : inZ R Z) (h0 : 0 ≤ R) (hR : 2 * R ≤ 2199023255552) (hd : 0 ≤ Z m m) (h : reA (2 * R) A (miZ Z m u)) : reA (2 * R) (fwS A u m) (miZ Z m (u + 1)) := by
  have rowm : ∀ y, miZ Z m u m y = Z m y := fun y => by
    unfold miZ
    by_cases g : m < u
    · rw [if_pos g]
      unfold phZ
      rw [if_neg (by omega)]
    · rw [if_neg g]
  have rowu : ∀ y, miZ Z m u u y = Z u y := fun y => if_neg (by omega)
  have new : ∀ x y, miZ Z m (u + 1) x y = if x = u then phZ Z m u y else miZ Z m u x y := fun x y => by
    unfold miZ
    by_cases g : x = u
    · rw [if_pos (by omega), if_pos g, g]
    · rw [if_neg g]
      by_cases g2 : x < u
      · rw [if_pos (by omega), if_pos g2]
      · rw [if_neg (by omega), if_neg g2]
  have hum := h u m hu hm
  rw [rowu] at hum
  intro x y hx hy
  rw [new]
  have hxy := h x y hx hy
  unfold fwS
  by_cases g : A u m = N62
  · rw [if_pos g]
    by_cases e : x = u
    · rw [if_pos e, e]
      rw [e, rowu] at hxy
      unfold phZ
      have : ¬ Z u m < (1125899906842624 : Int) := by
        have := (reA_ne h hR hu hm).mp g
        rw [rowu] at this
        exact this
      rw [if_neg (fun z => this z.1)]
      exact hxy
    · rw [if_neg e]; exact hxy
  · rw [if_neg g]
    have fum : Z u m < (1125899906842624 : Int) := by
      have := (reA_ne h hR hu hm)
      rw [rowu] at this
      by_cases z : Z u m < (1125899906842624 : Int)
      · exact z
      · exact absurd (this.mpr z) g
    have vum : (A u m).toInt = Z u m := by
      rcases hum with z | z
      · exact absurd z.1 g
      · exact z.1
    unfold rwP
    by_cases e : x = u
    · rw [if_pos e]
      subst e
      rw [rowu] at hxy
      have hmy := h m y hm hy
      rw [rowm] at hmy
      have iu := hi x m
      have im := hi m y
      have ixy := hi x y
      by_cases g2 : A m y = N62
      · rw [if_neg (fun z => z.2.2 g2)]
        have : ¬ Z m y < (1125899906842624 : Int) := by
          have := (reA_ne h hR hm hy).mp g2
          rw [rowm] at this
          exact this
        unfold phZ
        rw [if_neg (fun z => this z.2.1)]
        exact hxy
      · rw [if_pos ⟨rfl, hy, g2⟩]
        have hmy2 : (A m y).toInt = Z m y ∧ -(2 * R) ≤ Z m y ∧ Z m y ≤ 2 * R := by
          rcases hmy with z | z
          · exact absurd z.1 g2
          · exact z
        have sm : (A x m + A m y).toInt = Z x m + Z m y := by
          rw [ad64 (by omega) (by omega)]; omega
        have fmy : Z m y < (1125899906842624 : Int) := by omega
        by_cases g3 : Z x m + Z m y < Z x y
        · have e1 : phZ Z m x y = Z x m + Z m y := if_pos ⟨fum, fmy, g3⟩
          have e2 : mnJ (A x y) (A x m + A m y) = A x m + A m y := if_neg (fun z => by
            rw [Int64.le_iff_toInt_le, sm] at z
            rcases hxy with q | q
            · rw [q.1, n62I] at z; omega
            · omega)
          rw [e1, e2]
          exact Or.inr ⟨sm, by omega, by omega⟩
        · have e1 : phZ Z m x y = Z x y := if_neg (fun z => g3 z.2.2)
          have e2 : mnJ (A x y) (A x m + A m y) = A x y := if_pos (by
            rw [Int64.le_iff_toInt_le, sm]
            rcases hxy with q | q
            · rw [q.1, n62I]; omega
            · omega)
          rw [e1, e2]
          exact hxy
    · rw [if_neg e, if_neg (fun z => e z.1)]
      exact hxy
theorem reA_mono {R S : Int} {A : MtT} {Z : MzT} (h : reA R A Z) (hRS : R ≤ S) : reA S A Z := fun u v hu hv => by
  rcases h u v hu hv with g | g
  · exact Or.inl g
  · exact Or.inr ⟨g.1, by omega, by omega⟩
/-- what the class's closing comes to -/
def fwE (w : MzT) (r : Bool × MtT) : Prop := (r.1 = true ∧ dgZ w 10 ∧ reA 2199023255552 r.2 (prZ w 10)) ∨ (r.1 = false ∧ ∃ k u, k < u ∧ u < 10 ∧ prZ w (k + 1) u u < 0)
theorem fw_run {w : MzT} (hw : inZ 2147483648 w) : ∀ (k m u : Nat) (A : MtT), m < 10 → u < 10 → 10 * m + u + (k + 1) = 100 → reA (rZ (m + 1)) A (miZ (prZ w m) m u) → dgZ w m → (∀ x, x < u → 0 ≤ prZ w (m + 1) x x) → fwE w (fwX (k + 1) (10 * m + u) A) := by
  intro k
  induction k with
  | zero =>
    intro m u A hm hu hk h hd hx
    have hm9 : m = 9 := by omega
    have hu9 : u = 9 := by omega
    subst hm9 hu9
    have hs := fw_step (by decide) (by decide) (inZ_pr hw 9) (by decide) (by decide) (hd 9 9 (by decide) (by decide)) h
    have e9 : (fwS A 9 9 9 9).toInt = prZ w 10 9 9 ∨ (fwS A 9 9 9 9 = N62 ∧ prZ w 10 9 9 = (1125899906842624 : Int)) := by
      have e : miZ (prZ w 9) 9 (9 + 1) 9 9 = prZ w 10 9 9 := if_pos (by decide)
      have := hs 9 9 (by decide) (by decide)
      rw [e] at this
      exact this.elim Or.inr (fun z => Or.inl z.1)
    have hf : fwX (0 + 1) (10 * 9 + 9) A = if 0 ≤ fwS A 9 9 9 9 then (true, fwS A 9 9) else (false, fwS A 9 9) := rfl
    rw [hf]
    by_cases g : 0 ≤ fwS A 9 9 9 9
    · rw [if_pos g]
      have g : (0 : Int) ≤ prZ w 10 9 9 := by
        rw [Int64.le_iff_toInt_le, show (0 : Int64).toInt = 0 by decide] at g
        rcases e9 with z | z
        · omega
        · rw [z.2]; decide
      refine Or.inl ⟨rfl, fun j x hj hx10 => ?_, fun a c ha hc => ?_⟩
      · by_cases e : j ≤ 9
        · exact hd j x e hx10
        · rw [show j = 10 by omega]
          by_cases e2 : x = 9
          · rw [e2]; exact g
          · exact hx x (by omega)
      · have := hs a c ha hc
        rw [show miZ (prZ w 9) 9 (9 + 1) a c = prZ w 10 a c from if_pos (by omega)] at this
        have e : (2 : Int) * rZ 9 = 2199023255552 := by decide
        rw [e] at this
        exact this
    · rw [if_neg g]
      refine Or.inr ⟨rfl, 9, 9, ?_⟩
      have hneg : prZ w (9 + 1) 9 9 < 0 := by
        rw [Int64.le_iff_toInt_le, show (0 : Int64).toInt = 0 by decide] at g
        rcases e9 with z | z
        · show prZ w 10 9 9 < 0; omega
        · rw [z.1, n62I] at g; omega
      exact ⟨pr_late hw (by decide) (by decide) hd hneg, by decide, hneg⟩
  | succ k ih =>
    intro m u A hm hu hk h hd hx
    have t1 : (10 * m + u) % 10 = u := by omega
    have t2 : (10 * m + u) / 10 = m := by omega
    have er : rZ (m + 1) = 2 * rZ m := rfl
    have hr1 := rZ_le (m := m + 1) (by omega)
    have hr0 := rZ_pos m
    rw [er] at h
    have hs := fw_step hm hu (inZ_pr hw m) (by omega) (by omega) (hd m m (Nat.le_refl m) hm) h
    have eu : (fwS A u m u u).toInt = prZ w (m + 1) u u ∨ (fwS A u m u u = N62 ∧ prZ w (m + 1) u u = (1125899906842624 : Int)) := by
      have e : miZ (prZ w m) m (u + 1) u u = prZ w (m + 1) u u := if_pos (by omega)
      have := hs u u hu hu
      rw [e] at this
      exact this.elim Or.inr (fun z => Or.inl z.1)
    have hf : fwX (k + 1 + 1) (10 * m + u) A = if 0 ≤ fwS A u m u u then fwX (k + 1) (10 * m + u + 1) (fwS A u m) else (false, fwS A u m) := by
      show (if 0 ≤ fwS A ((10 * m + u) % 10) ((10 * m + u) / 10) ((10 * m + u) % 10) ((10 * m + u) % 10) then fwX (k + 1) (10 * m + u + 1) (fwS A ((10 * m + u) % 10) ((10 * m + u) / 10)) else (false, fwS A ((10 * m + u) % 10) ((10 * m + u) / 10))) = _
      rw [t1, t2]
    rw [hf]
    by_cases g : 0 ≤ fwS A u m u u
    · rw [if_pos g]
      have g : (0 : Int) ≤ prZ w (m + 1) u u := by
        rw [Int64.le_iff_toInt_le, show (0 : Int64).toInt = 0 by decide] at g
        rcases eu with z | z
        · omega
        · rw [z.2]; decide
      have hx' : ∀ x, x < u + 1 → 0 ≤ prZ w (m + 1) x x := fun x hxu => by
        by_cases e : x = u
        · rw [e]; exact g
        · exact hx x (by omega)
      by_cases e9 : u = 9
      · subst e9
        have et : 10 * m + 9 + 1 = 10 * (m + 1) + 0 := by omega
        rw [et]
        refine ih (m + 1) 0 _ (by omega) (by decide) (by omega) (fun a c ha hc => ?_) (fun j x hj hx10 => ?_) (fun x hx0 => absurd hx0 (Nat.not_lt_zero x))
        · have := hs a c ha hc
          rw [show miZ (prZ w m) m (9 + 1) a c = prZ w (m + 1) a c from if_pos (by omega)] at this
          rw [show miZ (prZ w (m + 1)) (m + 1) 0 a c = prZ w (m + 1) a c from if_neg (Nat.not_lt_zero a)]
          have e2 : rZ (m + 1 + 1) = 2 * rZ (m + 1) := rfl
          exact this.imp id (fun z => ⟨z.1, by have := z.2.1; omega, by have := z.2.2; omega⟩)
        · by_cases e : j ≤ m
          · exact hd j x e hx10
          · rw [show j = m + 1 by omega]
            exact hx' x (by omega)
      · exact ih m (u + 1) _ hm (by omega) (by omega) (by rw [er]; exact hs) hd hx'
    · rw [if_neg g]
      have hneg : prZ w (m + 1) u u < 0 := by
        rw [Int64.le_iff_toInt_le, show (0 : Int64).toInt = 0 by decide] at g
        rcases eu with z | z
        · omega
        · rw [z.1, n62I] at g; omega
      exact Or.inr ⟨rfl, m, u, pr_late hw hm hu hd hneg, hu, hneg⟩
/-- one step's costs -/
def toZ (x : Int64) : Int := if x = N62 then (1125899906842624 : Int) else x.toInt
def wZ (L : List NsT) : MzT := fun u v => if u < 10 ∧ v < 10 then toZ (mnL L u v) else (1125899906842624 : Int)
theorem mnL_bd {L : List NsT} (hL : okL L) (u v : Nat) : mnL L u v = N62 ∨ (-2147483648 ≤ (mnL L u v).toInt ∧ (mnL L u v).toInt ≤ 2147483647) := by
  obtain ⟨o, h1, h2⟩ := mnL_min hL u v
  cases o with
  | none => exact Or.inl h1
  | some x =>
    obtain ⟨⟨s, s1, _, _, s4⟩, _⟩ := h2
    have := isB_iff.mp (hL s s1).2
    have h1 : (mnL L u v).toInt = x := h1
    exact Or.inr (by omega)
theorem wZ_in {L : List NsT} (hL : okL L) : inZ 2147483648 (wZ L) := fun u v => by
  unfold wZ
  by_cases g : u < 10 ∧ v < 10
  · rw [if_pos g]
    unfold toZ
    rcases mnL_bd hL u v with h | h
    · rw [if_pos h]; exact Or.inl rfl
    · rw [if_neg (fun z => by rw [z, n62I] at h; omega)]; exact Or.inr (by omega)
  · rw [if_neg g]; exact Or.inl rfl
theorem wZ_re {L : List NsT} (hL : okL L) : reA 4294967296 (mnL L) (wZ L) := fun u v hu hv => by
  unfold wZ
  rw [if_pos ⟨hu, hv⟩]
  unfold toZ
  rcases mnL_bd hL u v with h | h
  · rw [if_pos h]; exact Or.inl ⟨h, rfl⟩
  · rw [if_neg (fun z => by rw [z, n62I] at h; omega)]; exact Or.inr (by omega)
theorem mnL_dg {L : List NsT} (hL : okL L) {u : Nat} (hu : u < 10) : mnL L u u = N62 := by
  obtain ⟨o, h1, h2⟩ := mnL_min hL u u
  cases o with
  | none => exact h1
  | some x =>
    obtain ⟨⟨s, s1, s2, s3, _⟩, _⟩ := h2
    obtain ⟨a, c, ha, hc, hne, e1, e2⟩ := (hL s s1).1
    exact absurd ((ofN_inj (by omega) (by omega) (e1.symm.trans s2)).trans (ofN_inj (by omega) (by omega) (e2.symm.trans s3)).symm) hne
theorem fw_all {L : List NsT} (hL : okL L) : fwE (wZ L) (fwX 100 0 (mnL L)) := by
  refine fw_run (wZ_in hL) 99 0 0 (mnL L) (by decide) (by decide) rfl (fun u v hu hv => ?_) (fun j x hj hx => ?_) (fun x hx => absurd hx (Nat.not_lt_zero x))
  · rw [show miZ (prZ (wZ L) 0) 0 0 u v = wZ L u v from if_neg (Nat.not_lt_zero u)]
    exact wZ_re hL u v hu hv
  · rw [show j = 0 by omega]
    show 0 ≤ wZ L x x
    unfold wZ
    rw [if_pos ⟨hx, hx⟩]
    unfold toZ
    rw [if_pos (mnL_dg hL hx)]
    decide
