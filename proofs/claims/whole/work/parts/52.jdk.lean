theorem s_max_I {l : Launch} {E : xm_E} {Q : Option Value → xm_M → Prop} {M : xm_M} {x y : Int32} (h : Q (some (.int (if y ≤ x then x else y))) M) : xm_C l E ym_max_I rmm_max_I [.int x, .int y] M Q :=
  xm_enterF (by decide +kernel) (Nat.le_of_ble_eq_true rfl) (tm_max_I_0 M x y ⟨fun g => by rw [if_neg (by rw [Int32.le_iff_toInt_le]; rw [Int32.lt_iff_toInt_lt] at g; omega)] at h; exact h, fun g => by rw [if_pos (by rw [Int32.le_iff_toInt_le]; rw [Int32.lt_iff_toInt_lt] at g; omega)] at h; exact h⟩)
theorem s_min_J {l : Launch} {E : xm_E} {Q : Option Value → xm_M → Prop} {M : xm_M} {x y : Int64} (h : Q (some (.long (if x ≤ y then x else y))) M) : xm_C l E ym_min_J rmm_min_J [.long x, .long y] M Q :=
  xm_enterF (by decide +kernel) (Nat.le_of_ble_eq_true rfl) (tm_min_J_0 M x y ⟨fun g => by rw [if_neg (by rw [Int64.le_iff_toInt_le]; rw [Int64.lt_iff_toInt_lt] at g; omega)] at h; exact h, fun g => by rw [if_pos (by rw [Int64.le_iff_toInt_le]; rw [Int64.lt_iff_toInt_lt] at g; omega)] at h; exact h⟩)
theorem s_max_J {l : Launch} {E : xm_E} {Q : Option Value → xm_M → Prop} {M : xm_M} {x y : Int64} (h : Q (some (.long (if y ≤ x then x else y))) M) : xm_C l E ym_max_J rmm_max_J [.long x, .long y] M Q :=
  xm_enterF (by decide +kernel) (Nat.le_of_ble_eq_true rfl) (tm_max_J_0 M x y ⟨fun g => by rw [if_neg (by rw [Int64.le_iff_toInt_le]; rw [Int64.lt_iff_toInt_lt] at g; omega)] at h; exact h, fun g => by rw [if_pos (by rw [Int64.le_iff_toInt_le]; rw [Int64.lt_iff_toInt_lt] at g; omega)] at h; exact h⟩)
/-! small numbers -/
theorem xn_le {a b : Nat} (ha : a < 2 ^ 31) (hb : b < 2 ^ 31) : Int32.ofNat a ≤ Int32.ofNat b ↔ a ≤ b := by
  rw [Int32.le_iff_toInt_le, toInt_of rfl ha, toInt_of rfl hb]; omega
theorem xn_lt {a b : Nat} (ha : a < 2 ^ 31) (hb : b < 2 ^ 31) : Int32.ofNat a < Int32.ofNat b ↔ a < b := by
  rw [Int32.lt_iff_toInt_lt, toInt_of rfl ha, toInt_of rfl hb]; omega
theorem xn_c {a : Nat} (ha : a < 2 ^ 31) : (Int32.ofNat a).toNatClampNeg = a := clamp_of rfl ha
theorem xn_in {a n : Nat} (h : a < n) (hn : n < 2 ^ 31) : vp_in (Int32.ofNat a) n := within rfl h hn
theorem xn_s (a : Nat) : Int32.ofNat a + Int32.ofInt 1 = Int32.ofNat (a + 1) := (inc_ofNat a).symm
/-! Arrays.fill -/
def xm_fl_J (M : xm_M) (a t : Nat) (w : Int64) : xm_M := (M.1, M.2.1, (fun x j => if x = a ∧ j < t then w else M.2.2.1 x j), M.2.2.2)
def xm_fl_I (M : xm_M) (a t : Nat) (w : Int32) : xm_M := (M.1, (fun x j => if x = a ∧ j < t then w else M.2.1 x j), M.2.2)
theorem xm_up_s {α : Type} (f : Nat → Nat → α) (a t : Nat) (w : α) : xm_up (fun x j => if x = a ∧ j < t then w else f x j) a t w = fun x j => if x = a ∧ j < t + 1 then w else f x j := by
  funext x j
  unfold xm_up
  by_cases h : x = a ∧ j = t
  · rw [if_pos h, if_pos ⟨h.1, by omega⟩]
  · rw [if_neg h]
    show (if x = a ∧ j < t then w else f x j) = _
    by_cases h2 : x = a ∧ j < t
    · rw [if_pos h2, if_pos ⟨h2.1, by omega⟩]
    · rw [if_neg h2, if_neg (by omega)]
theorem xm_fl_J0 (M : xm_M) (a : Nat) (w : Int64) : xm_fl_J M a 0 w = M := by
  unfold xm_fl_J
  simp
theorem xm_fl_I0 (M : xm_M) (a : Nat) (w : Int32) : xm_fl_I M a 0 w = M := by
  unfold xm_fl_I
  simp
theorem xm_fl_Js (M : xm_M) (a t : Nat) (w : Int64) : xm_pl (xm_fl_J M a t w) a t w = xm_fl_J M a (t + 1) w := by
  unfold xm_pl xm_fl_J
  rw [xm_up_s]
theorem xm_fl_Is (M : xm_M) (a t : Nat) (w : Int32) : xm_pi (xm_fl_I M a t w) a t w = xm_fl_I M a (t + 1) w := by
  unfold xm_pi xm_fl_I
  rw [xm_up_s]
theorem s_fill_J {l : Launch} {E : xm_E} {Q : Option Value → xm_M → Prop} {M : xm_M} {a n : Nat} {w : Int64} (ha : xm_sh M a = some (.inl (n, .long))) (hn : n < 2 ^ 31) (h : Q none (xm_fl_J M a n w)) : xm_C l E yr_fill_J rmr_fill_J [.ref a, .long w] M Q := by
  refine xm_enterF (by decide +kernel) (Nat.le_of_ble_eq_true rfl) (tr_fill_J_0 M a w ha ?_)
  have key : ∀ k t : Nat, t + k = n → xm_X l E yr_fill_J rmr_fill_J Q 6 [(0, .ref a), (1, .long w), (3, .int (Int32.ofNat t)), (4, .int (Int32.ofNat n))] [] 0 0 (xm_fl_J M a t w) := by
    intro k
    induction k with
    | zero =>
      intro t ht
      have : t = n := by omega
      subst this
      exact tr_fill_J_6 _ _ _ _ _ ha ⟨fun _ => h, fun g => absurd ((xn_le hn hn).mpr (Nat.le_refl _)) g⟩
    | succ k ih =>
      intro t ht
      have ht2 : t < n := by omega
      refine tr_fill_J_6 _ _ _ _ _ ha ⟨fun g => absurd ((xn_le hn (by omega)).mp g) (by omega), fun _ => ⟨xn_in ht2 hn, ?_⟩⟩
      rw [xn_c (by omega), xm_fl_Js, xn_s]
      exact ih (t + 1) (by omega)
  have := key n 0 (by omega)
  rw [xm_fl_J0] at this
  exact this
theorem s_fill_I {l : Launch} {E : xm_E} {Q : Option Value → xm_M → Prop} {M : xm_M} {a n : Nat} {w : Int32} (ha : xm_sh M a = some (.inl (n, .int))) (hn : n < 2 ^ 31) (h : Q none (xm_fl_I M a n w)) : xm_C l E yr_fill_I rmr_fill_I [.ref a, .int w] M Q := by
  refine xm_enterF (by decide +kernel) (Nat.le_of_ble_eq_true rfl) (tr_fill_I_0 M a w ha ?_)
  have key : ∀ k t : Nat, t + k = n → xm_X l E yr_fill_I rmr_fill_I Q 5 [(0, .ref a), (1, .int w), (2, .int (Int32.ofNat t)), (3, .int (Int32.ofNat n))] [] 0 0 (xm_fl_I M a t w) := by
    intro k
    induction k with
    | zero =>
      intro t ht
      have : t = n := by omega
      subst this
      exact tr_fill_I_5 _ _ _ _ _ ha ⟨fun _ => h, fun g => absurd ((xn_le hn hn).mpr (Nat.le_refl _)) g⟩
    | succ k ih =>
      intro t ht
      have ht2 : t < n := by omega
      refine tr_fill_I_5 _ _ _ _ _ ha ⟨fun g => absurd ((xn_le hn (by omega)).mp g) (by omega), fun _ => ⟨xn_in ht2 hn, ?_⟩⟩
      rw [xn_c (by omega), xm_fl_Is, xn_s]
      exact ih (t + 1) (by omega)
  have := key n 0 (by omega)
  rw [xm_fl_I0] at this
  exact this
theorem s_fill_B {l : Launch} {E : xm_E} {Q : Option Value → xm_M → Prop} {M : xm_M} {a n : Nat} {w : Int32} (ha : xm_sh M a = some (.inl (n, .byte))) (hn : n < 2 ^ 31) (hw : w.toInt8.toInt32 = w) (h : Q none (xm_fl_I M a n w)) : xm_C l E yr_fill_B rmr_fill_B [.ref a, .int w] M Q := by
  refine xm_enterF (by decide +kernel) (Nat.le_of_ble_eq_true rfl) (tr_fill_B_0 M a w ha ?_)
  have key : ∀ k t : Nat, t + k = n → xm_X l E yr_fill_B rmr_fill_B Q 5 [(0, .ref a), (1, .int w), (2, .int (Int32.ofNat t)), (3, .int (Int32.ofNat n))] [] 0 0 (xm_fl_I M a t w) := by
    intro k
    induction k with
    | zero =>
      intro t ht
      have : t = n := by omega
      subst this
      exact tr_fill_B_5 _ _ _ _ _ ha ⟨fun _ => h, fun g => absurd ((xn_le hn hn).mpr (Nat.le_refl _)) g⟩
    | succ k ih =>
      intro t ht
      have ht2 : t < n := by omega
      refine tr_fill_B_5 _ _ _ _ _ ha ⟨fun g => absurd ((xn_le hn (by omega)).mp g) (by omega), fun _ => ⟨xn_in ht2 hn, ?_⟩⟩
      rw [xn_c (by omega), hw, xm_fl_Is, xn_s]
      exact ih (t + 1) (by omega)
  have := key n 0 (by omega)
  rw [xm_fl_I0] at this
  exact this
