section WM
variable {l : Launch} {E : xm_E} {b : Nat} {c p : Bool} {Q : Option Value → xm_M → Prop} {M : xm_M}
def gdM (M : xm_M) (b i : Nat) (n : Int32) : Bool := gdB (xm_gi M (b + 155) i) (xm_gi M (b + 156) i) (xm_gi M (b + 157) i) (xm_gi M (b + 158) i) (xm_gi M (b + 159) i) (Int32.ofNat i) n
theorem xz_ne {t : Bool} (h : ¬ xz t = 0) : t = true := by cases t with | true => rfl | false => exact absurd rfl h
theorem w171 {i : Nat} {t : Bool} (hS : xm_st b c p M) (h1 : t = true → xm_X l E y11_wrong rm11_wrong Q 2 [(0, .ref (b + 154)), (1, .int (Int32.ofNat (i + 1)))] [] 0 0 M) (h0 : t = false → xm_st b c p M → Q (some (.int (Int32.ofNat i))) M) : xm_X l E y11_wrong rm11_wrong Q 171 [(0, .ref (b + 154)), (1, .int (Int32.ofNat i)), (2, .int (xz t))] [] 0 0 M :=
  t11_wrong_171 M _ _ hS ⟨fun g hS => by rw [xn_s]; exact h1 (xz_ne g), fun g => h0 (xz_0.mp g)⟩
theorem le12 (o : Int32) : o ≤ 12 ↔ o < 13 := by
  rw [Int32.le_iff_toInt_le, Int32.lt_iff_toInt_lt, show (12 : Int32).toInt = 12 by decide, show (13 : Int32).toInt = 13 by decide]; omega
theorem w127 {i n : Nat} {t : Bool} (hi : i < 48) (hc : xm_gi M (b + 154) 1 = Int32.ofNat n) (hS : xm_st b c p M) (h : xm_X l E y11_wrong rm11_wrong Q 171 [(0, .ref (b + 154)), (1, .int (Int32.ofNat i)), (2, .int (xz (t && taB (xm_gi M (b + 155) i) (xm_gi M (b + 159) i) (Int32.ofNat i) (Int32.ofNat n))))] [] 0 0 M) : xm_X l E y11_wrong rm11_wrong Q 127 [(0, .ref (b + 154)), (1, .int (Int32.ofNat i)), (2, .int (xz t))] [] 0 0 M := by
  have hin : vp_in (Int32.ofNat i) 48 := xn_in hi (by decide)
  have ci : (Int32.ofNat i).toNatClampNeg = i := xn_c (by omega)
  refine t11_wrong_127 M _ _ hS ⟨hin, ?_⟩
  rw [ci, hc]
  refine ⟨fun g hS => ?_, fun g => ⟨fun g2 hS => ?_, fun g2 => ⟨hin, fun g3 hS => ?_, fun g3 => ⟨hin, fun g4 hS => ?_, fun g4 hS => ?_⟩⟩⟩⟩
  · have g' := (le12 _).mp g
    rw [show taB (xm_gi M (b + 155) i) (xm_gi M (b + 159) i) (Int32.ofNat i) (Int32.ofNat n) = true by simp [taB, g'], Bool.and_true] at h; exact h
  · rw [xz_0.mp g2] at h; exact h
  · have g' : ¬ xm_gi M (b + 155) i < 13 := fun q => g ((le12 _).mpr q)
    rw [show taB (xm_gi M (b + 155) i) (xm_gi M (b + 159) i) (Int32.ofNat i) (Int32.ofNat n) = false by simp [taB, g', g3], Bool.and_false] at h; exact h
  · have g' : ¬ xm_gi M (b + 155) i < 13 := fun q => g ((le12 _).mpr q)
    rw [show taB (xm_gi M (b + 155) i) (xm_gi M (b + 159) i) (Int32.ofNat i) (Int32.ofNat n) = false by simp [taB, g', g4], Bool.and_false] at h; exact h
  · have g' : ¬ xm_gi M (b + 155) i < 13 := fun q => g ((le12 _).mpr q)
    rw [show taB (xm_gi M (b + 155) i) (xm_gi M (b + 159) i) (Int32.ofNat i) (Int32.ofNat n) = true by simp [taB, g', g3, g4], xz_ne g2] at h; exact h
theorem le0_1 (o : Int32) : o ≤ 0 ↔ o < 1 := by
  rw [Int32.le_iff_toInt_le, Int32.lt_iff_toInt_lt, show (0 : Int32).toInt = 0 by decide, show (1 : Int32).toInt = 1 by decide]; omega
theorem le32 (o : Int32) : 32 ≤ o ↔ 31 < o := by
  rw [Int32.le_iff_toInt_le, Int32.lt_iff_toInt_lt, show (31 : Int32).toInt = 31 by decide, show (32 : Int32).toInt = 32 by decide]; omega
theorem w86 {i : Nat} {t : Bool} (hi : i < 48) (h6 : ¬ xm_gi M (b + 155) i = 6 ∨ t = (!decide (xm_gi M (b + 158) i < 0) && t)) (hS : xm_st b c p M) (h : xm_X l E y11_wrong rm11_wrong Q 127 [(0, .ref (b + 154)), (1, .int (Int32.ofNat i)), (2, .int (xz (t && nuB (xm_gi M (b + 155) i) (xm_gi M (b + 158) i))))] [] 0 0 M) : xm_X l E y11_wrong rm11_wrong Q 86 [(0, .ref (b + 154)), (1, .int (Int32.ofNat i)), (2, .int (xz t))] [] 0 0 M := by
  have hin : vp_in (Int32.ofNat i) 48 := xn_in hi (by decide)
  have ci : (Int32.ofNat i).toNatClampNeg = i := xn_c (by omega)
  refine t11_wrong_86 M _ _ hS ⟨hin, ?_⟩
  rw [ci]
  refine ⟨fun g hS => ?_, fun g => ⟨fun g2 hS => ?_, fun g2 => ⟨hin, fun g3 hS => ?_, fun g3 => ⟨hin, fun g4 hS => ?_, fun g4 hS => ?_⟩⟩⟩⟩
  · by_cases g6 : xm_gi M (b + 155) i = 6
    · have h6 := h6.resolve_left (fun q => q g6)
      rw [show nuB (xm_gi M (b + 155) i) (xm_gi M (b + 158) i) = !decide (xm_gi M (b + 158) i < 0) by simp [nuB, g6], Bool.and_comm, ← h6] at h; exact h
    · rw [show nuB (xm_gi M (b + 155) i) (xm_gi M (b + 158) i) = true by simp [nuB, g6, g], Bool.and_true] at h; exact h
  · rw [xz_0.mp g2] at h; exact h
  · have g' := (le0_1 _).mp g3
    rw [show nuB (xm_gi M (b + 155) i) (xm_gi M (b + 158) i) = false by simp [nuB, g, g'], Bool.and_false] at h; exact h
  · have g' := (le32 _).mp g4
    rw [show nuB (xm_gi M (b + 155) i) (xm_gi M (b + 158) i) = false by simp [nuB, g, g'], Bool.and_false] at h; exact h
  · have g3' : ¬ xm_gi M (b + 158) i < 1 := fun q => g3 ((le0_1 _).mpr q)
    have g4' : ¬ 31 < xm_gi M (b + 158) i := fun q => g4 ((le32 _).mpr q)
    rw [show nuB (xm_gi M (b + 155) i) (xm_gi M (b + 158) i) = true by simp [nuB, g, g3', g4'], xz_ne g2] at h; exact h
theorem w56 {i : Nat} {t : Bool} (hi : i < 48) (hS : xm_st b c p M) (h : xm_X l E y11_wrong rm11_wrong Q 127 [(0, .ref (b + 154)), (1, .int (Int32.ofNat i)), (2, .int (xz (t && nuB (xm_gi M (b + 155) i) (xm_gi M (b + 158) i))))] [] 0 0 M) : xm_X l E y11_wrong rm11_wrong Q 56 [(0, .ref (b + 154)), (1, .int (Int32.ofNat i)), (2, .int (xz t))] [] 0 0 M := by
  have hin : vp_in (Int32.ofNat i) 48 := xn_in hi (by decide)
  have ci : (Int32.ofNat i).toNatClampNeg = i := xn_c (by omega)
  refine t11_wrong_56 M _ _ hS ⟨hin, ?_⟩
  rw [ci]
  refine ⟨fun g hS => w86 hi (Or.inl g) hS h, fun g => ⟨fun g2 hS => ?_, fun g2 => ⟨hin, fun g3 hS => ?_, fun g3 hS => ?_⟩⟩⟩
  · rw [xz_0.mp g2, Bool.false_and] at h
    exact w86 (t := false) hi (Or.inr (by simp)) hS (by rw [Bool.false_and]; exact h)
  · rw [show nuB (xm_gi M (b + 155) i) (xm_gi M (b + 158) i) = false by simp [nuB, g, g3], Bool.and_false] at h
    exact w86 (t := false) hi (Or.inr (by simp)) hS (by rw [Bool.false_and]; exact h)
  · rw [xz_ne g2] at h
    exact w86 (t := true) hi (Or.inr (by simp [g3])) hS h
theorem lp_wrong {n : Nat} (hn : n ≤ 48) (hc : xm_gi M (b + 154) 1 = Int32.ofNat n) (hS : xm_st b c p M) : ∀ (k i : Nat), i + k = n → (xm_st b c p M → Q (some (.int (wpv (-1) (wpo (fun i => gdM M b i (Int32.ofNat n)) (decide (0 < n) && decide (xm_gi M (b + 155) (n - 1) = 0)) k i)))) M) → xm_X l E y11_wrong rm11_wrong Q 2 [(0, .ref (b + 154)), (1, .int (Int32.ofNat i))] [] 0 0 M := by
  intro k
  induction k with
  | zero =>
    intro i hi h
    have hi : i = n := by omega
    subst hi
    have en : xm_gi M (b + 154) 1 ≤ 0 ↔ i = 0 := by rw [hc]; exact (xn_le (b := 0) (by omega) (by omega)).trans (by omega)
    have e1 : 0 < i → xm_gi M (b + 154) 1 - 1 = Int32.ofNat (i - 1) := fun h0 => by
      rw [hc]
      have := inc_ofNat (i - 1)
      rw [show i - 1 + 1 = i by omega] at this
      rw [this]
      exact Int32.add_sub_cancel _ _
    refine t11_wrong_2 M _ hS ⟨fun _ => ⟨fun g => ?_, fun g => ?_⟩, fun g => absurd (by rw [hc]; exact Int32.le_refl _) g⟩
    · have : i = 0 := en.mp g
      subst this
      rw [hc]
      exact h
    · have h0 : 0 < i := Nat.pos_of_ne_zero fun q => g (en.mpr q)
      rw [e1 h0, xn_c (by omega)]
      refine ⟨xn_in (by omega) (by decide), fun g2 => ?_, fun g2 => ?_⟩
      · rw [hc]
        simp only [wpo, g2, decide_false, Bool.and_false] at h
        exact h
      · simp only [wpo, g2, h0, decide_true, Bool.and_true] at h
        exact h
  | succ k ih =>
    intro i hi h
    have hin : vp_in (Int32.ofNat i) 48 := xn_in (by omega) (by decide)
    have ci : (Int32.ofNat i).toNatClampNeg = i := xn_c (by omega)
    have go : ∀ t : Bool, t = (rgB (xm_gi M (b + 156) i) && rgB (xm_gi M (b + 157) i)) → xm_X l E y11_wrong rm11_wrong Q 56 [(0, .ref (b + 154)), (1, .int (Int32.ofNat i)), (2, .int (xz t))] [] 0 0 M := by
      intro t ht
      refine w56 (by omega) hS (w127 (n := n) (by omega) hc hS (w171 hS (fun e => ?_) (fun e => ?_)))
      · have eg : gdM M b i (Int32.ofNat n) = true := by unfold gdM gdB; rw [← ht]; exact e
        refine ih (i + 1) (by omega) ?_
        simp only [wpo, eg, if_true] at h
        exact h
      · have eg : gdM M b i (Int32.ofNat n) = false := by unfold gdM gdB; rw [← ht]; exact e
        simp only [wpo, eg] at h
        exact h
    refine t11_wrong_2 M _ hS ⟨fun g => absurd ((xn_le (a := n) (b := i) (by omega) (by omega)).mp (by rw [hc] at g; exact g)) (by omega), fun _ => ⟨hin, ?_⟩⟩
    rw [ci]
    refine ⟨fun g hS => go false (by simp [rgB, g]), fun g => ⟨hin, fun g2 hS => go false (by simp [rgB, g2]), fun g2 => ⟨hin, fun g3 hS => go false (by simp [rgB, g3]), fun g3 => ⟨hin, fun g4 hS => go false (by simp [rgB, g4]), fun g4 hS => go true (by simp [rgB, g, g2, g3, g4])⟩⟩⟩⟩
theorem s11_wrong {n : Nat} (hn : n ≤ 48) (hc : xm_gi M (b + 154) 1 = Int32.ofNat n) (hS : xm_st b c p M) (h : xm_st b c p M → Q (some (.int (wpv (-1) (wpo (fun i => gdM M b i (Int32.ofNat n)) (decide (0 < n) && decide (xm_gi M (b + 155) (n - 1) = 0)) n 0)))) M) : xm_C l E y11_wrong rm11_wrong [.ref (b + 154)] M Q :=
  xm_enter (by decide) (Nat.le_of_ble_eq_true rfl) (t11_wrong_0 M hS (fun hS => lp_wrong hn hc hS n 0 (by omega) h))
end WM
theorem wpo_congr {g h : Nat → Bool} {z : Bool} : ∀ (k i : Nat), (∀ j, i ≤ j → j < i + k → g j = h j) → wpo g z k i = wpo h z k i
  | 0, _, _ => rfl
  | k + 1, i, e => by
    unfold wpo
    rw [e i (Nat.le_refl _) (by omega), wpo_congr k (i + 1) (fun j h1 h2 => e j (by omega) (by omega))]
theorem wpo_le {g : Nat → Bool} {z : Bool} : ∀ (k i j : Nat), wpo g z k i = some j → i ≤ j ∧ j ≤ i + k
  | 0, i, j, h => by
    unfold wpo at h
    cases z with
    | true => cases h
    | false => cases h; omega
  | k + 1, i, j, h => by
    unfold wpo at h
    cases hg : g i with
    | true => rw [hg] at h; have := wpo_le k (i + 1) j h; omega
    | false => rw [hg] at h; cases h; omega
theorem wpo_none {g : Nat → Bool} {z : Bool} : ∀ (k i : Nat), wpo g z k i = none → z = true ∧ ∀ j, i ≤ j → j < i + k → g j = true
  | 0, i, h => by
    unfold wpo at h
    cases z with
    | true => exact ⟨rfl, fun j h1 h2 => by omega⟩
    | false => cases h
  | k + 1, i, h => by
    unfold wpo at h
    cases hg : g i with
    | false => rw [hg] at h; cases h
    | true =>
      rw [hg] at h
      obtain ⟨h1, h2⟩ := wpo_none k (i + 1) h
      refine ⟨h1, fun j a1 a2 => ?_⟩
      by_cases e : j = i
      · rw [e]; exact hg
      · exact h2 j (by omega) (by omega)
