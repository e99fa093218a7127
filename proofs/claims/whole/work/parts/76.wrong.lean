/-! a filter that is well made -/
def rgB (v : Int32) : Bool := !decide (v < 0) && !decide (8 ≤ v)
def nuB (o k : Int32) : Bool := if o = 6 then !decide (k < 0) else if o = 7 then !decide (k < 1) && !decide (31 < k) else true
def taB (o t i n : Int32) : Bool := if o < 13 then true else !decide (t ≤ i) && !decide (n ≤ t)
def gdB (o a q k t i n : Int32) : Bool := rgB a && rgB q && nuB o k && taB o t i n
section WR
variable {l : Launch} {E : xm_E} {b : Nat} {c p : Bool} {Q : Option Value → xm_M → Prop} {M : xm_M}
theorem s2_isRegister {v : Int32} (hS : xm_st b c p M) (h : xm_st b c p M → Q (some (.int (xz (rgB v)))) M) : xm_C l E y2_isRegister rm2_isRegister [.int v] M Q := by
  refine xm_enter (by decide) (Nat.le_of_ble_eq_true rfl) (t2_isRegister_0 M v hS ⟨fun g => ?_, fun g => ⟨fun g2 => ?_, fun g2 => ?_⟩⟩)
  · rw [show rgB v = false by simp [rgB, g]] at h; exact h
  · rw [show rgB v = false by simp [rgB, g2]] at h; exact h
  · rw [show rgB v = true by simp [rgB, g, g2]] at h; exact h
theorem s2_hasRightNumber {a : Nat} (ha : xS b a = some (.inr 2)) (hS : xm_st b c p M) (h : xm_st b c p M → Q (some (.int (xz (nuB (xm_gi M a 0) (xm_gi M a 3))))) M) : xm_C l E y2_hasRightNumber rm2_hasRightNumber [.ref a] M Q := by
  refine xm_enter (by decide) (Nat.le_of_ble_eq_true rfl) (t2_hasRightNumber_0 M a ha hS ⟨fun g => ⟨fun g2 => ?_, fun g2 => ⟨fun g3 => ?_, fun g3 => ⟨fun g4 => ?_, fun g4 => ?_⟩⟩⟩, fun g => ⟨fun g2 => ?_, fun g2 => ?_⟩⟩)
  · rw [show nuB (xm_gi M a 0) (xm_gi M a 3) = true by simp [nuB, g, g2]] at h; exact h
  · rw [show nuB (xm_gi M a 0) (xm_gi M a 3) = false by simp [nuB, g2, g3]] at h; exact h
  · rw [show nuB (xm_gi M a 0) (xm_gi M a 3) = false by simp [nuB, g2, g4]] at h; exact h
  · rw [show nuB (xm_gi M a 0) (xm_gi M a 3) = true by simp [nuB, g2, g3, g4]] at h; exact h
  · rw [show nuB (xm_gi M a 0) (xm_gi M a 3) = false by simp [nuB, g, g2]] at h; exact h
  · rw [show nuB (xm_gi M a 0) (xm_gi M a 3) = true by simp [nuB, g, g2]] at h; exact h
theorem s2_hasRightTarget {a : Nat} {v w : Int32} (ha : xS b a = some (.inr 2)) (hS : xm_st b c p M) (h : xm_st b c p M → Q (some (.int (xz (taB (xm_gi M a 0) (xm_gi M a 4) v w)))) M) : xm_C l E y2_hasRightTarget rm2_hasRightTarget [.ref a, .int v, .int w] M Q := by
  refine xm_enter (by decide) (Nat.le_of_ble_eq_true rfl) (t2_hasRightTarget_0 M a v w ha hS ⟨fun g => ?_, fun g => ⟨fun g2 => ?_, fun g2 => ⟨fun g3 => ?_, fun g3 => ?_⟩⟩⟩)
  · rw [show taB (xm_gi M a 0) (xm_gi M a 4) v w = true by simp [taB, g]] at h; exact h
  · rw [show taB (xm_gi M a 0) (xm_gi M a 4) v w = false by simp [taB, g, g2]] at h; exact h
  · rw [show taB (xm_gi M a 0) (xm_gi M a 4) v w = false by simp [taB, g, g3]] at h; exact h
  · rw [show taB (xm_gi M a 0) (xm_gi M a 4) v w = true by simp [taB, g, g2, g3]] at h; exact h
def gdX (M : xm_M) (a : Nat) (i n : Int32) : Bool := gdB (xm_gi M a 0) (xm_gi M a 1) (xm_gi M a 2) (xm_gi M a 3) (xm_gi M a 4) i n
theorem s2_isRight {a : Nat} {v w : Int32} (ha : xS b a = some (.inr 2)) (hS : xm_st b c p M) (h : xm_st b c p M → Q (some (.int (xz (gdX M a v w)))) M) : xm_C l E y2_isRight rm2_isRight [.ref a, .int v, .int w] M Q := by
  unfold gdX gdB at h
  refine xm_enter (by decide) (Nat.le_of_ble_eq_true rfl) (t2_isRight_0 M a v w ha hS (s2_isRegister hS (fun hS => ⟨_, rfl, hS, fun g hS => ?_, fun g => s2_isRegister hS (fun hS => ⟨_, rfl, hS, fun g2 hS => ?_, fun g2 => s2_hasRightNumber ha hS (fun hS => ⟨_, rfl, hS, fun g3 hS => ?_, fun g3 => s2_hasRightTarget ha hS (fun hS => ⟨_, rfl, hS, fun g4 hS => ?_, fun g4 hS => ?_⟩)⟩)⟩)⟩)))
  · have e := xz_0.mp g; rw [e] at h; exact h hS
  · have e := xz_0.mp g2; rw [e, Bool.and_false] at h; exact h hS
  · have e := xz_0.mp g3; rw [e, Bool.and_false] at h; exact h hS
  · have e := xz_0.mp g4; rw [e, Bool.and_false] at h; exact h hS
  · have e1 : rgB (xm_gi M a 1) = true := by cases hq : rgB (xm_gi M a 1) with | true => rfl | false => exact absurd (xz_0.mpr hq) g
    have e2 : rgB (xm_gi M a 2) = true := by cases hq : rgB (xm_gi M a 2) with | true => rfl | false => exact absurd (xz_0.mpr hq) g2
    have e3 : nuB (xm_gi M a 0) (xm_gi M a 3) = true := by cases hq : nuB (xm_gi M a 0) (xm_gi M a 3) with | true => rfl | false => exact absurd (xz_0.mpr hq) g3
    have e4 : taB (xm_gi M a 0) (xm_gi M a 4) v w = true := by cases hq : taB (xm_gi M a 0) (xm_gi M a 4) v w with | true => rfl | false => exact absurd (xz_0.mpr hq) g4
    rw [e1, e2, e3, e4] at h
    exact h hS
/-- the first wrong place from i on, k still to be seen; z: the last is a return -/
def wpo (g : Nat → Bool) (z : Bool) : Nat → Nat → Option Nat
  | 0, i => if z then none else some i
  | k + 1, i => if g i then wpo g z k (i + 1) else some i
def wpv (d : Int32) (r : Option Nat) : Int32 := match r with
  | none => d
  | some i => Int32.ofNat i
theorem lp_wrongPlace {n : Nat} (hn : n ≤ 48) (hc : xm_gi M (b + 1) 2 = Int32.ofNat n) (hS : xm_st b c p M) : ∀ (k i : Nat), i + k = n → (xm_st b c p M → Q (some (.int (wpv (-2) (wpo (fun i => gdX M (b + 3 + i) (Int32.ofNat i) (Int32.ofNat n)) (decide (0 < n) && decide (xm_gi M (b + 3 + (n - 1)) 0 = 0)) k i)))) M) → xm_X l E y1_wrongPlace rm1_wrongPlace Q 2 [(0, .ref (b + 1)), (1, .int (Int32.ofNat i))] [] 0 0 M := by
  intro k
  induction k with
  | zero =>
    intro i hi h
    have hi : i = n := by omega
    subst hi
    have en : xm_gi M (b + 1) 2 ≤ 0 ↔ i = 0 := by rw [hc]; exact (xn_le (b := 0) (by omega) (by omega)).trans (by omega)
    have e1 : 0 < i → xm_gi M (b + 1) 2 - 1 = Int32.ofNat (i - 1) := fun h0 => by
      rw [hc]
      have := inc_ofNat (i - 1)
      rw [show i - 1 + 1 = i by omega] at this
      rw [this]
      exact Int32.add_sub_cancel _ _
    refine t1_wrongPlace_2 M _ hS ⟨fun _ => ⟨fun g => ?_, fun g => ?_⟩, fun g => absurd (by rw [hc]; exact Int32.le_refl _) g⟩
    · have : i = 0 := en.mp g
      subst this
      rw [hc]
      exact h
    · have h0 : 0 < i := Nat.pos_of_ne_zero fun q => g (en.mpr q)
      rw [e1 h0, xn_c (by omega)]
      refine ⟨xn_in (by omega) (by decide), fun g2 => ?_, fun g2 => ?_⟩
      · rw [hc]
        simp only [wpo, g2, decide_false, Bool.and_false] at h
        exact h
      · simp only [wpo, g2, h0, decide_true, Bool.and_true] at h
        exact h
  | succ k ih =>
    intro i hi h
    refine t1_wrongPlace_2 M _ hS ⟨fun g => absurd ((xn_le (a := n) (b := i) (by omega) (by omega)).mp (by rw [hc] at g; exact g)) (by omega), fun _ => ⟨xn_in (by omega) (by decide), ?_⟩⟩
    rw [xn_c (by omega), hc]
    refine s2_isRight (shf_2 (by omega)) hS (fun hS => ⟨_, rfl, hS, fun g hS => ?_, fun g hS => ?_⟩)
    · have e : gdX M (b + 3 + i) (Int32.ofNat i) (Int32.ofNat n) = true := by cases hq : gdX M (b + 3 + i) (Int32.ofNat i) (Int32.ofNat n) with | true => rfl | false => exact absurd (xz_0.mpr hq) g
      rw [xn_s]
      refine ih (i + 1) (by omega) ?_
      simp only [wpo, e, if_true] at h
      exact h
    · have e := xz_0.mp g
      simp only [wpo, e] at h
      exact h hS
theorem s1_wrongPlace {n : Nat} (hn : n ≤ 48) (hc : xm_gi M (b + 1) 2 = Int32.ofNat n) (hS : xm_st b c p M) (h : xm_st b c p M → Q (some (.int (wpv (-2) (wpo (fun i => gdX M (b + 3 + i) (Int32.ofNat i) (Int32.ofNat n)) (decide (0 < n) && decide (xm_gi M (b + 3 + (n - 1)) 0 = 0)) n 0)))) M) : xm_C l E y1_wrongPlace rm1_wrongPlace [.ref (b + 1)] M Q :=
  xm_enter (by decide) (Nat.le_of_ble_eq_true rfl) (t1_wrongPlace_0 M hS (fun hS => lp_wrongPlace hn hc hS n 0 (by omega) h))
end WR
