/-! the class's closing of rows, as it is -/
abbrev MtT : Type := Nat → Nat → Int64
def laX (b : Nat) (M : xm_M) (A : MtT) : Prop := ∀ u v, u < 10 → v < 10 → xm_gl M (b + 116 + u) v = A u v
def mnJ (x y : Int64) : Int64 := if x ≤ y then x else y
def rwP (A : MtT) (u by_ n : Nat) : MtT := fun x y => if x = u ∧ y < n ∧ ¬ A by_ y = N62 then mnJ (A u y) (A u by_ + A by_ y) else A x y
def fwS (A : MtT) (u by_ : Nat) : MtT := if A u by_ = N62 then A else rwP A u by_ 10
def fwX : Nat → Nat → MtT → Bool × MtT
  | 0, _, A => (true, A)
  | k + 1, t, A => if 0 ≤ fwS A (t % 10) (t / 10) (t % 10) (t % 10) then fwX k (t + 1) (fwS A (t % 10) (t / 10)) else (false, fwS A (t % 10) (t / 10))
section CL
variable {l : Launch} {E : xm_E} {b : Nat} {c p : Bool} {Q : Option Value → xm_M → Prop}
theorem lp_cf12 {A : MtT} {u w : Nat} (hu : u < 10) (hw : w < 10) : ∀ (k v : Nat) (M : xm_M), v + k = 10 → laX b M (rwP A u w v) → xm_st b c p M → (∀ M1, smX b M M1 → laX b M1 (rwP A u w 10) → xm_st b c p M1 → Q none M1) →
    xm_X l E y6_closeFrom rm6_closeFrom Q 12 [(0, .ref (b + 110)), (1, .int (Int32.ofNat u)), (2, .int (Int32.ofNat w)), (3, .long (A u w)), (5, .int (Int32.ofNat v))] [] 0 0 M := by
  intro k
  induction k with
  | zero =>
    intro v M hv hA hS h
    have hv : v = 10 := by omega
    subst hv
    exact t6_closeFrom_12 M _ _ _ _ hS ⟨fun _ hS => h M smX.rf hA hS, fun g => absurd (by decide) g⟩
  | succ k ih =>
    intro v M hv hA hS h
    have iu : vp_in (Int32.ofNat u) 10 := xn_in hu (by decide)
    have iw : vp_in (Int32.ofNat w) 10 := xn_in hw (by decide)
    have iv : vp_in (Int32.ofNat v) 10 := xn_in (by omega) (by decide)
    refine t6_closeFrom_12 M _ _ _ _ hS ⟨fun g => ?_, fun _ => ⟨iw, iv, ?_⟩⟩
    · have g := (xn_le (a := 10) (by decide) (by omega)).mp g
      omega
    have e1 : xm_gl M (b + 116 + w) v = A w v := by rw [hA w v hw (by omega)]; exact if_neg (by omega)
    have e2 : xm_gl M (b + 116 + u) v = A u v := by rw [hA u v hu (by omega)]; exact if_neg (by omega)
    rw [xn_c (by omega), xn_c (by omega), xn_c (by omega), e1, e2, xn_s]
    refine ⟨fun g hS => ?_, fun g => ⟨iu, iu, iv, iw, iv, s_min_J ⟨mnJ (A u v) (A u w + A w v), rfl, hS, iv, fun hS => ?_⟩⟩⟩
    · refine ih (v + 1) M (by omega) (fun x y hx hy => ?_) hS h
      rw [hA x y hx hy]
      unfold rwP
      by_cases z : x = u ∧ y < v ∧ ¬ A w y = N62
      · rw [if_pos z, if_pos ⟨z.1, by omega, z.2.2⟩]
      · rw [if_neg z, if_neg (fun q => z ⟨q.1, by
          have : ¬ y = v := fun e => q.2.2 (by rw [e]; exact g)
          omega, q.2.2⟩)]
    · have s0 : smX b M (xm_pl M (b + 116 + u) v (mnJ (A u v) (A u w + A w v))) := ⟨fun _ _ _ => rfl, fun x j q => by rw [gl_pl, if_neg (by omega)]⟩
      refine ih (v + 1) _ (by omega) (fun x y hx hy => ?_) hS (fun M1 s1 a1 hS => h M1 (s0.tr s1) a1 hS)
      rw [gl_pl]
      unfold rwP
      by_cases z : x = u ∧ y = v
      · rw [if_pos ⟨by omega, z.2⟩, z.1, z.2, if_pos ⟨rfl, by omega, g⟩]
      · rw [if_neg (by omega), hA x y hx hy]
        unfold rwP
        by_cases z2 : x = u ∧ y < v ∧ ¬ A w y = N62
        · rw [if_pos z2, if_pos ⟨z2.1, by omega, z2.2.2⟩]
        · rw [if_neg z2, if_neg (fun q => z2 ⟨q.1, by omega, q.2.2⟩)]
theorem s6_closeFrom {A : MtT} {u w : Nat} {M : xm_M} (hu : u < 10) (hw : w < 10) (hA : laX b M A) (hS : xm_st b c p M) (h : ∀ M1, smX b M M1 → laX b M1 (rwP A u w 10) → xm_st b c p M1 → Q none M1) : xm_C l E y6_closeFrom rm6_closeFrom [.ref (b + 110), .int (Int32.ofNat u), .int (Int32.ofNat w)] M Q := by
  refine xm_enter (by decide) (Nat.le_of_ble_eq_true rfl) (t6_closeFrom_0 M _ _ hS ⟨xn_in hu (by decide), xn_in hw (by decide), fun hS => ?_⟩)
  rw [xn_c (by omega), xn_c (by omega), hA u w hu hw]
  refine lp_cf12 (A := A) hu hw 10 0 M rfl (fun x y hx hy => ?_) hS h
  rw [hA x y hx hy]; exact (if_neg (fun q => absurd q.2.1 (Nat.not_lt_zero y))).symm
theorem lp_cr10 : ∀ (k w u : Nat) (A : MtT) (M : xm_M), w < 10 → u < 10 → 10 * w + u + (k + 1) = 100 → laX b M A → xm_st b c p M → (∀ M1, smX b M M1 → laX b M1 (fwX (k + 1) (10 * w + u) A).2 → xm_st b c p M1 → Q (some (.int (xz (fwX (k + 1) (10 * w + u) A).1))) M1) →
    xm_X l E y6_closeRows rm6_closeRows Q 10 [(0, .ref (b + 110)), (1, .int (Int32.ofNat w)), (2, .int (Int32.ofNat u))] [] 0 0 M := by
  intro k
  induction k with
  | zero =>
    intro w u A M hw hu hk hA hS h
    have hw9 : w = 9 := by omega
    have hu9 : u = 9 := by omega
    subst hw9 hu9
    have fin : ∀ (A' : MtT), fwS A 9 9 = A' → ∀ M1, smX b M M1 → laX b M1 A' → xm_st b c p M1 → ((((0 : Int64) ≤ xm_gl M1 (b + 116 + 9) 9 → (xm_st b c p M1 → xm_X l E y6_closeRows rm6_closeRows Q 10 [(0, .ref (b + 110)), (1, .int (Int32.ofNat 9)), (2, .int (Int32.ofNat 9 + Int32.ofInt 1))] [] 0 0 M1)) ∧ (¬ (0 : Int64) ≤ xm_gl M1 (b + 116 + 9) 9 → (xm_st b c p M1 → Q (some (.int (0 : Int32))) M1)))) := fun A' e M1 s1 a1 hS => by
      have hf : fwX (0 + 1) (10 * 9 + 9) A = if 0 ≤ A' 9 9 then (true, A') else (false, A') := by
        show (if 0 ≤ fwS A 9 9 9 9 then (true, fwS A 9 9) else (false, fwS A 9 9)) = _
        rw [e]
      rw [a1 9 9 (by decide) (by decide)]
      refine ⟨fun g hS => ?_, fun g hS => ?_⟩
      · rw [hf, if_pos g] at h
        exact t6_closeRows_10 M1 _ _ hS ⟨fun _ hS => t6_closeRows_2 M1 _ hS ⟨fun _ hS => h M1 s1 a1 hS, fun z => absurd (by decide) z⟩, fun z => absurd (by decide) z⟩
      · rw [hf, if_neg g] at h
        exact h M1 s1 a1 hS
    refine t6_closeRows_10 M _ _ hS ⟨fun g => absurd g (by decide), fun _ => ⟨xn_in (by decide) (by decide), xn_in (by decide) (by decide), ?_⟩⟩
    rw [xn_c (by decide), hA 9 9 (by decide) (by decide)]
    refine ⟨fun g => ⟨xn_in (by decide) (by decide), xn_in (by decide) (by decide), ?_⟩, fun g => s6_closeFrom (by decide) (by decide) hA hS (fun M1 s1 a1 hS => ⟨rfl, hS, xn_in (by decide) (by decide), xn_in (by decide) (by decide), ?_⟩)⟩
    · have := fin A (if_pos g) M smX.rf hA hS
      rw [hA 9 9 (by decide) (by decide)] at this
      exact this
    · exact fin (rwP A 9 9 10) (if_neg g) M1 s1 a1 hS
  | succ k ih =>
    intro w u A M hw hu hk hA hS h
    have iu : vp_in (Int32.ofNat u) 10 := xn_in hu (by decide)
    have iw : vp_in (Int32.ofNat w) 10 := xn_in hw (by decide)
    have t1 : (10 * w + u) % 10 = u := by omega
    have t2 : (10 * w + u) / 10 = w := by omega
    have fin : ∀ (A' : MtT), fwS A u w = A' → ∀ M1, smX b M M1 → laX b M1 A' → xm_st b c p M1 → ((((0 : Int64) ≤ xm_gl M1 (b + 116 + u) u → (xm_st b c p M1 → xm_X l E y6_closeRows rm6_closeRows Q 10 [(0, .ref (b + 110)), (1, .int (Int32.ofNat w)), (2, .int (Int32.ofNat (u + 1)))] [] 0 0 M1)) ∧ (¬ (0 : Int64) ≤ xm_gl M1 (b + 116 + u) u → (xm_st b c p M1 → Q (some (.int (0 : Int32))) M1)))) := fun A' e M1 s1 a1 hS => by
      have hf : fwX (k + 1 + 1) (10 * w + u) A = if 0 ≤ A' u u then fwX (k + 1) (10 * w + u + 1) A' else (false, A') := by
        show (if 0 ≤ fwS A ((10 * w + u) % 10) ((10 * w + u) / 10) ((10 * w + u) % 10) ((10 * w + u) % 10) then fwX (k + 1) (10 * w + u + 1) (fwS A ((10 * w + u) % 10) ((10 * w + u) / 10)) else (false, fwS A ((10 * w + u) % 10) ((10 * w + u) / 10))) = _
        rw [t1, t2, e]
      rw [a1 u u hu hu]
      refine ⟨fun g hS => ?_, fun g hS => ?_⟩
      · rw [hf, if_pos g] at h
        by_cases e9 : u = 9
        · subst e9
          refine t6_closeRows_10 M1 _ _ hS ⟨fun _ hS => ?_, fun z => absurd (by decide) z⟩
          rw [xn_s]
          refine t6_closeRows_2 M1 _ hS ⟨fun g2 => ?_, fun _ hS => ?_⟩
          · have g2 := (xn_le (a := 10) (by decide) (by omega)).mp g2
            omega
          · show xm_X l E y6_closeRows rm6_closeRows Q 10 [(0, .ref (b + 110)), (1, .int (Int32.ofNat (w + 1))), (2, .int (Int32.ofNat 0))] [] 0 0 M1
            have et : 10 * w + 9 + 1 = 10 * (w + 1) + 0 := by omega
            rw [et] at h
            exact ih (w + 1) 0 A' M1 (by omega) (by decide) (by omega) a1 hS (fun M2 s2 a2 hS => h M2 (s1.tr s2) a2 hS)
        · exact ih w (u + 1) A' M1 hw (by omega) (by omega) a1 hS (fun M2 s2 a2 hS => h M2 (s1.tr s2) a2 hS)
      · rw [hf, if_neg g] at h
        exact h M1 s1 a1 hS
    refine t6_closeRows_10 M _ _ hS ⟨fun g => ?_, fun _ => ⟨iu, iw, ?_⟩⟩
    · have g := (xn_le (a := 10) (by decide) (by omega)).mp g
      omega
    rw [xn_c (by omega), xn_c (by omega), hA u w hu hw, xn_s]
    refine ⟨fun g => ⟨iu, iu, ?_⟩, fun g => s6_closeFrom hu hw hA hS (fun M1 s1 a1 hS => ⟨rfl, hS, iu, iu, ?_⟩)⟩
    · exact fin A (if_pos g) M smX.rf hA hS
    · exact fin (rwP A u w 10) (if_neg g) M1 s1 a1 hS
theorem s6_closeRows {A : MtT} {M : xm_M} (hA : laX b M A) (hS : xm_st b c p M) (h : ∀ M1, smX b M M1 → laX b M1 (fwX 100 0 A).2 → xm_st b c p M1 → Q (some (.int (xz (fwX 100 0 A).1))) M1) : xm_C l E y6_closeRows rm6_closeRows [.ref (b + 110)] M Q :=
  xm_enter (by decide) (Nat.le_of_ble_eq_true rfl) (t6_closeRows_0 M hS (fun hS => t6_closeRows_2 M _ hS ⟨fun g => absurd g (by decide), fun _ hS => lp_cr10 99 0 0 A M (by decide) (by decide) rfl hA hS h⟩))
def bnX (x : Int64) : Int64 := if isB x = true then x else N62
theorem s6_bound {A : MtT} {u v : Nat} {M : xm_M} (hu : u < 10) (hv : v < 10) (hA : laX b M A) (hS : xm_st b c p M) (h : xm_st b c p M → Q (some (.long (bnX (A u v)))) M) : xm_C l E y6_bound rm6_bound [.ref (b + 110), .int (Int32.ofNat u), .int (Int32.ofNat v)] M Q := by
  refine xm_enter (by decide) (Nat.le_of_ble_eq_true rfl) (t6_bound_0 M _ _ hS ⟨xn_in hu (by decide), xn_in hv (by decide), ?_⟩)
  rw [xn_c (by omega), xn_c (by omega), hA u v hu hv]
  have fitI : (A u v = Int32.toInt64 (Int64.toInt32 (A u v))) ↔ isB (A u v) = true := by
    rw [zl_fit]; exact decide_eq_true_iff.symm
  refine ⟨fun g => ?_, fun g => ?_⟩
  · rw [show bnX (A u v) = N62 from if_neg (fun z => g (fitI.mpr z))] at h; exact h
  · rw [show bnX (A u v) = A u v from if_pos (fitI.mp g)] at h; exact h
end CL
