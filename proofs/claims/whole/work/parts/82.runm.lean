def fvM (b : Nat) (M : xm_M) (F : Flt) (len : Nat) (P : Nat → Int32) : Prop := xm_gi M (b + 154) 11 = Int32.ofNat len ∧ (∀ j, j < len → xm_gi M (b + 161) j = P j) ∧ ∀ i, i < 48 → xm_gi M (b + 155) i = F.1 i ∧ xm_gi M (b + 156) i = F.2.1 i ∧ xm_gi M (b + 157) i = F.2.2.1 i ∧ xm_gi M (b + 158) i = F.2.2.2.1 i ∧ xm_gi M (b + 159) i = F.2.2.2.2 i
theorem fvM.frame {b : Nat} {M N : xm_M} {F : Flt} {len : Nat} {P : Nat → Int32} (h : fvM b M F len P) (e : ∀ a k, ((a = b + 154 ∧ k = 11) ∨ a = b + 161 ∨ (b + 155 ≤ a ∧ a ≤ b + 159)) → xm_gi N a k = xm_gi M a k) : fvM b N F len P := by
  obtain ⟨h1, h2, h3⟩ := h
  refine ⟨by rw [e _ _ (by omega)]; exact h1, fun j hj => by rw [e _ _ (by omega)]; exact h2 j hj, fun i hi => ?_⟩
  obtain ⟨a1, a2, a3, a4, a5⟩ := h3 i hi
  refine ⟨?_, ?_, ?_, ?_, ?_⟩ <;> rw [e _ _ (by omega)] <;> assumption
def arN (b x j : Nat) : Prop := (x = b + 154 ∧ (j = 12 ∨ j = 13 ∨ j = 36)) ∨ x = b + 176 ∨ x = b + 177
section RM
variable {l : Launch} {E : xm_E} {b : Nat} {c p : Bool} {Q : Option Value → xm_M → Prop} {F : Flt} {n len : Nat} {P : Nat → Int32}
theorem lp_run88 (hF : fOk F n) (hl : len ≤ 1024) : ∀ (f i d : Nat) (M : xm_M) (R S : Nat → Int32), n ≤ i + f → i < n → fvM b M F len P → xm_gi M (b + 154) 13 = Int32.ofNat d → xm_gi M (b + 154) 12 = 0 → mcM b M R S → xm_st b c p M → (∀ M1, smI (arN b) M M1 → xm_gi M1 (b + 154) 12 = (rnf F P len f i R S d).2.1 → xm_gi M1 (b + 154) 13 = Int32.ofNat (rnf F P len f i R S d).2.2 → xm_st b c p M1 → Q (some (.int (rnf F P len f i R S d).1)) M1) → xm_X l E y11_run rm11_run Q 88 [(0, .ref (b + 154)), (1, .int (Int32.ofNat i)), (2, .int 0)] [] 0 0 M := by
  intro f
  induction f with
  | zero => intro i d M R S h1 h2; omega
  | succ f ih =>
    intro i d M R S hf hi hv h3 h2 hX hS h
    have hn := hF.1
    have ci : (Int32.ofNat i).toNatClampNeg = i := xn_c (by omega)
    have ii : vp_in (Int32.ofNat i) 48 := xn_in (by omega) (by decide)
    obtain ⟨⟨o, o1, o2⟩, ⟨fa, fa2⟩, ⟨fb, fb2⟩, ft⟩ := hF.2.2.2 i hi
    refine t11_run_88 M _ _ hS ⟨fun g => absurd rfl g, fun _ => ⟨ii, ?_⟩⟩
    rw [ci, h3, ← inc_ofNat]
    have s1 : smI (arN b) M (xm_pi M (b + 154) 13 (Int32.ofNat (d + 1))) := smI.rf.pi (by unfold arN; omega)
    have hv1 : fvM b (xm_pi M (b + 154) 13 (Int32.ofNat (d + 1))) F len P := hv.frame (fun a k h => s1.1 a k (by unfold arN; omega))
    have d1 : xm_gi (xm_pi M (b + 154) 13 (Int32.ofNat (d + 1))) (b + 154) 13 = Int32.ofNat (d + 1) := by rw [gi_pi, if_pos ⟨rfl, rfl⟩]
    have r1 : xm_gi (xm_pi M (b + 154) 13 (Int32.ofNat (d + 1))) (b + 154) 12 = 0 := by rw [gi_pi, if_neg (by omega)]; exact h2
    have hX1 : mcM b (xm_pi M (b + 154) 13 (Int32.ofNat (d + 1))) R S := ⟨fun j hj => by rw [gi_pi, if_neg (by omega)]; exact hX.1 j hj, fun j hj => by rw [gi_pi, if_neg (by omega)]; exact hX.2 j hj⟩
    generalize hM1 : xm_pi M (b + 154) 13 (Int32.ofNat (d + 1)) = M1 at s1 hv1 d1 r1 hX1 ⊢
    have hS1 : xm_st b c p M1 := by rw [← hM1]; exact hS.pi
    obtain ⟨q0, q1, q2, q3, q4⟩ := hv1.2.2 i (by omega)
    rw [(hv.2.2 i (by omega)).1]
    refine ⟨fun g => ⟨fun _ => ⟨ii, ?_⟩, fun q => absurd rfl q⟩, fun g => ?_⟩
    · have er : rnf F P len (f + 1) i R S d = (0, R (fA F i), d + 1) := by
        show (if F.1 i = 0 then _ else _) = _
        rw [if_pos g]
      rw [er] at h
      rw [q1, fa2, xn_c (by omega), hX1.1 _ fa]
      exact ⟨xn_in fa (by decide), fun hS => h _ ⟨fun a k hk => by rw [gi_pi, if_neg (by unfold arN at hk; omega), s1.1 a k hk], fun a k => by rw [gl_pi, s1.2]⟩ (by rw [gi_pi, if_pos ⟨rfl, rfl⟩]) (by rw [gi_pi, if_neg (by omega)]; exact d1) hS⟩
    · refine s11_one (a := fA F i) (q := fB F i) (R := R) (S := S) (len := len) (P := P) (by omega) ⟨o, o1, by rw [q0]; exact o2⟩ (by rw [q0]; exact g) fa fb (by rw [q1]; exact fa2) (by rw [q2]; exact fb2) hl hv1.1 hv1.2.1 hX1 hS1 ?_
      rw [q0, q3, q4]
      intro M2 s2 m2 x2 hS2
      have ew : mW (F.1 i) (F.2.2.2.1 i) (fA F i) (fB F i) R S P len = fW F P len i R S := rfl
      rw [ew] at m2 x2 ⊢
      have s12 : smI (arN b) M M2 := ⟨fun a k hk => by rw [s2.1 a k (by unfold arN at hk; omega), s1.1 a k hk], fun a k => by rw [s2.2, s1.2]⟩
      have hv2 : fvM b M2 F len P := hv.frame (fun a k h => s12.1 a k (by unfold arN; omega))
      refine ⟨_, rfl, hS2, fun hS2 => ?_⟩
      by_cases g2 : (fW F P len i R S).1 = 0
      · have er : rnf F P len (f + 1) i R S d = rnf F P len f (fN F i R) (mRg (fA F i) R (fW F P len i R S).2.1) (mSc S (fW F P len i R S).2.2) (d + 1) := by
          show (if F.1 i = 0 then _ else _) = _
          rw [if_neg g, if_pos g2]
        rw [er] at h
        obtain ⟨n1, n2⟩ := fN_ok (R := R) hF hi g
        rw [x2 g2, g2]
        have en : (if mJ (F.1 i) (F.2.2.2.1 i) (fA F i) (fB F i) R then F.2.2.2.2 i else Int32.ofNat (i + 1)) = Int32.ofNat (fN F i R) := by
          unfold fN
          cases hj : mJ (F.1 i) (F.2.2.2.1 i) (fA F i) (fB F i) R with
          | true => exact (ft (mJ_lt hj)).2.2
          | false => rfl
        rw [en]
        refine ih (fN F i R) (d + 1) M2 _ _ (by omega) n2 hv2 (by rw [s2.1 _ _ (by omega)]; exact d1) (by rw [s2.1 _ _ (by omega)]; exact r1) m2 hS2 (fun M3 s3 e1 e2 hS3 => ?_)
        exact h M3 ⟨fun a k hk => by rw [s3.1 a k hk, s12.1 a k hk], fun a k => by rw [s3.2, s12.2]⟩ e1 e2 hS3
      · have er : rnf F P len (f + 1) i R S d = ((fW F P len i R S).1, 0, d + 1) := by
          show (if F.1 i = 0 then _ else _) = _
          rw [if_neg g, if_neg g2]
        rw [er] at h
        exact t11_run_88 M2 _ _ hS2 ⟨fun _ => ⟨fun q => absurd q g2, fun _ => h M2 s12 (by rw [s2.1 _ _ (by omega)]; exact r1) (by rw [s2.1 _ _ (by omega)]; exact d1)⟩, fun q => absurd q g2⟩
theorem lp_run65 : ∀ (k i : Nat) (M : xm_M), i + k = 32 → (∀ j, j < i → xm_gi M (b + 177) j = 0) → xm_st b c p M → (∀ M1, smI (fun x _ => x = b + 177) M M1 → (∀ j, j < 32 → xm_gi M1 (b + 177) j = 0) → xm_st b c p M1 → xm_X l E y11_run rm11_run Q 88 [(0, .ref (b + 154)), (1, .int 0), (2, .int 0)] [] 0 0 M1) → xm_X l E y11_run rm11_run Q 65 [(0, .ref (b + 154)), (1, .int (Int32.ofNat i))] [] 0 0 M := by
  intro k
  induction k with
  | zero =>
    intro i M hi hz hS h
    have : i = 32 := by omega
    subst this
    exact t11_run_65 M _ hS ⟨fun _ hS => h M smI.rf hz hS, fun g => absurd (by decide) g⟩
  | succ k ih =>
    intro i M hi hz hS h
    refine t11_run_65 M _ hS ⟨fun g => absurd ((xn_le (a := 32) (b := i) (by omega) (by omega)).mp g) (by omega), fun _ => ⟨xn_in (by omega) (by decide), fun hS => ?_⟩⟩
    rw [xn_c (by omega)] at hS ⊢
    rw [xn_s]
    refine ih (i + 1) _ (by omega) (fun j hj => ?_) hS (fun M1 s1 z1 hS1 => h M1 ⟨fun a k hk => by rw [s1.1 a k hk, gi_pi, if_neg (fun q => hk q.1)], fun a k => by rw [s1.2]; rfl⟩ z1 hS1)
    by_cases e : j = i
    · rw [gi_pi, if_pos ⟨rfl, e⟩]
    · rw [gi_pi, if_neg (fun q => e q.2)]; exact hz j (by omega)
theorem lp_run32 {len : Nat} : ∀ (k i : Nat) (M : xm_M), i + k = 8 → xm_gi M (b + 154) 11 = Int32.ofNat len → (∀ j, j < i → xm_gi M (b + 176) j = if j = 1 then Int32.ofNat len else 0) → xm_st b c p M → (∀ M1, smI (fun x _ => x = b + 176) M M1 → (∀ j, j < 8 → xm_gi M1 (b + 176) j = if j = 1 then Int32.ofNat len else 0) → xm_st b c p M1 → xm_X l E y11_run rm11_run Q 65 [(0, .ref (b + 154)), (1, .int 0)] [] 0 0 M1) → xm_X l E y11_run rm11_run Q 32 [(0, .ref (b + 154)), (1, .int (Int32.ofNat i))] [] 0 0 M := by
  intro k
  induction k with
  | zero =>
    intro i M hi hc hz hS h
    have : i = 8 := by omega
    subst this
    exact t11_run_32 M _ hS ⟨fun _ hS => h M smI.rf hz hS, fun g => absurd (by decide) g⟩
  | succ k ih =>
    intro i M hi hc hz hS h
    have ii : vp_in (Int32.ofNat i) 8 := xn_in (by omega) (by decide)
    have go : ∀ v : Int32, v = (if i = 1 then Int32.ofNat len else 0) → xm_st b c p (xm_pi M (b + 176) i v) → xm_X l E y11_run rm11_run Q 32 [(0, .ref (b + 154)), (1, .int (Int32.ofNat (i + 1)))] [] 0 0 (xm_pi M (b + 176) i v) := fun v ev hS => by
      refine ih (i + 1) _ (by omega) (by rw [gi_pi, if_neg (by omega)]; exact hc) (fun j hj => ?_) hS (fun M1 s1 z1 hS1 => h M1 ⟨fun a k hk => by rw [s1.1 a k hk, gi_pi, if_neg (fun q => hk q.1)], fun a k => by rw [s1.2]; rfl⟩ z1 hS1)
      by_cases e : j = i
      · rw [gi_pi, if_pos ⟨rfl, e⟩, ev, e]
      · rw [gi_pi, if_neg (fun q => e q.2)]; exact hz j (by omega)
    have e1 : Int32.ofNat i = (1 : Int32) ↔ i = 1 := by
      constructor
      · intro q
        have := congrArg Int32.toInt q
        rw [toInt_of rfl (by omega), show (1 : Int32).toInt = 1 by decide] at this
        omega
      · intro q; rw [q]; rfl
    refine t11_run_32 M _ hS ⟨fun g => absurd ((xn_le (a := 8) (b := i) (by omega) (by omega)).mp g) (by omega), fun _ => ⟨fun g => ⟨ii, fun hS => ?_⟩, fun g => ⟨ii, fun hS => ?_⟩⟩⟩
    · rw [xn_c (by omega)] at hS ⊢
      rw [xn_s]
      exact go 0 (by rw [if_neg (fun q => g (e1.mpr q))]) hS
    · rw [xn_c (by omega), hc] at hS ⊢
      rw [xn_s]
      exact go _ (by rw [if_pos (e1.mp g)]) hS
end RM
theorem rgB_ok {v : Int32} (h : rgB v = true) : v.toNatClampNeg < 8 ∧ v = Int32.ofNat v.toNatClampNeg := by
  unfold rgB at h
  simp only [Bool.and_eq_true, Bool.not_eq_true', decide_eq_false_iff_not] at h
  rw [Int32.lt_iff_toInt_lt, Int32.le_iff_toInt_le, show (0 : Int32).toInt = 0 by decide, show (8 : Int32).toInt = 8 by decide] at h
  have hin : vp_in v 8 := vp_in_iff.mpr (by omega)
  obtain ⟨j, hj, e⟩ := vp_in_of hin (by decide)
  have e : v = Int32.ofNat j := e
  refine ⟨vp_lt hin, ?_⟩
  rw [e, xn_c (by omega)]
