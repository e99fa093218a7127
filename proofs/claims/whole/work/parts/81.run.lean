/-! a run, as both do it: answer, result, steps -/
abbrev Flt : Type := (Nat → Int32) × (Nat → Int32) × (Nat → Int32) × (Nat → Int32) × (Nat → Int32)
def fA (F : Flt) (i : Nat) : Nat := (F.2.1 i).toNatClampNeg
def fB (F : Flt) (i : Nat) : Nat := (F.2.2.1 i).toNatClampNeg
def fW (F : Flt) (P : Nat → Int32) (len i : Nat) (R S : Nat → Int32) : Int32 × Option Int32 × Option (Nat × Int32) := mW (F.1 i) (F.2.2.2.1 i) (fA F i) (fB F i) R S P len
def fN (F : Flt) (i : Nat) (R : Nat → Int32) : Nat := if mJ (F.1 i) (F.2.2.2.1 i) (fA F i) (fB F i) R then (F.2.2.2.2 i).toNatClampNeg else i + 1
def rnf (F : Flt) (P : Nat → Int32) (len : Nat) : Nat → Nat → (Nat → Int32) → (Nat → Int32) → Nat → Int32 × Int32 × Nat
  | 0, _, _, _, d => (0, 0, d)
  | f + 1, i, R, S, d =>
    if F.1 i = 0 then (0, R (fA F i), d + 1)
    else if (fW F P len i R S).1 = 0 then rnf F P len f (fN F i R) (mRg (fA F i) R (fW F P len i R S).2.1) (mSc S (fW F P len i R S).2.2) (d + 1)
    else ((fW F P len i R S).1, 0, d + 1)
/-- well made, of n instructions -/
def fOk (F : Flt) (n : Nat) : Prop := n ≤ 48 ∧ 0 < n ∧ F.1 (n - 1) = 0 ∧ ∀ i, i < n → (∃ o : Nat, o ≤ 16 ∧ F.1 i = Int32.ofNat o) ∧ (fA F i < 8 ∧ F.2.1 i = Int32.ofNat (fA F i)) ∧ (fB F i < 8 ∧ F.2.2.1 i = Int32.ofNat (fB F i)) ∧ (¬ F.1 i < 13 → i < (F.2.2.2.2 i).toNatClampNeg ∧ (F.2.2.2.2 i).toNatClampNeg < n ∧ F.2.2.2.2 i = Int32.ofNat (F.2.2.2.2 i).toNatClampNeg)
theorem mJ_lt {o k : Int32} {a q : Nat} {R : Nat → Int32} (h : mJ o k a q R = true) : ¬ o < 13 := by
  intro g
  rw [Int32.lt_iff_toInt_lt, show (13 : Int32).toInt = 13 by decide] at g
  have ne : ∀ v : Int32, 13 ≤ v.toInt → decide (o = v) = false := fun v hv => decide_eq_false (fun e => by rw [e] at g; omega)
  unfold mJ at h
  rw [ne 13 (by decide), ne 14 (by decide), ne 15 (by decide), ne 16 (by decide)] at h
  simp at h
theorem mJ_keep {o k : Int32} {a q : Nat} {R S P : Nat → Int32} {len : Nat} : mJ o k a q (mRg a R (mW o k a q R S P len).2.1) = mJ o k a q R := by
  by_cases h : o < 13
  · have f : ∀ R', mJ o k a q R' = false := fun R' => by
      cases hq : mJ o k a q R' with
      | false => rfl
      | true => exact absurd h (mJ_lt hq)
    rw [f, f]
  · have g : ¬ o.toInt < 13 := fun q => h (by rw [Int32.lt_iff_toInt_lt, show (13 : Int32).toInt = 13 by decide]; exact q)
    have ne : ∀ v : Int32, v.toInt < 13 → ¬ o = v := fun v hv e => by rw [e] at g; omega
    have : mW o k a q R S P len = (0, none, none) := by
      unfold mW
      rw [if_neg (ne 1 (by decide)), if_neg (ne 2 (by decide)), if_neg (ne 3 (by decide)), if_neg (ne 4 (by decide)), if_neg (ne 5 (by decide)), if_neg (ne 6 (by decide)), if_neg (ne 7 (by decide)), if_neg (by rintro (e | e | e) <;> exact ne _ (by decide) e), if_neg (ne 11 (by decide)), if_neg (ne 12 (by decide))]
    rw [this]
    rfl
theorem fN_ok {F : Flt} {n i : Nat} {R : Nat → Int32} (h : fOk F n) (hi : i < n) (h0 : ¬ F.1 i = 0) : i < fN F i R ∧ fN F i R < n := by
  unfold fN
  cases hj : mJ (F.1 i) (F.2.2.2.1 i) (fA F i) (fB F i) R with
  | true =>
    obtain ⟨a1, a2, -⟩ := (h.2.2.2 i hi).2.2.2 (mJ_lt hj)
    exact ⟨a1, a2⟩
  | false =>
    refine ⟨Nat.lt_succ_self _, ?_⟩
    have : i ≠ n - 1 := fun e => h0 (by rw [e]; exact h.2.2.1)
    show i + 1 < n
    omega
def fvX (b : Nat) (M : xm_M) (F : Flt) (n len : Nat) (P : Nat → Int32) : Prop := xm_gi M (b + 1) 2 = Int32.ofNat n ∧ xm_gi M (b + 53) 1 = Int32.ofNat len ∧ (∀ j, xm_gi M (b + 54) j = P j) ∧ ∀ i, i < 48 → xm_gi M (b + 3 + i) 0 = F.1 i ∧ xm_gi M (b + 3 + i) 1 = F.2.1 i ∧ xm_gi M (b + 3 + i) 2 = F.2.2.1 i ∧ xm_gi M (b + 3 + i) 3 = F.2.2.2.1 i ∧ xm_gi M (b + 3 + i) 4 = F.2.2.2.2 i
theorem fvX.frame {b : Nat} {M N : xm_M} {F : Flt} {n len : Nat} {P : Nat → Int32} (h : fvX b M F n len P) (e : ∀ a k, (a = b + 1 ∨ a = b + 53 ∨ a = b + 54 ∨ (b + 3 ≤ a ∧ a < b + 51)) → xm_gi N a k = xm_gi M a k) : fvX b N F n len P := by
  obtain ⟨h1, h2, h3, h4⟩ := h
  refine ⟨by rw [e _ _ (by omega)]; exact h1, by rw [e _ _ (by omega)]; exact h2, fun j => by rw [e _ _ (by omega)]; exact h3 j, fun i hi => ?_⟩
  obtain ⟨a1, a2, a3, a4, a5⟩ := h4 i hi
  refine ⟨?_, ?_, ?_, ?_, ?_⟩ <;> rw [e _ _ (by omega)] <;> assumption
section RN
variable {l : Launch} {E : xm_E} {b : Nat} {c p : Bool} {Q : Option Value → xm_M → Prop} {F : Flt} {n len : Nat} {P : Nat → Int32}
theorem lp_execute (hF : fOk F n) (hl : len ≤ 1024) : ∀ (f i d : Nat) (M : xm_M) (R S : Nat → Int32), n ≤ i + f → i < n → d ≤ i → fvX b M F n len P → xm_gi M (b + 151) 3 = Int32.ofNat d → xm_gi M (b + 151) 2 = 0 → mcX b M R S → xm_st b c p M → (∀ M1, smI (fun x j => (x = b + 151 ∧ (j = 2 ∨ j = 3)) ∨ x = b + 152 ∨ x = b + 153) M M1 → xm_gi M1 (b + 151) 2 = (rnf F P len f i R S d).2.1 → xm_gi M1 (b + 151) 3 = Int32.ofNat (rnf F P len f i R S d).2.2 → xm_st b c p M1 → Q (some (.int (rnf F P len f i R S d).1)) M1) → xm_X l E y10_execute rm10_execute Q 38 [(0, .ref (b + 151)), (1, .ref (b + 1)), (2, .ref (b + 53)), (3, .int (Int32.ofNat i))] [] 0 0 M := by
  intro f
  induction f with
  | zero => intro i d M R S h1 h2; omega
  | succ f ih =>
    intro i d M R S hf hi hd hv h3 h2 hX hS h
    have hn := hF.1
    have ci : (Int32.ofNat i).toNatClampNeg = i := xn_c (by omega)
    have vc := hv.1
    obtain ⟨⟨o, o1, o2⟩, ⟨fa, fa2⟩, ⟨fb, fb2⟩, ft⟩ := hF.2.2.2 i hi
    refine t10_execute_38 M _ hS ?_
    rw [vc, h3, ci]
    have ed : Int32.ofNat d + 1 = Int32.ofNat (d + 1) := (inc_ofNat d).symm
    rw [ed]
    have s1 : smI (fun x j => (x = b + 151 ∧ (j = 2 ∨ j = 3)) ∨ x = b + 152 ∨ x = b + 153) M (xm_pi M (b + 151) 3 (Int32.ofNat (d + 1))) := smI.rf.pi (Or.inl ⟨rfl, Or.inr rfl⟩)
    have hv1 : fvX b (xm_pi M (b + 151) 3 (Int32.ofNat (d + 1))) F n len P := hv.frame (fun a k h => s1.1 a k (by omega))
    have d1 : xm_gi (xm_pi M (b + 151) 3 (Int32.ofNat (d + 1))) (b + 151) 3 = Int32.ofNat (d + 1) := by rw [gi_pi, if_pos ⟨rfl, rfl⟩]
    have r1 : xm_gi (xm_pi M (b + 151) 3 (Int32.ofNat (d + 1))) (b + 151) 2 = 0 := by rw [gi_pi, if_neg (by omega)]; exact h2
    have hX1 : mcX b (xm_pi M (b + 151) 3 (Int32.ofNat (d + 1))) R S := ⟨fun j hj => by rw [gi_pi, if_neg (by omega)]; exact hX.1 j hj, fun j hj => by rw [gi_pi, if_neg (by omega)]; exact hX.2 j hj⟩
    generalize hM1 : xm_pi M (b + 151) 3 (Int32.ofNat (d + 1)) = M1 at s1 hv1 d1 r1 hX1 ⊢
    have hS1 : xm_st b c p M1 := by rw [← hM1]; exact hS.pi
    obtain ⟨q0, q1, q2, q3, q4⟩ := hv1.2.2.2 i (by omega)
    refine ⟨fun g => absurd ((xn_le (a := n) (b := d) (by omega) (by omega)).mp g) (by omega), fun _ => ⟨fun g => absurd ((xn_le (a := n) (b := i) (by omega) (by omega)).mp g) (by omega), fun _ => ⟨xn_in (by omega) (by decide), fun g => ?_, fun g => ?_⟩⟩⟩
    · rw [q0] at g
      have sh := shf_2 (b := b) (j := i) (by omega)
      refine s10_perform (a := fA F i) (q := fB F i) (R := R) (S := S) (len := len) sh fa fb (by rw [q1]; exact fa2) (by rw [q2]; exact fb2) hl hv1.2.1 hX1 hS1 (fun M2 s2 m2 hS2 => ?_)
      have ew : mW (xm_gi M1 (b + 3 + i) 0) (xm_gi M1 (b + 3 + i) 3) (fA F i) (fB F i) R S (xm_gi M1 (b + 54)) len = fW F P len i R S := by
        unfold fW; rw [q0, q3, show xm_gi M1 (b + 54) = P from funext hv1.2.2.1]
      rw [ew] at m2 ⊢
      have s12 : smI (fun x j => (x = b + 151 ∧ (j = 2 ∨ j = 3)) ∨ x = b + 152 ∨ x = b + 153) M M2 := ⟨fun a k hk => by rw [s2.1 a k (by omega), s1.1 a k hk], fun a k => by rw [s2.2, s1.2]⟩
      have hv2 : fvX b M2 F n len P := hv.frame (fun a k h => s12.1 a k (by omega))
      obtain ⟨p0, p1, p2, p3, p4⟩ := hv2.2.2.2 i (by omega)
      refine ⟨_, rfl, hS2, fun g2 => ?_, fun g2 hS2 => ?_⟩
      · have er : rnf F P len (f + 1) i R S d = rnf F P len f (fN F i R) (mRg (fA F i) R (fW F P len i R S).2.1) (mSc S (fW F P len i R S).2.2) (d + 1) := by
          show (if F.1 i = 0 then _ else _) = _
          rw [if_neg g, if_pos g2]
        rw [er] at h
        obtain ⟨n1, n2⟩ := fN_ok (R := R) hF hi g
        have go : xm_X l E y10_execute rm10_execute Q 38 [(0, .ref (b + 151)), (1, .ref (b + 1)), (2, .ref (b + 53)), (3, .int (Int32.ofNat (fN F i R)))] [] 0 0 M2 := by
          refine ih (fN F i R) (d + 1) M2 _ _ (by omega) n2 (by omega) hv2 (by rw [s2.1 _ _ (by omega)]; exact d1) (by rw [s2.1 _ _ (by omega)]; exact r1) m2 hS2 (fun M3 s3 e1 e2 hS3 => ?_)
          exact h M3 ⟨fun a k hk => by rw [s3.1 a k hk, s12.1 a k hk], fun a k => by rw [s3.2, s12.2]⟩ e1 e2 hS3
        refine s10_jumps (a := fA F i) (q := fB F i) sh fa fb (by rw [p1]; exact fa2) (by rw [p2]; exact fb2) m2 hS2 (fun hS2 => ⟨_, rfl, hS2, fun g3 hS2 => ?_, fun g3 hS2 => ?_⟩)
        · have g3 := xz_0.mp g3
          rw [p0, p3] at g3
          unfold fW at g3
          rw [mJ_keep] at g3
          unfold fN at go
          rw [g3] at go
          rw [← inc_ofNat]
          exact go
        · have g3 := xz_ne g3
          rw [p0, p3] at g3
          unfold fW at g3
          rw [mJ_keep] at g3
          unfold fN at go
          rw [g3] at go
          rw [p4, (ft (mJ_lt g3)).2.2]
          exact go
      · have er : rnf F P len (f + 1) i R S d = ((fW F P len i R S).1, 0, d + 1) := by
          show (if F.1 i = 0 then _ else _) = _
          rw [if_neg g, if_neg g2]
        rw [er] at h
        exact h M2 s12 (by rw [s2.1 _ _ (by omega)]; exact r1) (by rw [s2.1 _ _ (by omega)]; exact d1) hS2
    · rw [q0] at g
      have er : rnf F P len (f + 1) i R S d = (0, R (fA F i), d + 1) := by
        show (if F.1 i = 0 then _ else _) = _
        rw [if_pos g]
      rw [er] at h
      rw [q1, fa2, xn_c (by omega), hX1.1 _ fa]
      refine ⟨xn_in fa (by decide), fun hS => h _ ⟨fun a k hk => by rw [gi_pi, if_neg (by omega), s1.1 a k hk], fun a k => by rw [gl_pi, s1.2]⟩ (by rw [gi_pi, if_pos ⟨rfl, rfl⟩]) (by rw [gi_pi, if_neg (by omega)]; exact d1) hS⟩
end RN
