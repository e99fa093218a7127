/-! the class finds bounds -/
theorem ecN_of (o : Int32) : ecN o = Int32.ofNat (ecC o) := by
  unfold ecN ecC
  by_cases g : o = 0
  · rw [if_pos g, if_pos g]; rfl
  · rw [if_neg g, if_neg g]
    by_cases g2 : o < 14
    · rw [if_pos g2, if_pos g2]; rfl
    · rw [if_neg g2, if_neg g2]; rfl
theorem ecC_le (o : Int32) : ecC o ≤ 2 := by
  unfold ecC
  by_cases g : o = 0
  · rw [if_pos g]; decide
  · rw [if_neg g]
    by_cases g2 : o < 14
    · rw [if_pos g2]; decide
    · rw [if_neg g2]; decide
theorem fOk_r {F : Flt} {n i : Nat} (h : fOk F n) (hi : i < n) : okR (F.2.1 i) ∧ okR (F.2.2.1 i) := ⟨⟨_, (h.2.2.2 i hi).2.1⟩, ⟨_, (h.2.2.2 i hi).2.2.1⟩⟩
theorem flX.y {b : Nat} {M N : xm_M} {F : Flt} (h : flX b M F) (s : smY b M N) : flX b N F := fun i hi => by
  rw [s.1 _ _ (by omega), s.1 _ _ (by omega), s.1 _ _ (by omega), s.1 _ _ (by omega), s.1 _ _ (by omega)]; exact h i hi
theorem ixW (i e : Nat) : (2 : Int32) * Int32.ofNat i + Int32.ofNat e = Int32.ofNat (2 * i + e) := by rw [Int32.ofNat_add, Int32.ofNat_mul]; rfl
theorem lsX.la {b : Nat} {M : xm_M} {L : List NsT} (h : lsX b M L) : laX b M (mnL L) := h.2.2
/-- of an instruction's edges, those before e -/
def imQ (b : Nat) (M : xm_M) (F : Flt) (s : BdT) (i e : Nat) : Prop := imX b M F s i ∧ imP b M F s i e
theorem imQ_fr {b i e : Nat} {M N : xm_M} {F : Flt} {s t : BdT} (h : imQ b M F s i e) (hg : ∀ k, k < 2 * i + e → xm_gi N (b + 106) k = xm_gi M (b + 106) k) (hk : ∀ x, x ≤ i → t.1 x = s.1 x ∧ t.2 x = s.2 x) : imQ b N F t i e := by
  refine ⟨fun x hx hl y hy => ?_, fun y hy => ?_⟩
  · have := ecC_le (F.1 x)
    rw [hg _ (by omega), imV_cg (hk x (by omega)).2]
    exact h.1 x hx (by rw [← (hk x (by omega)).1]; exact hl) y hy
  · rw [hg _ (by omega), imV_cg (hk i (Nat.le_refl i)).2]
    exact h.2 y hy
section BX2
variable {l : Launch} {E : xm_E} {b : Nat} {c p : Bool} {Q : Option Value → xm_M → Prop}
theorem lp_fb78 {F : Flt} {n i : Nat} (hF : fOk F n) (hi : i < n) : ∀ (k e : Nat) (s : BdT) (M : xm_M), e + k = ecC (F.1 i) → s.1 i = true → bdX b M n s → bdOk s → RlD b M → flX b M F → imQ b M F s i e → xm_st b c true M →
    (∀ M1, smY b M M1 → bdX b M1 n (exS F i k e s) → RlD b M1 → imX b M1 F (exS F i k e s) (i + 1) → xm_st b c true M1 → xm_X l E y5_findBounds rm5_findBounds Q 55 [(0, .ref (b + 55)), (1, .int (Int32.ofNat (i + 1)))] [] 0 0 M1) →
    xm_X l E y5_findBounds rm5_findBounds Q 78 [(0, .ref (b + 55)), (1, .int (Int32.ofNat i)), (2, .ref (b + 3 + i)), (3, .int (Int32.ofNat e))] [] 0 0 M := by
  have hn48 : n ≤ 48 := hF.1
  have hi48 : i < 48 := by omega
  have ii : vp_in (Int32.ofNat i) 48 := xn_in hi48 (by decide)
  have hec := ecC_le (F.1 i)
  intro k
  induction k with
  | zero =>
    intro e s M he hl hX hO hD hL hI hS h
    refine t5_findBounds_78 (p := true) M _ _ _ (shf_2 hi48) hS ⟨ii, ?_⟩
    rw [xn_c (by omega), (hX i hi).1, hl]
    refine ⟨fun z => absurd z (by decide), fun _ => s2_edgeCount (shf_2 hi48) hS (fun hS => ⟨_, rfl, hS, fun _ hS => ?_, fun g => ?_⟩)⟩
    · rw [xn_s]
      refine h M smY.rf hX hD (fun x hx hxl => ?_) hS
      by_cases ex : x = i
      · rw [ex]
        have := hI.2
        rw [show e = ecC (F.1 i) by omega] at this
        exact this
      · exact hI.1 x (by omega) hxl
    · rw [(hL i hi48).1, ecN_of] at g
      exact absurd ((xn_le (by omega) (by omega)).mpr (by omega)) g
  | succ k ih =>
    intro e s M he hl hX hO hD hL hI hS h
    have he' : e < ecC (F.1 i) := by omega
    refine t5_findBounds_78 (p := true) M _ _ _ (shf_2 hi48) hS ⟨ii, ?_⟩
    rw [xn_c (show i < 2 ^ 31 by omega), (hX i hi).1, hl]
    refine ⟨fun z => absurd z (by decide), fun _ => s2_edgeCount (shf_2 hi48) hS (fun hS => ⟨_, rfl, hS, fun g => ?_, fun _ => ⟨ii, ?_⟩⟩)⟩
    · rw [(hL i hi48).1, ecN_of] at g
      have g := (xn_le (by omega) (by omega)).mp g
      omega
    obtain ⟨r1, r2⟩ := fOk_r hF hi
    obtain ⟨f0, f1, f2, f3, f4⟩ := hL i hi48
    have hOi := hO i hl
    refine s6_takeEdge (shf_2 hi48) (by omega) (sh_bo hi48) (by omega) hOi ((hX i hi).2 hl) (by rw [f1]; exact r1) (by rw [f2]; exact r2) hS ?_
    rw [f0, f1, f2, f3]
    intro M1 s1 l1 hS
    have l1 : lsX b M1 (edL F (s.2 i) i (jB (F.1 i) (Int32.ofNat e))) := l1
    refine ⟨rfl, hS, s6_closeRows l1.la hS ?_⟩
    intro M2 s2 a2 hS
    have a2 : laX b M2 (edA F (s.2 i) i (jB (F.1 i) (Int32.ofNat e))).2 := a2
    show ∃ r8 : Bool, some (Value.int (xz (edA F (s.2 i) i (jB (F.1 i) (Int32.ofNat e))).1)) = some (.int (xz r8)) ∧ _
    have ix : vp_in (Int32.ofNat (2 * i + e)) 96 := xn_in (by omega) (by decide)
    have s12 : smX b M M2 := s1.tr s2
    have hX2 := hX.x hn48 s12
    have hD2 : RlD b M2 := fun i u hi hu => by rw [s12.2 _ _ (by omega)]; exact hD i u hi hu
    have exE : exS F i (k + 1) e s = exS F i k (e + 1) (edS F s i (jB (F.1 i) (Int32.ofNat e))) := rfl
    rw [exE] at h
    have hkp := ed_keep (s := s) hF hi he'
    -- the mark
    have mk : ∀ v : Bool, imV F s i e = v → ∀ M3, M3 = xm_pi M2 (b + 106) (2 * i + e) (xz v) → smY b M M3 ∧ bdX b M3 n s ∧ RlD b M3 ∧ flX b M3 F ∧ laX b M3 (edA F (s.2 i) i (jB (F.1 i) (Int32.ofNat e))).2 ∧ imQ b M3 F s i (e + 1) := fun v hv M3 e3 => by
      have sy : smY b M M3 := s12.y.tr (by rw [e3]; exact ⟨fun x k q => by rw [gi_pi, if_neg (by omega)], fun _ _ _ => rfl⟩)
      refine ⟨sy, fun j hj => ⟨by rw [e3, gi_pi, if_neg (by omega)]; exact (hX2 j hj).1, fun q k hk => by rw [e3, gl_pi]; exact (hX2 j hj).2 q k hk⟩, fun i u hi hu => by rw [e3, gl_pi]; exact hD2 i u hi hu, hL.y sy, fun u v hu hv => by rw [e3, gl_pi]; exact a2 u v hu hv, ?_⟩
      have q0 := imQ_fr (N := M3) (t := s) hI (fun k hk => by rw [e3, gi_pi, if_neg (by omega), s12.1 _ _ (by omega)]) (fun _ _ => ⟨rfl, rfl⟩)
      refine ⟨q0.1, fun y hy => ?_⟩
      by_cases ey : y = e
      · rw [ey, e3, gi_pi, if_pos ⟨rfl, rfl⟩, hv]
      · exact q0.2 y (by omega)
    refine ⟨_, rfl, hS, fun g => ⟨?_, ?_⟩, fun g => ⟨?_, ?_⟩⟩
    · rw [ixW]; exact ix
    · have gt := xz_ne g
      refine ⟨fun z => absurd z g, fun _ => ?_⟩
      rw [ixW, xn_c (by omega), xn_s]
      have hm := mk false (by unfold imV; rw [gt]; rfl) (xm_pi M2 (b + 106) (2 * i + e) 0) rfl
      have hS : xm_st b c true (xm_pi M2 (b + 106) (2 * i + e) 0) := hS
      generalize xm_pi M2 (b + 106) (2 * i + e) 0 = M3 at hm hS ⊢
      obtain ⟨sy, x3, d3, l3, a3, q3⟩ := hm
      obtain ⟨en1, en2, en3⟩ := en_gt hF hi he'
      refine s2_edgeEnd (shf_2 hi48) hS (fun hS => ⟨_, rfl, hS, ?_⟩)
      rw [(l3 i hi48).1, (l3 i hi48).2.2.2.2, en3]
      have eS : edS F s i (jB (F.1 i) (Int32.ofNat e)) = joS s (enN F i (jB (F.1 i) (Int32.ofNat e))) (edA F (s.2 i) i (jB (F.1 i) (Int32.ofNat e))).2 := if_pos gt
      refine s5_joinBounds hn48 en2 hO a3 x3 d3 hS (fun M4 s4 x4 d4 hS => ⟨rfl, hS, fun hS => ?_⟩)
      rw [← eS] at x4
      exact ih (e + 1) _ M4 (by omega) ((hkp i (Nat.le_refl i)).1.trans hl) x4 (ed_ok hO) d4 (l3.y s4.y) (imQ_fr q3 (fun k hk => s4.1 _ _ (by omega)) hkp) hS (fun M5 s5 x5 d5 i5 hS => h M5 (sy.tr (s4.y.tr s5)) x5 d5 i5 hS)
    · rw [ixW]; exact ix
    · have gf := xz_0.mp g
      refine ⟨fun _ => ?_, fun z => absurd g z⟩
      rw [ixW, xn_c (by omega), xn_s]
      have hm := mk true (by unfold imV; rw [gf]; rfl) (xm_pi M2 (b + 106) (2 * i + e) 1) rfl
      intro hS
      generalize xm_pi M2 (b + 106) (2 * i + e) 1 = M3 at hm hS ⊢
      obtain ⟨sy, x3, d3, l3, a3, q3⟩ := hm
      have eS : edS F s i (jB (F.1 i) (Int32.ofNat e)) = s := if_neg (fun z => by rw [gf] at z; cases z)
      rw [eS] at h
      exact ih (e + 1) s M3 (by omega) hl x3 hO d3 l3 q3 hS (fun M5 s5 x5 d5 i5 hS => h M5 (sy.tr s5) x5 d5 i5 hS)
theorem lp_fb55 {F : Flt} {n : Nat} (hF : fOk F n) : ∀ (k i : Nat) (s : BdT) (M : xm_M), i + k = n → bdX b M n s → bdOk s → RlD b M → flX b M F → xm_gi M (b + 1) 2 = Int32.ofNat n → imX b M F s i → xm_st b c true M →
    (∀ M1, smY b M M1 → bdX b M1 n (bdS F k i s) → RlD b M1 → imX b M1 F (bdS F k i s) n → xm_st b c true M1 → Q none M1) →
    xm_X l E y5_findBounds rm5_findBounds Q 55 [(0, .ref (b + 55)), (1, .int (Int32.ofNat i))] [] 0 0 M := by
  have hn48 : n ≤ 48 := hF.1
  intro k
  induction k with
  | zero =>
    intro i s M hi hX hO hD hL hc hI hS h
    refine t5_findBounds_55 (p := true) M _ hS ?_
    rw [hc]
    refine ⟨fun _ hS => h M smY.rf hX hD (by rw [show n = i by omega]; exact hI) hS, fun g => absurd ((xn_le (by omega) (by omega)).mpr (by omega)) g⟩
  | succ k ih =>
    intro i s M hi hX hO hD hL hc hI hS h
    have hin : i < n := by omega
    refine t5_findBounds_55 (p := true) M _ hS ?_
    rw [hc]
    refine ⟨fun g => ?_, fun _ => ⟨xn_in (by omega) (by decide), fun hS => ?_⟩⟩
    · have g := (xn_le (by omega) (by omega)).mp g
      omega
    rw [xn_c (show i < 2 ^ 31 by omega)]
    have eb : bdS F (k + 1) i s = bdS F k (i + 1) (inB F i s) := rfl
    rw [eb] at h
    show xm_X l E y5_findBounds rm5_findBounds Q 78 [(0, .ref (b + 55)), (1, .int (Int32.ofNat i)), (2, .ref (b + 3 + i)), (3, .int (Int32.ofNat 0))] [] 0 0 M
    cases hl : s.1 i with
    | true =>
      have ein : inB F i s = exS F i (ecC (F.1 i)) 0 s := if_pos hl
      rw [ein] at h
      refine lp_fb78 hF hin (ecC (F.1 i)) 0 s M (by omega) hl hX hO hD hL ⟨hI, fun y hy => absurd hy (Nat.not_lt_zero y)⟩ hS (fun M1 s1 x1 d1 i1 hS => ?_)
      exact ih (i + 1) _ M1 (by omega) x1 (ex_ok _ _ _ hO) d1 (hL.y s1) (by rw [s1.1 _ _ (by omega)]; exact hc) i1 hS (fun M2 s2 x2 d2 i2 hS => h M2 (s1.tr s2) x2 d2 i2 hS)
    | false =>
      have ein : inB F i s = s := if_neg (fun z => by rw [hl] at z; cases z)
      rw [ein] at h
      refine t5_findBounds_78 (p := true) M _ _ _ (shf_2 (by omega)) hS ⟨xn_in (by omega) (by decide), ?_⟩
      rw [xn_c (show i < 2 ^ 31 by omega), (hX i hin).1, hl]
      refine ⟨fun _ hS => ?_, fun z => absurd rfl z⟩
      rw [xn_s]
      exact ih (i + 1) s M (by omega) hX hO hD hL hc (fun x hx hxl => by
        by_cases ex : x = i
        · rw [ex, hl] at hxl; cases hxl
        · exact hI x (by omega) hxl) hS h
theorem lp_fb2 {F : Flt} {n : Nat} {least : Int32} (hF : fOk F n) : ∀ (k i : Nat) (M : xm_M), i + k = n → (∀ x, x < i → xm_gi M (b + 105) x = 0) → RlD b M → flX b M F → xm_gi M (b + 1) 2 = Int32.ofNat n → xm_gi M (b + 1) 0 = least → xm_st b c true M →
    (∀ M1, smY b M M1 → bdX b M1 n (bdE F least n) → RlD b M1 → imX b M1 F (bdE F least n) n → xm_st b c true M1 → Q none M1) →
    xm_X l E y5_findBounds rm5_findBounds Q 2 [(0, .ref (b + 55)), (1, .int (Int32.ofNat i))] [] 0 0 M := by
  have hn48 : n ≤ 48 := hF.1
  intro k
  induction k with
  | zero =>
    intro i M hi hz hD hL hc h0 hS h
    refine t5_findBounds_2 (p := true) M _ hS ?_
    rw [hc]
    refine ⟨fun _ => s6_takeBeginning hS (fun M1 s1 l1 hS => ⟨rfl, hS, s6_closeRows l1.la hS (fun M2 s2 a2 hS => ⟨_, rfl, hS, ?_⟩)⟩), fun g => absurd ((xn_le (by omega) (by omega)).mpr (by omega)) g⟩
    rw [h0] at a2
    have s12 : smX b M M2 := s1.tr s2
    show xm_C l E y5_joinBounds rm5_joinBounds [.ref (b + 55), .int (Int32.ofNat 0)] M2 _
    refine s5_joinBounds (s := (fun _ => false, fun _ _ => none)) hn48 hF.2.1 (fun i h => by cases h) a2 (fun x hx => ⟨by rw [s12.1 _ _ (by omega)]; exact hz x (by omega), fun z => by cases z⟩) (fun i u hi hu => by rw [s12.2 _ _ (by omega)]; exact hD i u hi hu) hS (fun M3 s3 x3 d3 hS => ⟨rfl, hS, fun hS => ?_⟩)
    have sy : smY b M M3 := s12.y.tr s3.y
    exact lp_fb55 hF n 0 (bdZ least) M3 (by omega) x3 bdZ_ok d3 (hL.y sy) (by rw [sy.1 _ _ (by omega)]; exact hc) (fun x hx => absurd hx (Nat.not_lt_zero x)) hS (fun M4 s4 x4 d4 i4 hS => h M4 (sy.tr s4) x4 d4 i4 hS)
  | succ k ih =>
    intro i M hi hz hD hL hc h0 hS h
    refine t5_findBounds_2 (p := true) M _ hS ?_
    rw [hc]
    refine ⟨fun g => ?_, fun _ => ⟨xn_in (by omega) (by decide), ?_⟩⟩
    · have g := (xn_le (by omega) (by omega)).mp g
      omega
    rw [xn_c (by omega), xn_s]
    intro hS
    have s0 : smY b M (xm_pi M (b + 105) i 0) := ⟨fun x k q => by rw [gi_pi, if_neg (by omega)], fun _ _ _ => rfl⟩
    refine ih (i + 1) _ (by omega) (fun x hx => ?_) (fun i u hi hu => hD i u hi hu) (hL.y s0) (by rw [s0.1 _ _ (by omega)]; exact hc) (by rw [s0.1 _ _ (by omega)]; exact h0) hS (fun M1 s1 x1 d1 i1 hS => h M1 (s0.tr s1) x1 d1 i1 hS)
    rw [gi_pi]
    by_cases e : x = i
    · rw [if_pos ⟨rfl, e⟩]
    · rw [if_neg (fun z => e z.2)]; exact hz x (by omega)
theorem s5_findBounds {F : Flt} {n : Nat} {least : Int32} {M : xm_M} (hF : fOk F n) (hD : RlD b M) (hL : flX b M F) (hc : xm_gi M (b + 1) 2 = Int32.ofNat n) (h0 : xm_gi M (b + 1) 0 = least) (hS : xm_st b c true M) (h : ∀ M1, smY b M M1 → bdX b M1 n (bdE F least n) → RlD b M1 → imX b M1 F (bdE F least n) n → xm_st b c true M1 → Q none M1) : xm_C l E y5_findBounds rm5_findBounds [.ref (b + 55)] M Q :=
  xm_enter (by decide) (Nat.le_of_ble_eq_true rfl) (t5_findBounds_0 (p := true) M hS (fun hS => lp_fb2 hF n 0 M (by omega) (fun x hx => absurd hx (Nat.not_lt_zero x)) hD hL hc h0 hS h))
end BX2
