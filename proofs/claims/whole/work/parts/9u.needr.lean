/-! the reference needs an instruction -/
def bvM (b : Nat) (M : xm_M) (e : Nat) (f : Nat → Bool) (B : Nat → Option Int64) : Prop := ∀ j, j < 100 → f j = true → ∃ w, B j = some w ∧ isB w = true ∧ xm_gl M (b + 166) (100 * e + j) = w
theorem bvM_of {b n x : Nat} {M : xm_M} {F : Flt} {least : Int32} {s : BdT} {nd : NdT} {i : Nat} (hC : cnM b M F n least s) (hO : bdOk s) (hp : ndP s nd n i) (hi : i < x) (hx : x < n) : bvM b M x (nd x) (s.2 x) := fun j hj hf => by
  obtain ⟨h1, h2, h3⟩ := hp x hi hx j hf
  obtain ⟨w, hw⟩ := some_is h3
  exact ⟨w, hw, (hO x h2).1 j w hj hw, by rw [(hC.2.1 x hx).2 h2 j hj, hw]; rfl⟩
theorem mkI_cons {o : Int32} {C : List NsT} {R : List ItT} {f : Nat → Bool} : mkI o (.inr C :: R) f = mkI o R (mkR o C f) := rfl
theorem acR_ok {F : Flt} {B : Nat → Option Int64} {i : Nat} {t : Bool} {C : List NsT} (h : acR F B i t = some C) : (∀ t, t ∈ C → t ∈ acL B) ∧ C.length ≤ 12 := by
  unfold acR at h
  by_cases g : t = true
  · rw [if_pos g] at h; exact fnR_ok h
  · rw [if_neg g] at h; exact fnR_ok h
section NR
variable {l : Launch} {E : xm_E} {b : Nat} {c p : Bool} {Q : Option Value → xm_M → Prop} {F : Flt} {n : Nat} {least : Int32} {s : BdT} {nd : NdT}
theorem lp_nd97 {i e : Nat} {o v2 : Int32} {B0 : Nat → Option Int64} {L : List NsT} (hi : i < 48) (he : e < 48) (hei : ¬ e = i) (gd : goodL L) (hK : ∀ t, t ∈ L → okN o B0 t) {f : Nat → Bool} {B : Nat → Option Int64} : ∀ (k j : Nat) (g : Nat → Bool) (M : xm_M), j + k = 100 → lsM b M L → nrM b M e f → bvM b M e f B → nrM b M i g → xm_gi M (b + 155) i = o → xm_st b c p M →
    (rsI L f B k j = none → ∀ M1, smNE b i M M1 → xm_st b c p M1 → Q (some (.int 0)) M1) →
    (∀ A, rsI L f B k j = some A → ∀ M1, smNE b i M M1 → nrM b M1 i (mkI o A g) → xm_st b c p M1 → xm_X l E y11_need rm11_need Q 39 [(0, .ref (b + 154)), (1, .int (Int32.ofNat i)), (2, .int (v2 + Int32.ofInt 1))] [] 0 0 M1) →
    xm_X l E y11_need rm11_need Q 97 [(0, .ref (b + 154)), (1, .int (Int32.ofNat i)), (2, .int v2), (3, .int (Int32.ofNat e)), (4, .int (Int32.ofNat j))] [] 0 0 M := by
  intro k
  induction k with
  | zero =>
    intro j g M hj hL hN hV hG ho hS h0 h1
    exact t11_need_97 M _ _ _ _ hS ⟨fun _ hS => h1 [] rfl M smNE.rf hG hS, fun g => absurd (by rw [show j = 100 by omega]; decide) g⟩
  | succ k ih =>
    intro j g M hj hL hN hV hG ho hS h0 h1
    have hj100 : j < 100 := by omega
    have ix : vp_in (Int32.ofNat (100 * e + j)) 4800 := xn_in (by omega) (by decide)
    refine t11_need_97 M _ _ _ _ hS ⟨fun g => ?_, fun _ => ?_⟩
    · have g := (xn_le (a := 100) (by decide) (by omega)).mp g
      omega
    rw [ixH, xn_c (show 100 * e + j < 2 ^ 31 by omega), hN j hj100, show (10 : Int32) = Int32.ofNat 10 from rfl, i32_mod (by omega) (by decide), i32_div (by omega) (by decide), xn_s j]
    refine ⟨ix, fun q => ⟨ix, ?_⟩, fun q hS => ?_⟩
    · have fj := xz_ne q
      obtain ⟨w, w1, w2, w3⟩ := hV j hj100 fj
      have wb := isB_iff.mp w2
      have eb : bvZ (B j) = w.toInt := by rw [w1]; rfl
      have er : rsI L f B (k + 1) j = match fnR L (j / 10) (j % 10) (bvZ (B j)) with
        | none => none
        | some C => match rsI L f B k (j + 1) with
          | none => none
          | some R => some (.inr C :: R) := if_pos fj
      rw [eb] at er
      rw [w3]
      refine s11_findReason gd.1 (by have := gd.2.1; omega) gd.2.2 (by omega) (by omega) (show w.toInt = w.toInt from rfl) (by omega) (by omega) hL hS (fun M1 s1 c1 hS => ⟨_, rfl, hS, ?_⟩)
      cases hf : fnR L (j / 10) (j % 10) w.toInt with
      | none =>
        rw [hf] at er
        exact ⟨fun z => absurd rfl z, fun _ hS => h0 er M1 s1.ge.ne hS⟩
      | some C =>
        rw [hf] at er
        have er : rsI L f B (k + 1) j = match rsI L f B k (j + 1) with
          | none => none
          | some R => some (.inr C :: R) := er
        have c2 := fnR_ok hf
        refine ⟨fun _ => s11_needChosen hi (by have := gd.2.1; omega) c2.2 (fun t ht => hK t (c2.1 t ht)) (hL.e s1) (c1 C hf) (by rw [s1.1 _ _ (by omega)]; exact ho) (hG.ge s1.ge) hS (fun M2 s2 n2 hS => ⟨rfl, hS, fun hS => ?_⟩), fun z => absurd (show xz true = 0 from z) (by decide)⟩
        have s12 : smNE b i M M2 := s1.ge.ne.tr s2.ne
        refine ih (j + 1) (mkR o C g) M2 (by omega) ((hL.e s1).nm s2) (fun k hk => by rw [s12.1 _ _ (by omega)]; exact hN k hk) (fun j hj q => by rw [s12.2 _ _ (by omega)]; exact hV j hj q) n2 (by rw [s12.1 _ _ (by omega)]; exact ho) hS (fun hn M3 s3 hS => ?_) (fun A hA M3 s3 n3 hS => ?_)
        · rw [hn] at er
          exact h0 er M3 (s12.tr s3) hS
        · rw [hA] at er
          exact h1 _ er M3 (s12.tr s3) n3 hS
    · have er : rsI L f B (k + 1) j = rsI L f B k (j + 1) := if_neg (fun z => by rw [xz_0.mp q] at z; cases z)
      rw [er] at h0 h1
      exact ih (j + 1) g M (by omega) hL hN hV hG ho hS h0 h1
/-- one edge -/
theorem lp_nd39 {i : Nat} {j : Bool} {g : Nat → Bool} {M : xm_M} (hF : fOk F n) (hi : i < n) (hl : s.1 i = true) (hO : bdOk s) (hp : ndP s nd n i) (hC : cnM b M F n least s) (hN : ndM b M n nd i) (hG : nrM b M i g) (hen : enI (F.1 i) (F.2.2.2.2 i) (Int32.ofNat i) (xz j) = Int32.ofNat (enN F i j)) (hlt : enN F i j < n) (hgt : i < enN F i j) (him : xm_gi M (b + 168) (2 * i + jN j) = xz (!(edA F (s.2 i) i j).1)) (hS : xm_st b c p M)
    (h0 : egI F s nd i j = none → ∀ M1, smNE b i M M1 → xm_st b c p M1 → Q (some (.int 0)) M1)
    (h1 : ∀ A, egI F s nd i j = some A → ∀ M1, smNE b i M M1 → nrM b M1 i (mkI (F.1 i) A g) → xm_st b c p M1 → xm_X l E y11_need rm11_need Q 39 [(0, .ref (b + 154)), (1, .int (Int32.ofNat i)), (2, .int (xz j + Int32.ofInt 1))] [] 0 0 M1) :
    xm_X l E y11_need rm11_need Q 39 [(0, .ref (b + 154)), (1, .int (Int32.ofNat i)), (2, .int (xz j))] [] 0 0 M := by
  have hn48 : n ≤ 48 := hF.1
  have hi48 : i < 48 := by omega
  have jN1 : jN j ≤ 1 := by cases j <;> decide
  obtain ⟨f0, f1, f2, f3, f4⟩ := hC.1 i hi48
  obtain ⟨r1, r2⟩ := fOk_r hF hi
  have hOi := hO i hl
  refine t11_need_39 M _ _ hS ⟨fun g => absurd g (by cases j <;> decide), fun _ => s11_end hi48 hS (fun hS => ⟨_, rfl, hS, fun _ => ?_, fun g => ?_⟩)⟩
  · rw [f0, f4, hen]
    refine s11_stepsOf hi48 hOi r2 ((hC.2.1 i hi).2 hl) f0 f1 f2 f3 hS (fun M1 s1 l1 hS => ⟨rfl, hS, ?_⟩)
    have l1 : lsM b M1 (edL F (s.2 i) i j) := l1
    have gd : goodL (edL F (s.2 i) i j) := good_eg hOi r1 r2
    have hKL : ∀ t, t ∈ edL F (s.2 i) i j → okN (F.1 i) (s.2 i) t := fun t ht => ed_okN hF hi ht
    have C1 := hC.ge s1.ge
    have e168 : xm_gi M1 (b + 168) (Int32.toNatClampNeg ((2 : Int32) * Int32.ofNat i + xz j)) = xz (!(edA F (s.2 i) i j).1) := by
      rw [xz_s, ixW, xn_c (by omega), s1.1 _ _ (by omega)]; exact him
    rw [e168]
    refine ⟨by rw [xz_s, ixW]; exact xn_in (by omega) (by decide), fun g hS => ?_, fun g => ?_⟩
    · have gt : (edA F (s.2 i) i j).1 = true := by
        have := xz_0.mp g
        cases h : (edA F (s.2 i) i j).1 with
        | true => rfl
        | false => rw [h] at this; cases this
      have eg : egI F s nd i j = match rsI (edL F (s.2 i) i j) (nd (enN F i j)) (s.2 (enN F i j)) 100 0 with
        | none => none
        | some R => some (.inl 0 :: R) := if_pos gt
      refine lp_nd97 hi48 (by omega) (by omega) gd hKL 100 0 _ M1 rfl l1 ((hN _ hgt hlt).ge s1.ge) (bvM_of C1 hO hp hgt hlt) (hG.ge s1.ge) (C1.1 i hi48).1 hS (fun hn M2 s2 hS => ?_) (fun A hA M2 s2 n2 hS => ?_)
      · rw [hn] at eg
        exact h0 eg M2 (s1.ge.ne.tr s2) hS
      · rw [hA] at eg
        exact h1 _ eg M2 (s1.ge.ne.tr s2) n2 hS
    · have gf : (edA F (s.2 i) i j).1 = false := by
        have := xz_ne g
        cases h : (edA F (s.2 i) i j).1 with
        | true => rw [h] at this; cases this
        | false => rfl
      have eg : egI F s nd i j = match rdZ (edL F (s.2 i) i j) 10 0 with
        | none => none
        | some r => some [.inl 1, .inl (Int32.ofNat r.1), .inr r.2] := if_neg (fun z => by rw [gf] at z; cases z)
      refine s11_findRound gd.1 (by have := gd.2.1; omega) gd.2.2 l1 hS (fun M2 s2 c2 hS => ⟨_, rfl, hS, ?_⟩)
      cases hr : rdZ (edL F (s.2 i) i j) 10 0 with
      | none =>
        rw [hr] at eg
        exact ⟨fun z => absurd (show (0 : Int32) ≤ -1 from z) (by decide), fun _ hS => h0 eg M2 (s1.ge.tr s2.ge).ne hS⟩
      | some r =>
        rw [hr] at eg c2
        have r3 := rdZ_ok 10 0 hr
        refine ⟨fun _ => s11_needChosen hi48 (by have := gd.2.1; omega) r3.2.2 (fun t ht => hKL t (r3.2.1 t ht)) (l1.e s2) (c2 r rfl) (by rw [s2.1 _ _ (by omega)]; exact (C1.1 i hi48).1) ((hG.ge s1.ge).ge s2.ge) hS (fun M3 s3 n3 hS => ⟨rfl, hS, fun hS => h1 _ eg M3 ((s1.ge.tr s2.ge).ne.tr s3.ne) n3 hS⟩), fun z => absurd ?_ z⟩
        show (0 : Int32) ≤ Int32.ofNat r.1
        rw [show (0 : Int32) = Int32.ofNat 0 from rfl]
        exact (xn_le (by decide) (by have := r3.1; omega)).mpr (Nat.zero_le _)
  · rw [f0, f4, hen, show (0 : Int32) = Int32.ofNat 0 from rfl] at g
    exact absurd ((xn_le (by decide) (by omega)).mpr (Nat.zero_le _)) g
theorem lp_nd39n {i : Nat} {j : Bool} {M : xm_M} (hF : fOk F n) (hi : i < n) (hC : cnM b M F n least s) (hen : enI (F.1 i) (F.2.2.2.2 i) (Int32.ofNat i) (xz j) = -1) (hS : xm_st b c p M)
    (h : xm_st b c p M → xm_X l E y11_need rm11_need Q 39 [(0, .ref (b + 154)), (1, .int (Int32.ofNat i)), (2, .int (xz j + Int32.ofInt 1))] [] 0 0 M) :
    xm_X l E y11_need rm11_need Q 39 [(0, .ref (b + 154)), (1, .int (Int32.ofNat i)), (2, .int (xz j))] [] 0 0 M := by
  have hi48 : i < 48 := by have := hF.1; omega
  obtain ⟨f0, f1, f2, f3, f4⟩ := hC.1 i hi48
  refine t11_need_39 M _ _ hS ⟨fun g => absurd g (by cases j <;> decide), fun _ => s11_end hi48 hS (fun hS => ⟨_, rfl, hS, fun g => ?_, fun _ => h⟩)⟩
  rw [f0, f4, hen] at g
  exact absurd g (by decide)
theorem egs_1 {i : Nat} {j : Bool} (h1 : ecC (F.1 i) = 1) (h2 : jB (F.1 i) (Int32.ofNat 0) = j) : exI F s nd i (ecC (F.1 i)) 0 = egI F s nd i j := by
  rw [h1]
  show (match egI F s nd i (jB (F.1 i) (Int32.ofNat 0)) with
    | none => none
    | some A => match some [] with
      | none => none
      | some R => some (A ++ R)) = _
  rw [h2]
  cases egI F s nd i j with
  | none => rfl
  | some A => show some (A ++ []) = some A; rw [List.append_nil]
theorem egs_2 {i : Nat} (h1 : ecC (F.1 i) = 2) (h2 : jB (F.1 i) (Int32.ofNat 0) = false) (h3 : jB (F.1 i) (Int32.ofNat 1) = true) : exI F s nd i (ecC (F.1 i)) 0 = match egI F s nd i false with
    | none => none
    | some A => match egI F s nd i true with
      | none => none
      | some D => some (A ++ D) := by
  rw [h1]
  show (match egI F s nd i (jB (F.1 i) (Int32.ofNat 0)) with
    | none => none
    | some A => match (match egI F s nd i (jB (F.1 i) (Int32.ofNat 1)) with
        | none => none
        | some A => match some [] with
          | none => none
          | some R => some (A ++ R)) with
      | none => none
      | some R => some (A ++ R)) = _
  rw [h2, h3]
  cases egI F s nd i false with
  | none => rfl
  | some A =>
    cases egI F s nd i true with
    | none => rfl
    | some D => show some (A ++ (D ++ [])) = some (A ++ D); rw [List.append_nil]
theorem en_j {i e : Nat} {j : Bool} (hF : fOk F n) (hi : i < n) (he : e < ecC (F.1 i)) (hj : jB (F.1 i) (Int32.ofNat e) = j) : i < enN F i j := by
  rw [← hj]; exact (en_gt hF hi he).1
theorem im_j {i e : Nat} {j : Bool} {M : xm_M} (hC : cnM b M F n least s) (hi : i < n) (hl : s.1 i = true) (he : e < ecC (F.1 i)) (hj : jB (F.1 i) (Int32.ofNat e) = j) : xm_gi M (b + 168) (2 * i + jN j) = xz (!(edA F (s.2 i) i j).1) := by
  have := hC.2.2.1 i hi hl e he
  unfold imV at this
  rw [hj] at this
  exact this
theorem lp_ndE {i : Nat} {g : Nat → Bool} {M : xm_M} (hF : fOk F n) (hi : i < n) (hl : s.1 i = true) (hO : bdOk s) (hp : ndP s nd n i) (hC : cnM b M F n least s) (hN : ndM b M n nd i) (hG : nrM b M i g) (hS : xm_st b c p M)
    (h0 : exI F s nd i (ecC (F.1 i)) 0 = none → ∀ M1, smNE b i M M1 → xm_st b c p M1 → Q (some (.int 0)) M1)
    (h1 : ∀ A, exI F s nd i (ecC (F.1 i)) 0 = some A → ∀ M1, smNE b i M M1 → nrM b M1 i (mkI (F.1 i) A g) → xm_st b c p M1 → xm_X l E y11_need rm11_need Q 39 [(0, .ref (b + 154)), (1, .int (Int32.ofNat i)), (2, .int (xz true + Int32.ofInt 1))] [] 0 0 M1) :
    xm_X l E y11_need rm11_need Q 39 [(0, .ref (b + 154)), (1, .int (Int32.ofNat i)), (2, .int (xz false))] [] 0 0 M := by
  have one : xz false + Int32.ofInt 1 = xz true := by decide
  rcases kind_of hF hi with ⟨_, c0, n0, n1⟩ | ⟨c1, j0, n0, m0, n1⟩ | ⟨c1, j0, n0, n1, m1⟩ | ⟨c2, j0, j1, n0, m0, n1, m1⟩
  · refine lp_nd39n hF hi hC n0 hS (fun hS => ?_)
    rw [one]
    refine lp_nd39n hF hi hC n1 hS (fun hS => ?_)
    exact h1 [] (by rw [c0]; rfl) M smNE.rf hG hS
  · rw [egs_1 c1 j0] at h0 h1
    refine lp_nd39 hF hi hl hO hp hC hN hG n0 m0 (en_j hF hi (by omega) j0) (im_j hC hi hl (by omega) j0) hS h0 (fun A hA M1 s1 g1 hS => ?_)
    rw [one]
    exact lp_nd39n hF hi (hC.ne s1) n1 hS (fun hS => h1 A hA M1 s1 g1 hS)
  · rw [egs_1 c1 j0] at h0 h1
    refine lp_nd39n hF hi hC n0 hS (fun hS => ?_)
    rw [one]
    exact lp_nd39 hF hi hl hO hp hC hN hG n1 m1 (en_j hF hi (by omega) j0) (im_j hC hi hl (by omega) j0) hS h0 h1
  · have ee := egs_2 (s := s) (nd := nd) c2 j0 j1
    refine lp_nd39 hF hi hl hO hp hC hN hG n0 m0 (en_j hF hi (by omega) j0) (im_j hC hi hl (by omega) j0) hS (fun hn M1 s1 hS => ?_) (fun A hA M1 s1 g1 hS => ?_)
    · rw [hn] at ee
      exact h0 ee M1 s1 hS
    · rw [one]
      rw [hA] at ee
      have ee : exI F s nd i (ecC (F.1 i)) 0 = match egI F s nd i true with
        | none => none
        | some D => some (A ++ D) := ee
      refine lp_nd39 hF hi hl hO hp (hC.ne s1) (hN.ne s1) g1 n1 m1 (en_j hF hi (by omega) j1) (im_j (hC.ne s1) hi hl (by omega) j1) hS (fun hn M2 s2 hS => ?_) (fun D hD M2 s2 g2 hS => ?_)
      · rw [hn] at ee
        exact h0 ee M2 (s1.tr s2) hS
      · rw [hD] at ee
        exact h1 _ ee M2 (s1.tr s2) (by rw [mkI_app]; exact g2) hS
def ndB (F : Flt) (s : BdT) (nd : NdT) (i : Nat) : Bool := match gvI F s nd i with
  | none => false
  | some R => decide (rkN (mkI (F.1 i) R noN) 100 ≤ 24)
theorem s11_need {i : Nat} {M : xm_M} (hF : fOk F n) (hi : i < n) (hl : s.1 i = true) (hO : bdOk s) (hp : ndP s nd n i) (hC : cnM b M F n least s) (hN : ndM b M n nd i) (hG : nrM b M i noN) (hS : xm_st b c p M)
    (h : ∀ M1, smNE b i M M1 → (∀ R, gvI F s nd i = some R → nrM b M1 i (mkI (F.1 i) R noN)) → xm_st b c p M1 → Q (some (.int (xz (ndB F s nd i)))) M1) : xm_C l E y11_need rm11_need [.ref (b + 154), .int (Int32.ofNat i)] M Q := by
  have hi48 : i < 48 := by have := hF.1; omega
  have eg : gvI F s nd i = match acI F (s.2 i) i with
    | none => none
    | some A => match exI F s nd i (ecC (F.1 i)) 0 with
      | none => none
      | some R => some (A ++ R) := rfl
  have no : gvI F s nd i = none → ∀ M1, smNE b i M M1 → xm_st b c p M1 → Q (some (.int 0)) M1 := fun hn M1 s1 hS => by
    have := h M1 s1 (fun R hR => by rw [hn] at hR; cases hR) hS
    have eb : ndB F s nd i = false := by unfold ndB; rw [hn]
    rw [eb] at this
    exact this
  -- behind the access
  have go : ∀ A N, acI F (s.2 i) i = some A → smNE b i M N → nrM b N i (mkI (F.1 i) A noN) → xm_st b c p N → xm_X l E y11_need rm11_need Q 39 [(0, .ref (b + 154)), (1, .int (Int32.ofNat i)), (2, .int (xz false))] [] 0 0 N := fun A N hA sN gN hS => by
    rw [hA] at eg
    have eg : gvI F s nd i = match exI F s nd i (ecC (F.1 i)) 0 with
      | none => none
      | some R => some (A ++ R) := eg
    refine lp_ndE hF hi hl hO hp (hC.ne sN) (hN.ne sN) gN hS (fun hn M1 s1 hS => ?_) (fun R hR M1 s1 g1 hS => ?_)
    · rw [hn] at eg
      exact no eg M1 (sN.tr s1) hS
    · rw [hR] at eg
      have eg : gvI F s nd i = some (A ++ R) := eg
      have g1 : nrM b M1 i (mkI (F.1 i) (A ++ R) noN) := by rw [mkI_app]; exact g1
      have fin := h M1 (sN.tr s1) (fun R' hR' => by rw [eg] at hR'; cases hR'; exact g1) 
      have eb : ndB F s nd i = decide (rkN (mkI (F.1 i) (A ++ R) noN) 100 ≤ 24) := by unfold ndB; rw [eg]
      have hle := rkN_le (mkI (F.1 i) (A ++ R) noN) 100
      refine t11_need_39 M1 _ _ hS ⟨fun _ => s11_factsAt hi48 g1 hS (fun hS => ⟨_, rfl, hS, fun g hS => ?_, fun g hS => ?_⟩), fun g => absurd (by decide) g⟩
      · have g := (xn_lt (a := 24) (by decide) (by omega)).mp g
        have fin := fin hS
        rw [eb, decide_eq_false (by omega)] at fin
        exact fin
      · have g : ¬ 24 < rkN (mkI (F.1 i) (A ++ R) noN) 100 := fun z => g ((xn_lt (a := 24) (by decide) (by omega)).mpr z)
        have fin := fin hS
        rw [eb, decide_eq_true (by omega)] at fin
        exact fin
  refine xm_enter (by decide) (Nat.le_of_ble_eq_true rfl) (t11_need_0 M _ hS (fun hS => t11_need_2 M _ _ hS ⟨fun g => absurd g (by decide), fun _ => s11_isAccess hi48 hS (fun hS => ⟨_, rfl, hS, ?_⟩)⟩))
  rw [(hC.1 i hi48).1]
  refine ⟨fun g hS => ?_, fun g => ?_⟩
  · exact go [] M (if_neg (fun z => by rw [xz_0.mp g] at z; cases z)) smNE.rf hG hS
  · have hac := xz_ne g
    have ea := acI_R (F := F) (B := s.2 i) hac
    have hlen : (acL (s.2 i)).length ≤ 1200 := by have := (good_pl (hO i hl)).2.1; unfold acL; omega
    refine s11_findBound (t := false) hF hi hl hO hac hC hS (fun M1 s1 l1 c1 hS => ⟨_, rfl, hS, ?_⟩)
    cases hf : acR F (s.2 i) i false with
    | none =>
      rw [hf] at ea
      rw [ea] at eg
      exact ⟨fun z => absurd rfl z, fun _ hS => no eg M1 s1.ne hS⟩
    | some C =>
      rw [hf] at ea
      have ea : acI F (s.2 i) i = match acR F (s.2 i) i true with
        | none => none
        | some D => some [.inr C, .inr D] := ea
      have c2 := acR_ok hf
      refine ⟨fun _ => s11_needChosen hi48 hlen c2.2 (fun t ht => ac_okN (c2.1 t ht)) l1 (c1 C hf) ((hC.ge s1).1 i hi48).1 (hG.ge s1) hS (fun M2 s2 n2 hS => ⟨rfl, hS, fun hS => ?_⟩), fun z => absurd (show xz true = 0 from z) (by decide)⟩
      have s12 : smNE b i M M2 := s1.ne.tr s2.ne
      have C2 := hC.ne s12
      refine t11_need_2 M2 _ _ hS ⟨fun g => absurd g (by decide), fun _ => s11_isAccess hi48 hS (fun hS => ⟨_, rfl, hS, ?_⟩)⟩
      rw [(C2.1 i hi48).1, hac]
      refine ⟨fun z => absurd z (by decide), fun _ => ?_⟩
      show xm_C l E y11_findBound rm11_findBound [.ref (b + 154), .int (Int32.ofNat i), .int (xz true)] M2 _
      refine s11_findBound (t := true) hF hi hl hO hac C2 hS (fun M3 s3 l3 c3 hS => ⟨_, rfl, hS, ?_⟩)
      cases hf2 : acR F (s.2 i) i true with
      | none =>
        rw [hf2] at ea
        rw [ea] at eg
        exact ⟨fun z => absurd rfl z, fun _ hS => no eg M3 (s12.tr s3.ne) hS⟩
      | some D =>
        rw [hf2] at ea
        have c4 := acR_ok hf2
        refine ⟨fun _ => s11_needChosen hi48 hlen c4.2 (fun t ht => ac_okN (c4.1 t ht)) l3 (c3 D hf2) ((C2.ge s3).1 i hi48).1 (n2.ge s3) hS (fun M4 s4 n4 hS => ⟨rfl, hS, fun hS => ?_⟩), fun z => absurd (show xz true = 0 from z) (by decide)⟩
        refine t11_need_2 M4 _ _ hS ⟨fun _ hS => ?_, fun g => absurd (by decide) g⟩
        exact go _ M4 ea (s12.tr (s3.ne.tr s4.ne)) n4 hS
end NR
