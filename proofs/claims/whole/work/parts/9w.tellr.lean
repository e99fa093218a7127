/-! the reference tells an instruction -/
theorem tlI_cons {g : Int32 → Int32} {C : List NsT} {R : List ItT} : tlI g (.inr C :: R) = tlR g C ++ tlI g R := rfl
theorem tlR_len {g : Int32 → Int32} {C : List NsT} : (tlR g C).length = C.length + 1 := by
  show (C.map (fun s => g s.1)).length + 1 = _
  rw [List.length_map]
section TR
variable {l : Launch} {E : xm_E} {b : Nat} {c p : Bool} {Q : Option Value → xm_M → Prop} {F : Flt} {n : Nat} {least : Int32} {s : BdT} {nd : NdT}
theorem lp_ti114 {i e : Nat} {o v2 : Int32} {B0 : Nat → Option Int64} {L : List NsT} {h0 : Nat → Bool} (hi : i < 48) (he : e < 48) (gd : goodL L) (hK : ∀ t, t ∈ L → okN o B0 t) {f : Nat → Bool} {B : Nat → Option Int64} : ∀ (k j : Nat) (T : List Int32) (A : List ItT) (M : xm_M), j + k = 100 → rsI L f B k j = some A → T.length + (tlI (fun n => nmP h0 o n.toNatClampNeg) A).length + 13 < 1000000 → lsM b M L → nrM b M e f → bvM b M e f B → nrM b M i h0 → xm_gi M (b + 155) i = o → snM b M T → xm_st b c p M →
    (∀ M1, smTE b M M1 → snM b M1 (T ++ tlI (fun n => nmP h0 o n.toNatClampNeg) A) → xm_st b c p M1 → xm_X l E y11_tellInstruction rm11_tellInstruction Q 35 [(0, .ref (b + 154)), (1, .int (Int32.ofNat i)), (2, .int (v2 + Int32.ofInt 1))] [] 0 0 M1) →
    xm_X l E y11_tellInstruction rm11_tellInstruction Q 114 [(0, .ref (b + 154)), (1, .int (Int32.ofNat i)), (2, .int v2), (3, .int (Int32.ofNat e)), (4, .int (Int32.ofNat j))] [] 0 0 M := by
  intro k
  induction k with
  | zero =>
    intro j T A M hj hA hTl hL hN hV hG ho hT hS h
    have hA : some [] = some A := hA
    cases hA
    exact t11_tellInstruction_114 M _ _ _ _ hS ⟨fun _ hS => h M smTE.rf (by show snM b M (T ++ []); rw [List.append_nil]; exact hT) hS, fun g => absurd (by rw [show j = 100 by omega]; decide) g⟩
  | succ k ih =>
    intro j T A M hj hA hTl hL hN hV hG ho hT hS h
    have hj100 : j < 100 := by omega
    have ix : vp_in (Int32.ofNat (100 * e + j)) 4800 := xn_in (by omega) (by decide)
    refine t11_tellInstruction_114 M _ _ _ _ hS ⟨fun g => ?_, fun _ => ?_⟩
    · have g := (xn_le (a := 100) (by decide) (by omega)).mp g
      omega
    rw [ixH, xn_c (show 100 * e + j < 2 ^ 31 by omega), hN j hj100, show (10 : Int32) = Int32.ofNat 10 from rfl, i32_mod (by omega) (by decide), i32_div (by omega) (by decide), xn_s j]
    refine ⟨ix, fun q => ⟨ix, ?_⟩, fun q hS => ?_⟩
    · have fj := xz_ne q
      obtain ⟨w, w1, w2, w3⟩ := hV j hj100 fj
      have wb := isB_iff.mp w2
      have eb : bvZ (B j) = w.toInt := by rw [w1]; rfl
      have er : rsI L f B (k + 1) j = match fnR L (j / 10) (j % 10) (bvZ (B j)) with
        | none => none
        | some C => match rsI L f B k (j + 1) with
          | none => none
          | some R => some (.inr C :: R) := if_pos fj
      rw [eb, hA] at er
      rw [w3]
      refine s11_findReason gd.1 (by have := gd.2.1; omega) gd.2.2 (by omega) (by omega) (show w.toInt = w.toInt from rfl) (by omega) (by omega) hL hS (fun M1 s1 c1 hS => ⟨_, rfl, hS, ?_⟩)
      cases hf : fnR L (j / 10) (j % 10) w.toInt with
      | none => rw [hf] at er; cases er
      | some C =>
        rw [hf] at er
        have er : some A = match rsI L f B k (j + 1) with
          | none => none
          | some R => some (.inr C :: R) := er
        cases hr : rsI L f B k (j + 1) with
        | none => rw [hr] at er; cases er
        | some R =>
          rw [hr] at er
          cases er
          have c2 := fnR_ok hf
          rw [tlI_cons, List.length_append, tlR_len] at hTl
          rw [tlI_cons] at h
          refine s11_tellReason hi (by have := gd.2.1; omega) c2.2 (fun t ht => hK t (c2.1 t ht)) (by omega) (hL.e s1) (c1 C hf) (by rw [s1.1 _ _ (by omega)]; exact ho) (hG.ge s1.ge) (hT.ge s1.ge) hS (fun M2 s2 t2 hS => ⟨rfl, hS, fun hS => ?_⟩)
          have s12 : smTE b M M2 := s1.ge.te.tr s2.te
          refine ih (j + 1) _ R M2 (by omega) hr (by rw [List.length_append, tlR_len]; omega) ((hL.e s1).tl s2) (hN.te s12) (fun j hj q => by rw [s12.2 _ _ (by omega)]; exact hV j hj q) (hG.te s12) (by rw [s12.1 _ _ (by omega)]; exact ho) t2 hS (fun M3 s3 t3 hS => h M3 (s12.tr s3) (by rw [List.append_assoc] at t3; exact t3) hS)
    · have er : rsI L f B (k + 1) j = rsI L f B k (j + 1) := if_neg (fun z => by rw [xz_0.mp q] at z; cases z)
      rw [er] at hA
      exact ih (j + 1) T A M (by omega) hA hTl hL hN hV hG ho hT hS h
theorem lp_ti35 {i : Nat} {j : Bool} {T : List Int32} {A : List ItT} {M : xm_M} (hF : fOk F n) (hi : i < n) (hl : s.1 i = true) (hO : bdOk s) (hp : ndP s nd n i) (hA : egI F s nd i j = some A) (hTl : T.length + (tlI (fun m => nmP (nd i) (F.1 i) m.toNatClampNeg) A).length + 13 < 1000000) (hC : cnM b M F n least s) (hN : ∀ x, i ≤ x → x < n → nrM b M x (nd x)) (hT : snM b M T) (hen : enI (F.1 i) (F.2.2.2.2 i) (Int32.ofNat i) (xz j) = Int32.ofNat (enN F i j)) (hlt : enN F i j < n) (hgt : i < enN F i j) (him : xm_gi M (b + 168) (2 * i + jN j) = xz (!(edA F (s.2 i) i j).1)) (hS : xm_st b c p M)
    (h : ∀ M1, smTE b M M1 → snM b M1 (T ++ tlI (fun m => nmP (nd i) (F.1 i) m.toNatClampNeg) A) → xm_st b c p M1 → xm_X l E y11_tellInstruction rm11_tellInstruction Q 35 [(0, .ref (b + 154)), (1, .int (Int32.ofNat i)), (2, .int (xz j + Int32.ofInt 1))] [] 0 0 M1) :
    xm_X l E y11_tellInstruction rm11_tellInstruction Q 35 [(0, .ref (b + 154)), (1, .int (Int32.ofNat i)), (2, .int (xz j))] [] 0 0 M := by
  have hn48 : n ≤ 48 := hF.1
  have hi48 : i < 48 := by omega
  have jN1 : jN j ≤ 1 := by cases j <;> decide
  obtain ⟨f0, f1, f2, f3, f4⟩ := hC.1 i hi48
  obtain ⟨r1, r2⟩ := fOk_r hF hi
  have hOi := hO i hl
  refine t11_tellInstruction_35 M _ _ hS ⟨fun g => absurd g (by cases j <;> decide), fun _ => s11_end hi48 hS (fun hS => ⟨_, rfl, hS, fun _ => ?_, fun g => ?_⟩)⟩
  · rw [f0, f4, hen]
    refine s11_stepsOf hi48 hOi r2 ((hC.2.1 i hi).2 hl) f0 f1 f2 f3 hS (fun M1 s1 l1 hS => ⟨rfl, hS, ?_⟩)
    have l1 : lsM b M1 (edL F (s.2 i) i j) := l1
    have gd : goodL (edL F (s.2 i) i j) := good_eg hOi r1 r2
    have hKL : ∀ t, t ∈ edL F (s.2 i) i j → okN (F.1 i) (s.2 i) t := fun t ht => ed_okN hF hi ht
    have C1 := hC.ge s1.ge
    have T1 := hT.ge s1.ge
    have ei : (2 : Int32) * Int32.ofNat i + xz j = Int32.ofNat (2 * i + jN j) := by rw [xz_s, ixW]
    have iv : vp_in (Int32.ofNat (2 * i + jN j)) 96 := xn_in (by omega) (by decide)
    have e168 : xm_gi M1 (b + 168) (2 * i + jN j) = xz (!(edA F (s.2 i) i j).1) := by rw [s1.1 _ _ (by omega)]; exact him
    rw [ei, xn_c (by omega), e168]
    refine ⟨iv, fun g => ?_, fun g => ?_⟩
    · have gt : (edA F (s.2 i) i j).1 = true := by
        have := xz_0.mp g
        cases h : (edA F (s.2 i) i j).1 with
        | true => rfl
        | false => rw [h] at this; cases this
      have eg : egI F s nd i j = match rsI (edL F (s.2 i) i j) (nd (enN F i j)) (s.2 (enN F i j)) 100 0 with
        | none => none
        | some R => some (.inl 0 :: R) := if_pos gt
      rw [hA] at eg
      cases hr : rsI (edL F (s.2 i) i j) (nd (enN F i j)) (s.2 (enN F i j)) 100 0 with
      | none => rw [hr] at eg; cases eg
      | some R =>
        rw [hr] at eg
        cases eg
        have hTl : T.length + ((tlI (fun m => nmP (nd i) (F.1 i) m.toNatClampNeg) R).length + 1) + 13 < 1000000 := hTl
        refine s11_tell (by omega) T1 hS (fun M2 s2 t2 hS => ⟨rfl, hS, iv, ?_⟩)
        rw [s2.1 _ _ (by omega), e168]
        refine ⟨fun _ hS => ?_, fun z => absurd g z⟩
        have s12 : smTE b M M2 := s1.ge.te.tr s2.te
        have C2 := hC.te s12
        refine lp_ti114 hi48 (by omega) gd hKL 100 0 _ R M2 rfl hr (by rw [List.length_append, List.length_singleton]; omega) (l1.tl s2) ((hN _ (by omega) hlt).te s12) (bvM_of C2 hO hp hgt hlt) ((hN i (Nat.le_refl i) hi).te s12) (C2.1 i hi48).1 t2 hS (fun M3 s3 t3 hS => h M3 (s12.tr s3) (by rw [List.append_assoc] at t3; exact t3) hS)
    · have gf : (edA F (s.2 i) i j).1 = false := by
        have := xz_ne g
        cases h : (edA F (s.2 i) i j).1 with
        | true => rw [h] at this; cases this
        | false => rfl
      have eg : egI F s nd i j = match rdZ (edL F (s.2 i) i j) 10 0 with
        | none => none
        | some r => some [.inl 1, .inl (Int32.ofNat r.1), .inr r.2] := if_neg (fun z => by rw [gf] at z; cases z)
      rw [hA] at eg
      cases hr : rdZ (edL F (s.2 i) i j) 10 0 with
      | none => rw [hr] at eg; cases eg
      | some r =>
        rw [hr] at eg
        cases eg
        have r3 := rdZ_ok 10 0 hr
        have et : tlI (fun m => nmP (nd i) (F.1 i) m.toNatClampNeg) [.inl 1, .inl (Int32.ofNat r.1), .inr r.2] = [1] ++ ([Int32.ofNat r.1] ++ tlR (fun m => nmP (nd i) (F.1 i) m.toNatClampNeg) r.2) := by
          show 1 :: Int32.ofNat r.1 :: (tlR (fun m => nmP (nd i) (F.1 i) m.toNatClampNeg) r.2 ++ []) = _
          rw [List.append_nil]; rfl
        rw [et] at h hTl
        rw [List.length_append, List.length_append, tlR_len, List.length_singleton, List.length_singleton] at hTl
        refine s11_tell (by omega) T1 hS (fun M2 s2 t2 hS => ⟨rfl, hS, iv, ?_⟩)
        rw [s2.1 _ _ (by omega), e168]
        refine ⟨fun z => absurd z g, fun _ => ?_⟩
        have s12 : smTE b M M2 := s1.ge.te.tr s2.te
        refine s11_findRound gd.1 (by have := gd.2.1; omega) gd.2.2 (l1.tl s2) hS (fun M3 s3 c3 hS => ⟨_, rfl, hS, ?_⟩)
        rw [hr] at c3 ⊢
        show xm_C l E y11_tell rm11_tell [.ref (b + 154), .int (Int32.ofNat r.1)] M3 _
        refine s11_tell (by rw [List.length_append, List.length_singleton]; omega) (t2.ge s3.ge) hS (fun M4 s4 t4 hS => ⟨rfl, hS, ?_⟩)
        have s14 : smTE b M M4 := s12.tr (s3.ge.te.tr s4.te)
        have C4 := hC.te s14
        refine s11_tellReason hi48 (by have := gd.2.1; omega) r3.2.2 (fun t ht => hKL t (r3.2.1 t ht)) (by rw [List.length_append, List.length_append, List.length_singleton, List.length_singleton]; omega) (((l1.tl s2).e s3).tl s4) ((c3 r rfl).tl s4) (C4.1 i hi48).1 ((hN i (Nat.le_refl i) hi).te s14) t4 hS (fun M5 s5 t5 hS => ⟨rfl, hS, fun hS => h M5 (s14.tr s5.te) ?_ hS⟩)
        rw [List.append_assoc, List.append_assoc] at t5
        exact t5
  · rw [f0, f4, hen, show (0 : Int32) = Int32.ofNat 0 from rfl] at g
    exact absurd ((xn_le (by decide) (by omega)).mpr (Nat.zero_le _)) g
theorem lp_ti35n {i : Nat} {j : Bool} {M : xm_M} (hF : fOk F n) (hi : i < n) (hC : cnM b M F n least s) (hen : enI (F.1 i) (F.2.2.2.2 i) (Int32.ofNat i) (xz j) = -1) (hS : xm_st b c p M)
    (h : xm_st b c p M → xm_X l E y11_tellInstruction rm11_tellInstruction Q 35 [(0, .ref (b + 154)), (1, .int (Int32.ofNat i)), (2, .int (xz j + Int32.ofInt 1))] [] 0 0 M) :
    xm_X l E y11_tellInstruction rm11_tellInstruction Q 35 [(0, .ref (b + 154)), (1, .int (Int32.ofNat i)), (2, .int (xz j))] [] 0 0 M := by
  have hi48 : i < 48 := by have := hF.1; omega
  obtain ⟨f0, f1, f2, f3, f4⟩ := hC.1 i hi48
  refine t11_tellInstruction_35 M _ _ hS ⟨fun g => absurd g (by cases j <;> decide), fun _ => s11_end hi48 hS (fun hS => ⟨_, rfl, hS, fun g => ?_, fun _ => h⟩)⟩
  rw [f0, f4, hen] at g
  exact absurd g (by decide)
theorem lp_tiE {i : Nat} {T : List Int32} {A : List ItT} {M : xm_M} (hF : fOk F n) (hi : i < n) (hl : s.1 i = true) (hO : bdOk s) (hp : ndP s nd n i) (hA : exI F s nd i (ecC (F.1 i)) 0 = some A) (hTl : T.length + (tlI (fun m => nmP (nd i) (F.1 i) m.toNatClampNeg) A).length + 13 < 1000000) (hC : cnM b M F n least s) (hN : ∀ x, i ≤ x → x < n → nrM b M x (nd x)) (hT : snM b M T) (hS : xm_st b c p M)
    (h : ∀ M1, smTE b M M1 → snM b M1 (T ++ tlI (fun m => nmP (nd i) (F.1 i) m.toNatClampNeg) A) → xm_st b c p M1 → Q none M1) :
    xm_X l E y11_tellInstruction rm11_tellInstruction Q 35 [(0, .ref (b + 154)), (1, .int (Int32.ofNat i)), (2, .int (xz false))] [] 0 0 M := by
  have one : xz false + Int32.ofInt 1 = xz true := by decide
  have fin : ∀ N, smTE b M N → snM b N (T ++ tlI (fun m => nmP (nd i) (F.1 i) m.toNatClampNeg) A) → xm_st b c p N → xm_X l E y11_tellInstruction rm11_tellInstruction Q 35 [(0, .ref (b + 154)), (1, .int (Int32.ofNat i)), (2, .int (xz true + Int32.ofInt 1))] [] 0 0 N := fun N sN tN hS => t11_tellInstruction_35 N _ _ hS ⟨fun _ hS => h N sN tN hS, fun g => absurd (by decide) g⟩
  rcases kind_of hF hi with ⟨_, c0, n0, n1⟩ | ⟨c1, j0, n0, m0, n1⟩ | ⟨c1, j0, n0, n1, m1⟩ | ⟨c2, j0, j1, n0, m0, n1, m1⟩
  · refine lp_ti35n hF hi hC n0 hS (fun hS => ?_)
    rw [one]
    refine lp_ti35n hF hi hC n1 hS (fun hS => ?_)
    rw [c0] at hA
    have hA : some [] = some A := hA
    cases hA
    exact fin M smTE.rf (by show snM b M (T ++ []); rw [List.append_nil]; exact hT) hS
  · rw [egs_1 c1 j0] at hA
    refine lp_ti35 hF hi hl hO hp hA hTl hC hN hT n0 m0 (en_j hF hi (by omega) j0) (im_j hC hi hl (by omega) j0) hS (fun M1 s1 t1 hS => ?_)
    rw [one]
    exact lp_ti35n hF hi (hC.te s1) n1 hS (fun hS => fin M1 s1 t1 hS)
  · rw [egs_1 c1 j0] at hA
    refine lp_ti35n hF hi hC n0 hS (fun hS => ?_)
    rw [one]
    exact lp_ti35 hF hi hl hO hp hA hTl hC hN hT n1 m1 (en_j hF hi (by omega) j0) (im_j hC hi hl (by omega) j0) hS fin
  · have ee := egs_2 (s := s) (nd := nd) c2 j0 j1
    rw [hA] at ee
    cases h1 : egI F s nd i false with
    | none => rw [h1] at ee; cases ee
    | some A1 =>
      rw [h1] at ee
      have ee : some A = match egI F s nd i true with
        | none => none
        | some D => some (A1 ++ D) := ee
      cases h2 : egI F s nd i true with
      | none => rw [h2] at ee; cases ee
      | some A2 =>
        rw [h2] at ee
        cases ee
        rw [tlI_app] at fin hTl
        rw [List.length_append] at hTl
        refine lp_ti35 hF hi hl hO hp h1 (by omega) hC hN hT n0 m0 (en_j hF hi (by omega) j0) (im_j hC hi hl (by omega) j0) hS (fun M1 s1 t1 hS => ?_)
        rw [one]
        refine lp_ti35 hF hi hl hO hp h2 (by rw [List.length_append]; omega) (hC.te s1) (fun x h1 h2 => (hN x h1 h2).te s1) t1 n1 m1 (en_j hF hi (by omega) j1) (im_j (hC.te s1) hi hl (by omega) j1) hS (fun M2 s2 t2 hS => fin M2 (s1.tr s2) (by rw [List.append_assoc] at t2; exact t2) hS)
theorem s11_tellInstruction {i : Nat} {T : List Int32} {R : List ItT} {M : xm_M} (hF : fOk F n) (hi : i < n) (hl : s.1 i = true) (hO : bdOk s) (hp : ndP s nd n i) (hR : gvI F s nd i = some R) (hTl : T.length + (tlI (fun m => nmP (nd i) (F.1 i) m.toNatClampNeg) R).length + 13 < 1000000) (hC : cnM b M F n least s) (hN : ∀ x, i ≤ x → x < n → nrM b M x (nd x)) (hT : snM b M T) (hS : xm_st b c p M)
    (h : ∀ M1, smTE b M M1 → snM b M1 (T ++ tlI (fun m => nmP (nd i) (F.1 i) m.toNatClampNeg) R) → xm_st b c p M1 → Q none M1) : xm_C l E y11_tellInstruction rm11_tellInstruction [.ref (b + 154), .int (Int32.ofNat i)] M Q := by
  have hi48 : i < 48 := by have := hF.1; omega
  have eg : gvI F s nd i = match acI F (s.2 i) i with
    | none => none
    | some A => match exI F s nd i (ecC (F.1 i)) 0 with
      | none => none
      | some R => some (A ++ R) := rfl
  rw [hR] at eg
  cases ha : acI F (s.2 i) i with
  | none => rw [ha] at eg; cases eg
  | some A =>
    rw [ha] at eg
    have eg : some R = match exI F s nd i (ecC (F.1 i)) 0 with
      | none => none
      | some R => some (A ++ R) := eg
    cases he : exI F s nd i (ecC (F.1 i)) 0 with
    | none => rw [he] at eg; cases eg
    | some A' =>
      rw [he] at eg
      cases eg
      rw [tlI_app] at h hTl
      rw [List.length_append] at hTl
      have go : ∀ N, smTE b M N → snM b N (T ++ tlI (fun m => nmP (nd i) (F.1 i) m.toNatClampNeg) A) → xm_st b c p N → xm_X l E y11_tellInstruction rm11_tellInstruction Q 35 [(0, .ref (b + 154)), (1, .int (Int32.ofNat i)), (2, .int (xz false))] [] 0 0 N := fun N sN tN hS =>
        lp_tiE hF hi hl hO hp he (by rw [List.length_append]; omega) (hC.te sN) (fun x h1 h2 => (hN x h1 h2).te sN) tN hS (fun M1 s1 t1 hS => h M1 (sN.tr s1) (by rw [List.append_assoc] at t1; exact t1) hS)
      refine xm_enter (by decide) (Nat.le_of_ble_eq_true rfl) (t11_tellInstruction_0 M _ hS (fun hS => t11_tellInstruction_2 M _ _ hS ⟨fun g => absurd g (by decide), fun _ => s11_isAccess hi48 hS (fun hS => ⟨_, rfl, hS, ?_⟩)⟩))
      rw [(hC.1 i hi48).1]
      refine ⟨fun g hS => ?_, fun g => ?_⟩
      · have ea : acI F (s.2 i) i = some [] := if_neg (fun z => by rw [xz_0.mp g] at z; cases z)
        rw [ha] at ea
        cases ea
        exact go M smTE.rf (by show snM b M (T ++ []); rw [List.append_nil]; exact hT) hS
      · have hac := xz_ne g
        have ea := acI_R (F := F) (B := s.2 i) hac
        rw [ha] at ea
        have hlen : (acL (s.2 i)).length ≤ 1200 := by have := (good_pl (hO i hl)).2.1; unfold acL; omega
        cases hf : acR F (s.2 i) i false with
        | none => rw [hf] at ea; cases ea
        | some C =>
          rw [hf] at ea
          have ea : some A = match acR F (s.2 i) i true with
            | none => none
            | some D => some [.inr C, .inr D] := ea
          cases hf2 : acR F (s.2 i) i true with
          | none => rw [hf2] at ea; cases ea
          | some D =>
            rw [hf2] at ea
            cases ea
            have et : tlI (fun m => nmP (nd i) (F.1 i) m.toNatClampNeg) [.inr C, .inr D] = tlR (fun m => nmP (nd i) (F.1 i) m.toNatClampNeg) C ++ tlR (fun m => nmP (nd i) (F.1 i) m.toNatClampNeg) D := by
              show tlR _ C ++ (tlR _ D ++ []) = _
              rw [List.append_nil]
            rw [et] at go hTl
            rw [List.length_append, tlR_len, tlR_len] at hTl
            have c2 := acR_ok hf
            have c4 := acR_ok hf2
            refine s11_findBound (t := false) hF hi hl hO hac hC hS (fun M1 s1 l1 c1 hS => ⟨_, rfl, hS, ?_⟩)
            refine s11_tellReason hi48 hlen c2.2 (fun t ht => ac_okN (B := s.2 i) (c2.1 t ht)) (by omega) l1 (c1 C hf) ((hC.ge s1).1 i hi48).1 ((hN i (Nat.le_refl i) hi).ge s1) (hT.ge s1) hS (fun M2 s2 t2 hS => ⟨rfl, hS, fun hS => ?_⟩)
            have s12 : smTE b M M2 := s1.te.tr s2.te
            have C2 := hC.te s12
            refine t11_tellInstruction_2 M2 _ _ hS ⟨fun g => absurd g (by decide), fun _ => s11_isAccess hi48 hS (fun hS => ⟨_, rfl, hS, ?_⟩)⟩
            rw [(C2.1 i hi48).1, hac]
            refine ⟨fun z => absurd z (by decide), fun _ => ?_⟩
            show xm_C l E y11_findBound rm11_findBound [.ref (b + 154), .int (Int32.ofNat i), .int (xz true)] M2 _
            refine s11_findBound (t := true) hF hi hl hO hac C2 hS (fun M3 s3 l3 c3 hS => ⟨_, rfl, hS, ?_⟩)
            have s13 : smTE b M M3 := s12.tr s3.te
            refine s11_tellReason hi48 hlen c4.2 (fun t ht => ac_okN (B := s.2 i) (c4.1 t ht)) (by rw [List.length_append, tlR_len]; omega) l3 (c3 D hf2) ((C2.ge s3).1 i hi48).1 ((hN i (Nat.le_refl i) hi).te s13) (t2.ge s3) hS (fun M4 s4 t4 hS => ⟨rfl, hS, fun hS => ?_⟩)
            refine t11_tellInstruction_2 M4 _ _ hS ⟨fun _ hS => ?_, fun g => absurd (by decide) g⟩
            exact go M4 (s13.tr s4.te) (by rw [List.append_assoc] at t4; exact t4) hS
end TR
