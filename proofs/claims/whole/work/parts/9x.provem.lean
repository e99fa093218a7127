/-! how much is told -/
theorem tlI_len {K : NsT → Prop} {g : Int32 → Int32} : ∀ R : List ItT, itOk K R → (tlI g R).length ≤ 13 * R.length
  | [], _ => Nat.le_refl 0
  | .inl v :: R, h => by
    have := tlI_len (g := g) R (fun C hC => h C (List.mem_cons_of_mem _ hC))
    show (tlI g R).length + 1 ≤ 13 * (R.length + 1)
    omega
  | .inr C :: R, h => by
    have := tlI_len (g := g) R (fun C hC => h C (List.mem_cons_of_mem _ hC))
    have := (h C List.mem_cons_self).1
    show (tlR g C ++ tlI g R).length ≤ 13 * (R.length + 1)
    rw [List.length_append, tlR_len]
    omega
theorem rsI_len {L : List NsT} {f : Nat → Bool} {B : Nat → Option Int64} : ∀ (k j : Nat) (R : List ItT), rsI L f B k j = some R → R.length ≤ k
  | 0, _, R, h => by cases h; exact Nat.le_refl 0
  | k + 1, j, R, h => by
    unfold rsI at h
    by_cases g : f j = true
    · rw [if_pos g] at h
      cases h1 : fnR L (j / 10) (j % 10) (bvZ (B j)) with
      | none => rw [h1] at h; cases h
      | some C =>
        rw [h1] at h
        cases h2 : rsI L f B k (j + 1) with
        | none => rw [h2] at h; cases h
        | some R' =>
          rw [h2] at h
          cases h
          have := rsI_len k (j + 1) R' h2
          show R'.length + 1 ≤ k + 1
          omega
    · rw [if_neg g] at h
      have := rsI_len k (j + 1) R h
      omega
theorem egI_len {F : Flt} {s : BdT} {nd : NdT} {i : Nat} {j : Bool} {R : List ItT} (h : egI F s nd i j = some R) : R.length ≤ 101 := by
  unfold egI at h
  by_cases g : (edA F (s.2 i) i j).1 = true
  · rw [if_pos g] at h
    cases h1 : rsI (edL F (s.2 i) i j) (nd (enN F i j)) (s.2 (enN F i j)) 100 0 with
    | none => rw [h1] at h; cases h
    | some A =>
      rw [h1] at h
      cases h
      have := rsI_len 100 0 A h1
      show A.length + 1 ≤ 101
      omega
  · rw [if_neg g] at h
    cases h1 : rdZ (edL F (s.2 i) i j) 10 0 with
    | none => rw [h1] at h; cases h
    | some r => rw [h1] at h; cases h; show 3 ≤ 101; decide
theorem exI_len {F : Flt} {s : BdT} {nd : NdT} {i : Nat} : ∀ (k e : Nat) (R : List ItT), exI F s nd i k e = some R → R.length ≤ 101 * k
  | 0, _, R, h => by cases h; exact Nat.le_refl 0
  | k + 1, e, R, h => by
    unfold exI at h
    cases h1 : egI F s nd i (jB (F.1 i) (Int32.ofNat e)) with
    | none => rw [h1] at h; cases h
    | some A =>
      rw [h1] at h
      cases h2 : exI F s nd i k (e + 1) with
      | none => rw [h2] at h; cases h
      | some R' =>
        rw [h2] at h
        cases h
        have a1 := egI_len h1
        have a2 := exI_len k (e + 1) R' h2
        rw [List.length_append]
        omega
theorem acI_len {F : Flt} {B : Nat → Option Int64} {i : Nat} {R : List ItT} (h : acI F B i = some R) : R.length ≤ 2 := by
  unfold acI at h
  by_cases g : acB (F.1 i) = true
  · rw [if_pos g] at h
    cases h1 : fnR (acL B) 0 (1 + fB F i) (F.2.2.2.1 i).toInt with
    | none => rw [h1] at h; cases h
    | some C =>
      rw [h1] at h
      cases h2 : fnR (acL B) (1 + fB F i) (atI (F.1 i)).toNatClampNeg (amL (F.1 i) (F.2.2.2.1 i)).toInt with
      | none => rw [h2] at h; cases h
      | some D => rw [h2] at h; cases h; exact Nat.le_refl 2
  · rw [if_neg g] at h
    cases h
    exact Nat.zero_le 2
theorem gvI_len {F : Flt} {s : BdT} {nd : NdT} {i : Nat} {R : List ItT} (h : gvI F s nd i = some R) : R.length ≤ 204 := by
  unfold gvI at h
  cases h1 : acI F (s.2 i) i with
  | none => rw [h1] at h; cases h
  | some A =>
    rw [h1] at h
    cases h2 : exI F s nd i (ecC (F.1 i)) 0 with
    | none => rw [h2] at h; cases h
    | some R' =>
      rw [h2] at h
      cases h
      have a1 := acI_len h1
      have a2 := exI_len _ _ R' h2
      have a3 := ecC_le (F.1 i)
      rw [List.length_append]
      omega
theorem inT_len {F : Flt} {s : BdT} {nd : NdT} {n : Nat} (hF : fOk F n) : ∀ (k i : Nat), i + k ≤ n → (inT F s nd k i).length ≤ 2652 * k
  | 0, _, _ => Nat.le_refl 0
  | k + 1, i, hi => by
    have ih := inT_len (s := s) (nd := nd) hF k (i + 1) (by omega)
    show ((if s.1 i = true then tlI (fun n => nmP (nd i) (F.1 i) n.toNatClampNeg) (orN (gvI F s nd i)) else []) ++ inT F s nd k (i + 1)).length ≤ _
    rw [List.length_append]
    have : (if s.1 i = true then tlI (fun n => nmP (nd i) (F.1 i) n.toNatClampNeg) (orN (gvI F s nd i)) else []).length ≤ 2652 := by
      by_cases g : s.1 i = true
      · rw [if_pos g]
        cases h1 : gvI F s nd i with
        | none => exact Nat.zero_le _
        | some R =>
          have a1 := gvI_len h1
          have a2 := tlI_len (g := fun n => nmP (nd i) (F.1 i) n.toNatClampNeg) R (gvI_ok hF (by omega) h1)
          show (tlI _ R).length ≤ 2652
          omega
      · rw [if_neg g]; exact Nat.zero_le _
    omega
theorem fcT_len {s : BdT} {nd : NdT} : ∀ (k i : Nat), (fcT s nd k i).length ≤ 301 * k
  | 0, _ => Nat.le_refl 0
  | k + 1, i => by
    have ih := fcT_len (s := s) (nd := nd) k (i + 1)
    have pl := prL_len (f := nd i) (B := s.2 i) 100 0
    show (((if s.1 i = true then Int32.ofNat (rkN (nd i) 100) else -1) :: prL (nd i) (s.2 i) 100 0) ++ fcT s nd k (i + 1)).length ≤ _
    rw [List.length_append, List.length_cons]
    omega
theorem bgT_len {g : Int32 → Int32} {L : List NsT} {f : Nat → Bool} {B : Nat → Option Int64} : (tlI g (orN (rsI L f B 100 0))).length ≤ 1300 := by
  cases h : rsI L f B 100 0 with
  | none => exact Nat.zero_le _
  | some R =>
    have a1 := rsI_len 100 0 R h
    have a2 := tlI_len (g := g) R (rsI_ok (K := fun _ => True) (fun _ _ => trivial) 100 0 R h)
    show (tlI g R).length ≤ 1300
    omega
/-! the reference proves -/
def smPv (b : Nat) (M N : xm_M) : Prop := (∀ x k, ¬ ((x = b + 154 ∧ (k = 8 ∨ k = 9 ∨ k = 14 ∨ k = 19 ∨ k = 26 ∨ k = 29)) ∨ x = b + 160 ∨ (b + 162 ≤ x ∧ x ≤ b + 164) ∨ x = b + 167 ∨ x = b + 168 ∨ (b + 171 ≤ x ∧ x ≤ b + 173)) → xm_gi N x k = xm_gi M x k) ∧ ∀ x k, ¬ (x = b + 165 ∨ x = b + 166 ∨ x = b + 169 ∨ x = b + 170) → xm_gl N x k = xm_gl M x k
theorem smPv.rf {b : Nat} {M : xm_M} : smPv b M M := ⟨fun _ _ _ => rfl, fun _ _ _ => rfl⟩
theorem smPv.tr {b : Nat} {M N P : xm_M} (h : smPv b M N) (g : smPv b N P) : smPv b M P := ⟨fun x k q => (g.1 x k q).trans (h.1 x k q), fun x k q => (g.2 x k q).trans (h.2 x k q)⟩
theorem smTE.pv {b : Nat} {M N : xm_M} (h : smTE b M N) : smPv b M N := ⟨fun x k q => h.1 x k (by omega), fun x k q => h.2 x k (by omega)⟩
theorem smNE.pv {b i : Nat} {M N : xm_M} (h : smNE b i M N) : smPv b M N := ⟨fun x k q => h.1 x k (by omega), fun x k q => h.2 x k (by omega)⟩
theorem smH.pv {b : Nat} {M N : xm_M} (h : smH b M N) : smPv b M N := ⟨fun x k q => h.1 x k (by omega), fun x k q => h.2 x k (by omega)⟩
section PV
variable {l : Launch} {E : xm_E} {b : Nat} {c p : Bool} {Q : Option Value → xm_M → Prop} {F : Flt} {n m : Nat} {least : Int32} {s : BdT} {nd : NdT}
theorem lp_pv219 {T : List Int32} (hTl : T.length ≤ 20000) : ∀ (k j : Nat) (M : xm_M), j + k = T.length → snM b M T → (∀ x v, x < j → T[x]? = some v → xm_gi M (b + 160) x = v) → xm_st b c p M →
    (∀ M1, smPv b M M1 → xm_gi M1 (b + 154) 9 = xm_gi M (b + 154) 9 → xm_gi M1 (b + 154) 8 = Int32.ofNat T.length → (∀ x v, T[x]? = some v → xm_gi M1 (b + 160) x = v) → xm_st b c p M1 → Q (some (.int (Int32.ofNat T.length))) M1) →
    xm_X l E y11_prove rm11_prove Q 219 [(0, .ref (b + 154)), (1, .int (Int32.ofNat j))] [] 0 0 M := by
  intro k
  induction k with
  | zero =>
    intro j M hj hT hD hS h
    refine t11_prove_219 M _ hS ?_
    rw [hT.1]
    refine ⟨fun _ hS => ?_, fun g => absurd ((xn_le (by omega) (by omega)).mpr (by omega)) g⟩
    rw [gi_pi, if_pos ⟨rfl, rfl⟩]
    refine h _ ⟨fun x k q => by rw [gi_pi, if_neg (by omega)], fun _ _ _ => rfl⟩ (by rw [gi_pi, if_neg (by omega)]) (by rw [gi_pi, if_pos ⟨rfl, rfl⟩]) (fun x v hx => ?_) hS
    have := (List.getElem?_eq_some_iff.mp hx).1
    rw [gi_pi, if_neg (by omega)]
    exact hD x v (by omega) hx
  | succ k ih =>
    intro j M hj hT hD hS h
    refine t11_prove_219 M _ hS ?_
    rw [hT.1, xn_c (show j < 2 ^ 31 by omega), xn_s]
    refine ⟨fun g => ?_, fun _ => ⟨xn_in (by omega) (by decide), xn_in (by omega) (by decide), fun hS => ?_⟩⟩
    · have g := (xn_le (by omega) (by omega)).mp g
      omega
    refine ih (j + 1) _ (by omega) ⟨by rw [gi_pi, if_neg (by omega)]; exact hT.1, fun x v hx hx2 => by rw [gi_pi, if_neg (by omega)]; exact hT.2 x v hx hx2⟩ (fun x v hx hxv => ?_) hS (fun M1 s1 d9 d8 d6 hS => h M1 ⟨fun x k q => by rw [s1.1 x k q, gi_pi, if_neg (by omega)], fun x k q => s1.2 x k q⟩ (by rw [d9, gi_pi, if_neg (by omega)]) d8 d6 hS)
    rw [gi_pi]
    by_cases e : x = j
    · rw [if_pos ⟨rfl, e⟩]
      rw [e] at hxv
      exact hT.2 j v hxv (by omega)
    · rw [if_neg (fun z => e z.2)]; exact hD x v (by omega) hxv
theorem lp_pv168 (hF : fOk F n) (hO : bdOk s) (hG : ndG F s nd n) : ∀ (k i : Nat) (T : List Int32) (M : xm_M), i + k = n → T.length + 2652 * k + 13 < 1000000 → cnM b M F n least s → (∀ x, i ≤ x → x < n → nrM b M x (nd x)) → snM b M T → xm_st b c p M →
    ((T ++ inT F s nd k i).length ≤ 20000 → ∀ M1, smPv b M M1 → xm_gi M1 (b + 154) 9 = xm_gi M (b + 154) 9 → xm_gi M1 (b + 154) 8 = Int32.ofNat (T ++ inT F s nd k i).length → (∀ x v, (T ++ inT F s nd k i)[x]? = some v → xm_gi M1 (b + 160) x = v) → xm_st b c p M1 → Q (some (.int (Int32.ofNat (T ++ inT F s nd k i).length))) M1) →
    (¬ (T ++ inT F s nd k i).length ≤ 20000 → ∀ M1, smPv b M M1 → xm_gi M1 (b + 154) 9 = Int32.ofNat n → xm_gi M1 (b + 154) 8 = xm_gi M (b + 154) 8 → xm_st b c p M1 → Q (some (.int (-2))) M1) →
    xm_X l E y11_prove rm11_prove Q 168 [(0, .ref (b + 154)), (1, .int (Int32.ofNat i))] [] 0 0 M := by
  have hn48 : n ≤ 48 := hF.1
  have hp := ndG_p hF hG
  intro k
  induction k with
  | zero =>
    intro i T M hi hTl hC hN hT hS h1 h2
    have ea : T ++ inT F s nd 0 i = T := List.append_nil T
    rw [ea] at h1 h2
    refine t11_prove_168 M _ hS ?_
    rw [hC.2.2.2.1, hT.1]
    refine ⟨fun _ => ⟨fun g hS => ?_, fun g hS => ?_⟩, fun g => absurd ((xn_le (by omega) (by omega)).mpr (by omega)) g⟩
    · have g : T.length ≤ 20000 := (xn_le (by omega) (by decide)).mp g
      exact lp_pv219 g T.length 0 M (by omega) hT (fun x v hx => absurd hx (Nat.not_lt_zero x)) hS (h1 g)
    · have g : ¬ T.length ≤ 20000 := fun z => g ((xn_le (by omega) (by decide)).mpr z)
      exact h2 g _ ⟨fun x k q => by rw [gi_pi, if_neg (by omega)], fun _ _ _ => rfl⟩ (by rw [gi_pi, if_pos ⟨rfl, rfl⟩]) (by rw [gi_pi, if_neg (by omega)]) hS
  | succ k ih =>
    intro i T M hi hTl hC hN hT hS h1 h2
    have hin : i < n := by omega
    have hi48 : i < 48 := by omega
    have ei : inT F s nd (k + 1) i = (if s.1 i = true then tlI (fun n => nmP (nd i) (F.1 i) n.toNatClampNeg) (orN (gvI F s nd i)) else []) ++ inT F s nd k (i + 1) := rfl
    refine t11_prove_168 M _ hS ?_
    rw [hC.2.2.2.1, xn_c (show i < 2 ^ 31 by omega), (hC.2.1 i hin).1, xn_s]
    refine ⟨fun g => ?_, fun _ => ⟨xn_in hi48 (by decide), fun g hS => ?_, fun g => ?_⟩⟩
    · have g := (xn_le (by omega) (by omega)).mp g
      omega
    · rw [if_neg (fun z => by rw [xz_0.mp g] at z; cases z), List.nil_append] at ei
      rw [ei] at h1 h2
      exact ih (i + 1) T M (by omega) (by omega) hC (fun x a1 a2 => hN x (by omega) a2) hT hS h1 h2
    · have hl := xz_ne g
      obtain ⟨R, r1, r2, r3⟩ := (hG i hin).1 hl
      have a1 := gvI_len r1
      have a2 := tlI_len (g := fun n => nmP (nd i) (F.1 i) n.toNatClampNeg) R (gvI_ok hF hin r1)
      rw [if_pos hl, r1] at ei
      have ei : inT F s nd (k + 1) i = tlI (fun n => nmP (nd i) (F.1 i) n.toNatClampNeg) R ++ inT F s nd k (i + 1) := ei
      rw [ei, ← List.append_assoc] at h1 h2
      refine s11_tellInstruction hF hin hl hO (fun x b1 b2 k hk => hp x b2 k hk) r1 (by omega) hC hN hT hS (fun M1 s1 t1 hS => ⟨rfl, hS, fun hS => ?_⟩)
      have d9 : xm_gi M1 (b + 154) 9 = xm_gi M (b + 154) 9 := s1.1 _ _ (by omega)
      have d8 : xm_gi M1 (b + 154) 8 = xm_gi M (b + 154) 8 := s1.1 _ _ (by omega)
      exact ih (i + 1) _ M1 (by omega) (by rw [List.length_append]; omega) (hC.te s1) (fun x b1 b2 => (hN x (by omega) b2).te s1) t1 hS (fun q M2 s2 e9 e8 e6 hS => h1 q M2 (s1.pv.tr s2) (e9.trans d9) e8 e6 hS) (fun q M2 s2 e9 e8 hS => h2 q M2 (s1.pv.tr s2) e9 (e8.trans d8) hS)
theorem lp_pv118 {L : List NsT} (gd : goodL L) {f : Nat → Bool} {B : Nat → Option Int64} : ∀ (k j : Nat) (T : List Int32) (A : List ItT) (M : xm_M), j + k = 100 → rsI L f B k j = some A → T.length + (tlI (fun n => n) A).length + 13 < 1000000 → lsM b M L → nrM b M 0 f → bvM b M 0 f B → snM b M T → xm_st b c p M →
    (∀ M1, smTE b M M1 → snM b M1 (T ++ tlI (fun n => n) A) → xm_st b c p M1 → xm_X l E y11_prove rm11_prove Q 168 [(0, .ref (b + 154)), (1, .int (Int32.ofNat 0))] [] 0 0 M1) →
    xm_X l E y11_prove rm11_prove Q 118 [(0, .ref (b + 154)), (1, .int (Int32.ofNat j))] [] 0 0 M := by
  intro k
  induction k with
  | zero =>
    intro j T A M hj hA hTl hL hN hV hT hS h
    have hA : some [] = some A := hA
    cases hA
    exact t11_prove_118 M _ hS ⟨fun _ hS => h M smTE.rf (by show snM b M (T ++ []); rw [List.append_nil]; exact hT) hS, fun g => absurd (by rw [show j = 100 by omega]; decide) g⟩
  | succ k ih =>
    intro j T A M hj hA hTl hL hN hV hT hS h
    have hj100 : j < 100 := by omega
    have ix : vp_in (Int32.ofNat j) 4800 := xn_in (by omega) (by decide)
    have hNj := hN j hj100
    rw [show 100 * 0 + j = j by omega] at hNj
    refine t11_prove_118 M _ hS ⟨fun g => ?_, fun _ => ?_⟩
    · have g := (xn_le (a := 100) (by decide) (by omega)).mp g
      omega
    rw [xn_c (show j < 2 ^ 31 by omega), hNj, show (10 : Int32) = Int32.ofNat 10 from rfl, i32_mod (by omega) (by decide), i32_div (by omega) (by decide), xn_s j]
    refine ⟨ix, fun q => ⟨ix, ?_⟩, fun q hS => ?_⟩
    · have fj := xz_ne q
      obtain ⟨w, w1, w2, w3⟩ := hV j hj100 fj
      rw [show 100 * 0 + j = j by omega] at w3
      have wb := isB_iff.mp w2
      have eb : bvZ (B j) = w.toInt := by rw [w1]; rfl
      have er : rsI L f B (k + 1) j = match fnR L (j / 10) (j % 10) (bvZ (B j)) with
        | none => none
        | some C => match rsI L f B k (j + 1) with
          | none => none
          | some R => some (.inr C :: R) := if_pos fj
      rw [eb, hA] at er
      rw [w3]
      refine s11_findReason gd.1 (by have := gd.2.1; omega) gd.2.2 (by omega) (by omega) (show w.toInt = w.toInt from rfl) (by omega) (by omega) hL hS (fun M1 s1 c1 hS => ⟨_, rfl, hS, ?_⟩)
      cases hf : fnR L (j / 10) (j % 10) w.toInt with
      | none => rw [hf] at er; cases er
      | some C =>
        rw [hf] at er
        have er : some A = match rsI L f B k (j + 1) with
          | none => none
          | some R => some (.inr C :: R) := er
        cases hr : rsI L f B k (j + 1) with
        | none => rw [hr] at er; cases er
        | some R =>
          rw [hr] at er
          cases er
          have c2 := fnR_ok hf
          rw [tlI_cons, List.length_append, tlR_len] at hTl
          rw [tlI_cons] at h
          refine s11_tellReason0 (by have := gd.2.1; omega) c2.2 (by omega) (hL.e s1) (c1 C hf) (hT.ge s1.ge) hS (fun M2 s2 t2 hS => ⟨rfl, hS, fun hS => ?_⟩)
          have s12 : smTE b M M2 := s1.ge.te.tr s2.te
          refine ih (j + 1) _ R M2 (by omega) hr (by rw [List.length_append, tlR_len]; omega) ((hL.e s1).tl s2) (hN.te s12) (fun j hj q => by rw [s12.2 _ _ (by omega)]; exact hV j hj q) t2 hS (fun M3 s3 t3 hS => h M3 (s12.tr s3) (by rw [List.append_assoc] at t3; exact t3) hS)
    · have er : rsI L f B (k + 1) j = rsI L f B k (j + 1) := if_neg (fun z => by rw [xz_0.mp q] at z; cases z)
      rw [er] at hA
      exact ih (j + 1) T A M (by omega) hA hTl hL hN hV hT hS h
theorem lp_pv65 (hm : m ≤ 1024) (hF : fOk F n) (hsE : s = bdE F (Int32.ofNat m) n) : ∀ (x : Nat) (nd : NdT) (M : xm_M), x ≤ n → ndS F s x nd = ndS F s n (fun _ => noN) → cnM b M F n (Int32.ofNat m) s → (∀ y, y < x → nrM b M y noN) → (∀ y, x ≤ y → y < n → nrM b M y (nd y)) → (∀ y, x ≤ y → y < n → ∀ k, nd y k = true → k < 100 ∧ s.1 y = true ∧ (s.2 y k).isSome = true) → xm_st b c p M →
    (∀ j, ndS F s n (fun _ => noN) = .inl j → ∀ M1, smPv b M M1 → xm_gi M1 (b + 154) 9 = Int32.ofNat j → xm_gi M1 (b + 154) 8 = xm_gi M (b + 154) 8 → xm_st b c p M1 → Q (some (.int (-2))) M1) →
    (∀ ndE, ndS F s n (fun _ => noN) = .inr ndE → (prT F (Int32.ofNat m) s ndE n).length ≤ 20000 → ∀ M1, smPv b M M1 → xm_gi M1 (b + 154) 9 = xm_gi M (b + 154) 9 → xm_gi M1 (b + 154) 8 = Int32.ofNat (prT F (Int32.ofNat m) s ndE n).length → (∀ x v, (prT F (Int32.ofNat m) s ndE n)[x]? = some v → xm_gi M1 (b + 160) x = v) → xm_st b c p M1 → Q (some (.int (Int32.ofNat (prT F (Int32.ofNat m) s ndE n).length))) M1) →
    (∀ ndE, ndS F s n (fun _ => noN) = .inr ndE → ¬ (prT F (Int32.ofNat m) s ndE n).length ≤ 20000 → ∀ M1, smPv b M M1 → xm_gi M1 (b + 154) 9 = Int32.ofNat n → xm_gi M1 (b + 154) 8 = xm_gi M (b + 154) 8 → xm_st b c p M1 → Q (some (.int (-2))) M1) →
    xm_X l E y11_prove rm11_prove Q 65 [(0, .ref (b + 154)), (1, .int (Int32.ofNat x - (1 : Int32)))] [] 0 0 M := by
  have hn48 : n ≤ 48 := hF.1
  have hO : bdOk s := by rw [hsE]; exact bdE_ok
  intro x
  induction x with
  | zero =>
    intro nd M hx hE hC hZ hN hp hS hl h1 h2
    have hE : .inr nd = ndS F s n (fun _ => noN) := hE
    have hG : ndG F s nd n := (ndS_keep hF n _ nd (Nat.le_refl n) hE.symm).2
    have h1 := h1 nd hE.symm
    have h2 := h2 nd hE.symm
    have hbg : (bgI (Int32.ofNat m) s nd).isSome = true := by
      rw [hsE] at hG ⊢
      exact bgI_some hm hF nd hG
    obtain ⟨A, hA⟩ := some_is hbg
    have et : prT F (Int32.ofNat m) s nd n = (fcT s nd n 0 ++ tlI (fun n => n) A) ++ inT F s nd n 0 := by
      unfold prT
      rw [hA, List.append_assoc]; rfl
    rw [et] at h1 h2
    have lf := fcT_len (s := s) (nd := nd) n 0
    have lb : (tlI (fun n => n) A).length ≤ 1300 := by
      have := bgT_len (g := fun n => n) (L := apL true [] (begL (Int32.ofNat m))) (f := nd 0) (B := s.2 0)
      have e : rsI (apL true [] (begL (Int32.ofNat m))) (nd 0) (s.2 0) 100 0 = some A := hA
      rw [e] at this
      exact this
    refine t11_prove_65 M _ hS ⟨fun _ => ?_, fun g => absurd (by decide) g⟩
    have s0 : smTE b M (xm_pi M (b + 154) 29 0) := ⟨fun x k q => by rw [gi_pi, if_neg (by omega)], fun _ _ _ => rfl⟩
    have T0 : snM b (xm_pi M (b + 154) 29 0) [] := ⟨by rw [gi_pi, if_pos ⟨rfl, rfl⟩]; rfl, fun j v hj => by cases hj⟩
    have hS : xm_st b c p (xm_pi M (b + 154) 29 0) := hS
    generalize xm_pi M (b + 154) 29 0 = M0 at s0 T0 hS ⊢
    have C0 := hC.te s0
    have N0 : ∀ y, y < n → nrM b M0 y (nd y) := fun y hy => (hN y (Nat.zero_le y) hy).te s0
    refine xm_enter (by decide) (Nat.le_of_ble_eq_true rfl) (t11_tellFacts_0 M0 hS (fun hS => lp_tf2 hF hO hG n 0 [] M0 (by omega) (Nat.lt_of_le_of_lt (show ([] : List Int32).length + 301 * n ≤ 301 * 48 by show 0 + 301 * n ≤ _; omega) (by decide)) C0 N0 T0 hS (fun M1 s1 t1 hS => ⟨rfl, hS, ?_⟩)))
    have t1 : snM b M1 (fcT s nd n 0) := t1
    have C1 := C0.te s1.te
    refine s11_beginning hS ?_
    rw [C1.2.2.2.2, ← bg_same hm]
    intro M2 s2 l2 _ hS
    refine ⟨rfl, hS, fun hS => ?_⟩
    have C2 := C1.ge s2.ge
    have s02 : smTE b M0 M2 := s1.te.tr s2.ge.te
    have h0n : 0 < n := hF.2.1
    have hpp := ndG_p hF hG
    refine lp_pv118 (L := apL true [] (begL (Int32.ofNat m))) good_bg 100 0 _ A M2 rfl hA (Nat.lt_of_le_of_lt (show (fcT s nd n 0).length + (tlI (fun n => n) A).length + 13 ≤ 301 * 48 + 1300 + 13 by omega) (by decide)) l2 ((N0 0 h0n).te s02) (fun j hj hf => ?_) (t1.ge s2.ge) hS (fun M3 s3 t3 hS => ?_)
    · obtain ⟨_, b2, b3⟩ := hpp 0 h0n j hf
      obtain ⟨w, hw⟩ := some_is b3
      exact ⟨w, hw, (hO 0 b2).1 j w hj hw, by rw [(C2.2.1 0 h0n).2 b2 j hj, hw]; rfl⟩
    · have s03 : smTE b M M3 := s0.tr (s02.tr s3)
      have d9 : xm_gi M3 (b + 154) 9 = xm_gi M (b + 154) 9 := s03.1 _ _ (by omega)
      have d8 : xm_gi M3 (b + 154) 8 = xm_gi M (b + 154) 8 := s03.1 _ _ (by omega)
      exact lp_pv168 hF hO hG n 0 _ M3 (by omega) (Nat.lt_of_le_of_lt (show (fcT s nd n 0 ++ tlI (fun n => n) A).length + 2652 * n + 13 ≤ 301 * 48 + 1300 + 2652 * 48 + 13 by rw [List.length_append]; omega) (by decide)) (C2.te s3) (fun y _ hy => (N0 y hy).te (s02.tr s3)) t3 hS (fun q M4 s4 e9 e8 e6 hS => h1 q M4 (s03.pv.tr s4) (e9.trans d9) e8 e6 hS) (fun q M4 s4 e9 e8 hS => h2 q M4 (s03.pv.tr s4) e9 (e8.trans d8) hS)
  | succ i ih =>
    intro nd M hx hE hC hZ hN hp hS hl h1 h2
    have hin : i < n := by omega
    have hi48 : i < 48 := by omega
    have eS : ndS F s (i + 1) nd = if s.1 i = true then
      (match gvI F s nd i with
      | none => .inl i
      | some R => if rkN (mkI (F.1 i) R noN) 100 ≤ 24 then ndS F s i (udN nd i (mkI (F.1 i) R noN)) else .inl i)
    else ndS F s i (udN nd i noN) := rfl
    rw [hE] at eS
    rw [sub1]
    refine t11_prove_65 M _ hS ⟨fun g => ?_, fun _ => ⟨xn_in hi48 (by decide), ?_⟩⟩
    · rw [show (0 : Int32) = Int32.ofNat 0 from rfl, xn_lt (by omega) (by decide)] at g
      omega
    have nx : ∀ f N, smNE b i M N → nrM b N i f → ndOk f (s.2 i) → (s.1 i = true ∨ f = noN) → ndS F s i (udN nd i f) = ndS F s n (fun _ => noN) → xm_st b c p N → xm_X l E y11_prove rm11_prove Q 65 [(0, .ref (b + 154)), (1, .int (Int32.ofNat i - (1 : Int32)))] [] 0 0 N := fun f N sN nN hf hlf hE2 hS => by
      have d9 : xm_gi N (b + 154) 9 = xm_gi M (b + 154) 9 := sN.1 _ _ (by omega)
      have d8 : xm_gi N (b + 154) 8 = xm_gi M (b + 154) 8 := sN.1 _ _ (by omega)
      refine ih (udN nd i f) N (by omega) hE2 (hC.ne sN) (fun y hy k hk => by rw [sN.1 _ _ (by omega)]; exact hZ y (by omega) k hk) (fun y b1 b2 => ?_) (fun y b1 b2 k hk => ?_) hS (fun j hj M3 s3 e9 e8 hS => hl j hj M3 (sN.pv.tr s3) e9 (e8.trans d8) hS) (fun ndE hj q M3 s3 e9 e8 e6 hS => h1 ndE hj q M3 (sN.pv.tr s3) (e9.trans d9) e8 e6 hS) (fun ndE hj q M3 s3 e9 e8 hS => h2 ndE hj q M3 (sN.pv.tr s3) e9 (e8.trans d8) hS)
      · unfold udN
        by_cases e : y = i
        · rw [if_pos e, e]; exact nN
        · rw [if_neg e]
          exact fun k hk => by rw [sN.1 _ _ (by omega)]; exact hN y (by omega) b2 k hk
      · unfold udN at hk
        by_cases e : y = i
        · rw [if_pos e] at hk
          rw [e]
          exact ⟨(hf k hk).1, hlf.elim id (fun z => by rw [z] at hk; cases hk), (hf k hk).2⟩
        · rw [if_neg e] at hk
          exact hp y (by omega) b2 k hk
    rw [xn_c (show i < 2 ^ 31 by omega), (hC.2.1 i hin).1, dec1]
    refine ⟨fun g hS => ?_, fun g => ?_⟩
    · rw [if_neg (fun z => by rw [xz_0.mp g] at z; cases z)] at eS
      exact nx noN M smNE.rf (hZ i (by omega)) noN_ok (Or.inr rfl) eS.symm hS
    · have hli := xz_ne g
      rw [if_pos hli] at eS
      refine s11_need hF hin hli hO (fun y b1 b2 k hk => hp y (by omega) b2 k hk) hC (fun y b1 b2 => hN y (by omega) b2) (hZ i (by omega)) hS (fun M1 s1 n1 hS => ⟨_, rfl, hS, ?_⟩)
      have fail : ndS F s n (fun _ => noN) = .inl i → xm_st b c p (xm_pi M1 (b + 154) 9 (Int32.ofNat i)) → Q (some (.int (-2))) (xm_pi M1 (b + 154) 9 (Int32.ofNat i)) := fun e hS => hl i e _ (s1.pv.tr ⟨fun x k q => by rw [gi_pi, if_neg (by omega)], fun _ _ _ => rfl⟩) (by rw [gi_pi, if_pos ⟨rfl, rfl⟩]) (by rw [gi_pi, if_neg (by omega)]; exact s1.1 _ _ (by omega)) hS
      cases hg : gvI F s nd i with
      | none =>
        rw [hg] at eS
        have eb : ndB F s nd i = false := by unfold ndB; rw [hg]
        rw [eb]
        exact ⟨fun _ hS => fail eS hS, fun z => absurd rfl z⟩
      | some R =>
        rw [hg] at eS n1
        have eS : ndS F s n (fun _ => noN) = if rkN (mkI (F.1 i) R noN) 100 ≤ 24 then ndS F s i (udN nd i (mkI (F.1 i) R noN)) else .inl i := eS
        have eb : ndB F s nd i = decide (rkN (mkI (F.1 i) R noN) 100 ≤ 24) := by unfold ndB; rw [hg]
        rw [eb]
        refine ⟨fun z hS => ?_, fun z hS => ?_⟩
        · have q := of_decide_eq_false (xz_0.mp z)
          rw [if_neg q] at eS
          exact fail eS hS
        · have q := of_decide_eq_true (xz_ne z)
          rw [if_pos q] at eS
          exact nx _ M1 s1 (n1 R rfl) (mkI_ok R noN (gvI_ok hF hin hg) noN_ok) (Or.inl hli) eS.symm hS
theorem lp_pv34 (hF : fOk F n) : ∀ (k j : Nat) (M : xm_M), j + k = 100 * n → xm_gi M (b + 154) 1 = Int32.ofNat n → (∀ y, y < j → xm_gi M (b + 172) y = 0) → xm_st b c p M →
    (∀ M1, (∀ x k, ¬ x = b + 172 → xm_gi M1 x k = xm_gi M x k) → (∀ x k, xm_gl M1 x k = xm_gl M x k) → (∀ y, y < n → nrM b M1 y noN) → xm_st b c p M1 → xm_X l E y11_prove rm11_prove Q 65 [(0, .ref (b + 154)), (1, .int (Int32.ofNat n - (1 : Int32)))] [] 0 0 M1) →
    xm_X l E y11_prove rm11_prove Q 34 [(0, .ref (b + 154)), (1, .int (Int32.ofNat j))] [] 0 0 M := by
  have hn48 : n ≤ 48 := hF.1
  have e100 : (100 : Int32) * Int32.ofNat n = Int32.ofNat (100 * n) := by rw [Int32.ofNat_mul]; rfl
  intro k
  induction k with
  | zero =>
    intro j M hj hc hz hS h
    refine t11_prove_34 M _ hS ?_
    rw [hc, e100]
    exact ⟨fun _ hS => h M (fun _ _ _ => rfl) (fun _ _ => rfl) (fun y hy k hk => hz _ (by omega)) hS, fun g => absurd ((xn_le (by omega) (by omega)).mpr (by omega)) g⟩
  | succ k ih =>
    intro j M hj hc hz hS h
    refine t11_prove_34 M _ hS ?_
    rw [hc, e100, xn_c (by omega), xn_s]
    refine ⟨fun g => ?_, fun _ => ⟨xn_in (by omega) (by decide), fun hS => ih (j + 1) _ (by omega) (by rw [gi_pi, if_neg (by omega)]; exact hc) (fun y hy => ?_) hS (fun M1 g1 g2 z1 hS => h M1 (fun x k q => by rw [g1 x k q, gi_pi, if_neg (fun z => q z.1)]) g2 z1 hS)⟩⟩
    · have g := (xn_le (by omega) (by omega)).mp g
      omega
    · rw [gi_pi]
      by_cases e : y = j
      · rw [if_pos ⟨rfl, e⟩]
      · rw [if_neg (fun z => e z.2)]; exact hz y (by omega)
end PV
