/-! the class gives reasons, into a sink -/
def smU (b i : Nat) (M N : xm_M) : Prop := (∀ x k, ¬ ((x = b + 107 ∧ 100 * i ≤ k ∧ k < 100 * i + 100) ∨ (x = b + 108 ∧ k = i) ∨ (x = b + 51 ∧ k = 1) ∨ x = b + 52 ∨ (x = b + 55 ∧ k = 11) ∨ (b + 129 ≤ x ∧ x ≤ b + 144)) → xm_gi N x k = xm_gi M x k) ∧ ∀ x k, ¬ (b + 129 ≤ x ∧ x ≤ b + 144) → xm_gl N x k = xm_gl M x k
theorem smU.rf {b i : Nat} {M : xm_M} : smU b i M M := ⟨fun _ _ _ => rfl, fun _ _ _ => rfl⟩
theorem smU.tr {b i : Nat} {M N P : xm_M} (h : smU b i M N) (g : smU b i N P) : smU b i M P := ⟨fun x k q => (g.1 x k q).trans (h.1 x k q), fun x k q => (g.2 x k q).trans (h.2 x k q)⟩
theorem smD.u {b i : Nat} {M N : xm_M} (h : smD b M N) : smU b i M N := ⟨fun x k q => h.1 x k (by omega), fun x k q => h.2 x k (by omega)⟩
/-- with the list of steps -/
def smUX (b i : Nat) (M N : xm_M) : Prop := (∀ x k, ¬ ((x = b + 107 ∧ 100 * i ≤ k ∧ k < 100 * i + 100) ∨ (x = b + 108 ∧ k = i) ∨ (x = b + 51 ∧ k = 1) ∨ x = b + 52 ∨ (x = b + 55 ∧ k = 11) ∨ (b + 110 ≤ x ∧ x ≤ b + 144)) → xm_gi N x k = xm_gi M x k) ∧ ∀ x k, ¬ (b + 110 ≤ x ∧ x ≤ b + 144) → xm_gl N x k = xm_gl M x k
theorem smUX.rf {b i : Nat} {M : xm_M} : smUX b i M M := ⟨fun _ _ _ => rfl, fun _ _ _ => rfl⟩
theorem smUX.tr {b i : Nat} {M N P : xm_M} (h : smUX b i M N) (g : smUX b i N P) : smUX b i M P := ⟨fun x k q => (g.1 x k q).trans (h.1 x k q), fun x k q => (g.2 x k q).trans (h.2 x k q)⟩
theorem smU.ux {b i : Nat} {M N : xm_M} (h : smU b i M N) : smUX b i M N := ⟨fun x k q => h.1 x k (by omega), fun x k q => h.2 x k (by omega)⟩
theorem smX.ux {b i : Nat} {M N : xm_M} (h : smX b M N) : smUX b i M N := ⟨fun x k q => h.1 x k (by omega), fun x k q => h.2 x k (by omega)⟩
/-- only the list and the finder -/
def smT9 (b : Nat) (M N : xm_M) : Prop := (∀ x k, ¬ (b + 110 ≤ x ∧ x ≤ b + 144) → xm_gi N x k = xm_gi M x k) ∧ ∀ x k, ¬ (b + 110 ≤ x ∧ x ≤ b + 144) → xm_gl N x k = xm_gl M x k
theorem smX.t9 {b : Nat} {M N : xm_M} (h : smX b M N) : smT9 b M N := ⟨fun x k q => h.1 x k (by omega), fun x k q => h.2 x k (by omega)⟩
theorem smD.t9 {b : Nat} {M N : xm_M} (h : smD b M N) : smT9 b M N := ⟨fun x k q => h.1 x k (by omega), fun x k q => h.2 x k (by omega)⟩
theorem lsX.u {b i : Nat} {M N : xm_M} {L : List NsT} (h : lsX b M L) (s : smU b i M N) : lsX b N L :=
  ⟨by rw [s.1 _ _ (by omega)]; exact h.1, fun j t ht => by rw [s.1 _ _ (by omega), s.1 _ _ (by omega), s.1 _ _ (by omega), s.2 _ _ (by omega)]; exact h.2.1 j t ht, fun u v hu hv => by rw [s.2 _ _ (by omega)]; exact h.2.2 u v hu hv⟩
/-- only the tape -/
def smPt (b : Nat) (M N : xm_M) : Prop := (∀ x k, ¬ ((x = b + 51 ∧ k = 1) ∨ x = b + 52 ∨ (x = b + 55 ∧ k = 11)) → xm_gi N x k = xm_gi M x k) ∧ ∀ x k, xm_gl N x k = xm_gl M x k
theorem smPt.u {b i : Nat} {M N : xm_M} (h : smPt b M N) : smU b i M N := ⟨fun x k q => h.1 x k (by omega), fun x k q => h.2 x k⟩
theorem rowX.pt {b : Nat} {M N : xm_M} {C : List NsT} (h : rowX b M C) (s : smPt b M N) : rowX b N C := ⟨by rw [s.1 _ _ (by omega)]; exact h.1, fun j t ht => by rw [s.1 _ _ (by omega)]; exact h.2 j t ht⟩
def SkT (l : Launch) (E : xm_E) (b : Nat) (c : Bool) (i : Nat) (vi : Int32) (K : NsT → Prop) (P : List ItT → xm_M → Prop) : Prop :=
  (∀ R M N, smT9 b M N → P R M → P R N) ∧
  (∀ (Q : Option Value → xm_M → Prop) R v M, P R M → xm_st b c true M → (∀ M1, smPt b M M1 → P (R ++ [.inl v]) M1 → xm_st b c true M1 → Q none M1) → xm_C l E y5_put rm5_put [.ref (b + 55), .int v] M Q) ∧
  (∀ (Q : Option Value → xm_M → Prop) R C M, C.length ≤ 12 → (∀ s, s ∈ C → K s) → P R M → rowX b M C → xm_st b c true M → (∀ M1, smU b i M M1 → P (R ++ [.inr C]) M1 → xm_st b c true M1 → Q (some (.int 1)) M1) → xm_C l E y5_giveRow rm5_giveRow [.ref (b + 55), .int vi] M Q)
/-- needs of one instruction, as they lie -/
def nrX (b : Nat) (M : xm_M) (e : Nat) (f : Nat → Bool) : Prop := ∀ k, k < 100 → xm_gi M (b + 107) (100 * e + k) = xz (f k)
def bvX (M : xm_M) (a : Nat) (f : Nat → Bool) (B : Nat → Option Int64) : Prop := ∀ j, j < 100 → f j = true → ∃ w, B j = some w ∧ isB w = true ∧ xm_gl M a j = w
def gvP (P : List ItT → xm_M → Prop) (R : List ItT) (M : xm_M) (o : Option (List ItT)) : Prop := (∀ A, o = some A → P (R ++ A) M) ∧ ∃ A, P A M
theorem some_is {α : Type} {o : Option α} (h : o.isSome = true) : ∃ x, o = some x := by
  cases o with
  | none => cases h
  | some x => exact ⟨x, rfl⟩
section GV
variable {l : Launch} {E : xm_E} {b : Nat} {c : Bool} {Q : Option Value → xm_M → Prop} {i : Nat} {vi : Int32} {K : NsT → Prop} {P : List ItT → xm_M → Prop}
theorem lp_gr2 (hK : SkT l E b c i vi K P) {L : List NsT} (gd : goodL L) (hL : ∀ s, s ∈ L → K s) {e : Nat} (he : e < 48) (hei : ¬ e = i) {f : Nat → Bool} {B : Nat → Option Int64} : ∀ (k j : Nat) (R : List ItT) (M : xm_M), j + k = 100 → lsX b M L → nrX b M e f → bvX M (b + 57 + e) f B → P R M → xm_st b c true M →
    (∀ M1, smU b i M M1 → gvP P R M1 (rsI L f B k j) → xm_st b c true M1 → Q (some (.int (xz (rsI L f B k j).isSome))) M1) →
    xm_X l E y5_giveReasonsFor rm5_giveReasonsFor Q 2 [(0, .ref (b + 55)), (1, .int (Int32.ofNat e)), (2, .int vi), (3, .int (Int32.ofNat j))] [] 0 0 M := by
  intro k
  induction k with
  | zero =>
    intro j R M hj hX hN hV hP hS h
    exact t5_giveReasonsFor_2 (p := true) M _ _ _ hS ⟨fun _ hS => h M smU.rf ⟨fun A e => by cases e; rw [List.append_nil]; exact hP, R, hP⟩ hS, fun g => absurd (by rw [show j = 100 by omega]; decide) g⟩
  | succ k ih =>
    intro j R M hj hX hN hV hP hS h
    have hj100 : j < 100 := by omega
    refine t5_giveReasonsFor_2 (p := true) M _ _ _ hS ⟨fun g => ?_, fun _ => ?_⟩
    · have g := (xn_le (a := 100) (by decide) (by omega)).mp g
      omega
    rw [ixH, xn_c (show 100 * e + j < 2 ^ 31 by omega), hN j hj100, xn_c (show e < 2 ^ 31 by omega), xn_c (show j < 2 ^ 31 by omega), show (10 : Int32) = Int32.ofNat 10 from rfl, i32_mod (by omega) (by decide), i32_div (by omega) (by decide), xn_s]
    refine ⟨xn_in (by omega) (by decide), fun g hS => ?_, fun g => ⟨xn_in he (by decide), xn_in hj100 (by decide), ?_⟩⟩
    · have er : rsI L f B (k + 1) j = rsI L f B k (j + 1) := if_neg (fun z => by rw [xz_0.mp g] at z; cases z)
      rw [er] at h
      exact ih (j + 1) R M (by omega) hX hN hV hP hS h
    · have fj := xz_ne g
      obtain ⟨w, w1, w2, w3⟩ := hV j hj100 fj
      have wb := isB_iff.mp w2
      have eb : bvZ (B j) = w.toInt := by rw [w1]; rfl
      rw [w3]
      have er : rsI L f B (k + 1) j = match fnR L (j / 10) (j % 10) (bvZ (B j)) with
        | none => none
        | some C => match rsI L f B k (j + 1) with
          | none => none
          | some R => some (.inr C :: R) := if_pos fj
      rw [eb] at er
      refine s8_find gd.1 gd.2.1 (by omega) (by omega) (show w.toInt = w.toInt from rfl) (by omega) (by omega) hX hS (fun M1 s1 c1 hS => ⟨_, rfl, hS, ?_⟩)
      cases hf : fnR L (j / 10) (j % 10) w.toInt with
      | none =>
        rw [hf] at er
        rw [er] at h
        exact ⟨fun _ hS => h M1 s1.u ⟨fun A e => (by cases e), R, hK.1 R M M1 s1.t9 hP⟩ hS, fun z => absurd rfl z⟩
      | some C =>
        rw [hf] at er
        have c1 := c1 C hf
        have c2 := fnR_ok hf
        refine ⟨fun z => absurd (show xz true = 0 from z) (by decide), fun _ => hK.2.2 _ R C M1 c2.2 (fun s hs => hL s (c2.1 s hs)) (hK.1 R M M1 s1.t9 hP) c1 hS (fun M2 s2 p2 hS => ⟨true, rfl, hS, fun _ hS => ?_, fun z => absurd z (by decide)⟩)⟩
        have s12 : smU b i M M2 := s1.u.tr s2
        have er : rsI L f B (k + 1) j = match rsI L f B k (j + 1) with
          | none => none
          | some R => some (.inr C :: R) := er
        refine ih (j + 1) (R ++ [.inr C]) M2 (by omega) (hX.u s12) (fun k hk => by rw [s12.1 _ _ (by omega)]; exact hN k hk) (fun j hj q => by rw [s12.2 _ _ (by omega)]; exact hV j hj q) p2 hS (fun M3 s3 p3 hS => ?_)
        cases hr : rsI L f B k (j + 1) with
        | none =>
          rw [hr] at er
          rw [er] at h
          exact h M3 (s12.tr s3) ⟨fun A e => (by cases e), p3.2⟩ hS
        | some R' =>
          rw [hr] at er p3
          rw [er] at h
          exact h M3 (s12.tr s3) ⟨fun A e => by cases e; have := p3.1 R' rfl; rw [List.append_assoc] at this; exact this, p3.2⟩ hS
theorem s5_giveReasonsFor (hK : SkT l E b c i vi K P) {L : List NsT} (gd : goodL L) (hL : ∀ s, s ∈ L → K s) {e : Nat} (he : e < 48) (hei : ¬ e = i) {f : Nat → Bool} {B : Nat → Option Int64} {R : List ItT} {M : xm_M} (hX : lsX b M L) (hN : nrX b M e f) (hV : bvX M (b + 57 + e) f B) (hP : P R M) (hS : xm_st b c true M) (h : ∀ M1, smU b i M M1 → gvP P R M1 (rsI L f B 100 0) → xm_st b c true M1 → Q (some (.int (xz (rsI L f B 100 0).isSome))) M1) : xm_C l E y5_giveReasonsFor rm5_giveReasonsFor [.ref (b + 55), .int (Int32.ofNat e), .int vi] M Q :=
  xm_enter (by decide) (Nat.le_of_ble_eq_true rfl) (t5_giveReasonsFor_0 (p := true) M _ _ hS (fun hS => lp_gr2 hK gd hL he hei 100 0 R M rfl hX hN hV hP hS h))
theorem lp_gi2 (hK : SkT l E b c i vi K P) {L : List NsT} (gd : goodL L) (hL : ∀ s, s ∈ L → K s) : ∀ (k x : Nat) (R : List ItT) (M : xm_M), x + k = 10 → lsX b M L → P R M → xm_st b c true M →
    (∀ M1, smU b i M M1 → ((∀ r, rdZ L k x = some r → P (R ++ [.inl (Int32.ofNat r.1), .inr r.2]) M1) ∧ ∃ A, P A M1) → xm_st b c true M1 → Q (some (.int (xz (rdZ L k x).isSome))) M1) →
    xm_X l E y5_giveImpossible rm5_giveImpossible Q 2 [(0, .ref (b + 55)), (1, .int vi), (2, .int (Int32.ofNat x))] [] 0 0 M := by
  intro k
  induction k with
  | zero =>
    intro x R M hx hX hP hS h
    exact t5_giveImpossible_2 (p := true) M _ _ hS ⟨fun _ hS => h M smU.rf ⟨fun r e => (by cases e), R, hP⟩ hS, fun g => absurd (by rw [show x = 10 by omega]; decide) g⟩
  | succ k ih =>
    intro x R M hx hX hP hS h
    refine t5_giveImpossible_2 (p := true) M _ _ hS ⟨fun g => ?_, fun _ => s8_find gd.1 gd.2.1 (by omega) (by omega) (show (-1 : Int64).toInt = -1 by decide) (by decide) (by decide) hX hS (fun M1 s1 c1 hS => ⟨_, rfl, hS, ?_⟩)⟩
    · have g := (xn_le (a := 10) (by decide) (by omega)).mp g
      omega
    rw [xn_s]
    have ef : rdZ L (k + 1) x = match fnR L x x (-1) with
      | some C => some (x, C)
      | none => rdZ L k (x + 1) := rfl
    cases hf : fnR L x x (-1) with
    | none =>
      rw [hf] at ef
      rw [ef] at h
      exact ⟨fun _ hS => ih (x + 1) R M1 (by omega) (hX.u (i := i) s1.u) (hK.1 R M M1 s1.t9 hP) hS (fun M2 s2 p2 hS => h M2 (s1.u.tr s2) p2 hS), fun z => absurd rfl z⟩
    | some C =>
      rw [hf] at ef
      rw [ef] at h
      have c1 := c1 C hf
      have c2 := fnR_ok hf
      refine ⟨fun z => absurd (show xz true = 0 from z) (by decide), fun _ => hK.2.1 _ R (Int32.ofNat x) M1 (hK.1 R M M1 s1.t9 hP) hS (fun M2 s2 p2 hS => ⟨rfl, hS, ?_⟩)⟩
      refine hK.2.2 _ (R ++ [.inl (Int32.ofNat x)]) C M2 c2.2 (fun s hs => hL s (c2.1 s hs)) p2 (c1.pt s2) hS (fun M3 s3 p3 hS => ⟨true, rfl, hS, fun hS => h M3 (s1.u.tr (s2.u.tr s3)) ⟨fun r e => ?_, _, p3⟩ hS⟩)
      cases e
      rw [List.append_assoc] at p3
      exact p3
theorem s5_giveImpossible (hK : SkT l E b c i vi K P) {L : List NsT} (gd : goodL L) (hL : ∀ s, s ∈ L → K s) {R : List ItT} {M : xm_M} (hX : lsX b M L) (hP : P R M) (hS : xm_st b c true M) (h : ∀ M1, smU b i M M1 → ((∀ r, rdZ L 10 0 = some r → P (R ++ [.inl (Int32.ofNat r.1), .inr r.2]) M1) ∧ ∃ A, P A M1) → xm_st b c true M1 → Q (some (.int (xz (rdZ L 10 0).isSome))) M1) : xm_C l E y5_giveImpossible rm5_giveImpossible [.ref (b + 55), .int vi] M Q :=
  xm_enter (by decide) (Nat.le_of_ble_eq_true rfl) (t5_giveImpossible_0 (p := true) M _ hS (fun hS => lp_gi2 hK gd hL 10 0 R M rfl hX hP hS h))
/-- the edges of an instruction -/
def ndX (b : Nat) (M : xm_M) (n : Nat) (nd : NdT) (i : Nat) : Prop := ∀ x, i < x → x < n → nrX b M x (nd x)
def ndP (s : BdT) (nd : NdT) (n i : Nat) : Prop := ∀ x, i < x → x < n → ∀ k, nd x k = true → k < 100 ∧ s.1 x = true ∧ (s.2 x k).isSome = true
theorem bv_of {b n x : Nat} {M : xm_M} {s : BdT} {nd : NdT} {i : Nat} (hX : bdX b M n s) (hO : bdOk s) (hp : ndP s nd n i) (hi : i < x) (hx : x < n) : bvX M (b + 57 + x) (nd x) (s.2 x) := fun j hj hf => by
  obtain ⟨h1, h2, h3⟩ := hp x hi hx j hf
  obtain ⟨w, hw⟩ := some_is h3
  exact ⟨w, hw, (hO x h2).1 j w hj hw, by rw [(hX x hx).2 h2 j hj, hw]; rfl⟩
theorem bdX.ux {n : Nat} {M N : xm_M} {s : BdT} (h : bdX b M n s) (hn : n ≤ 48) (g : smUX b i M N) : bdX b N n s := fun i hi => ⟨by rw [g.1 _ _ (by omega)]; exact (h i hi).1, fun q k hk => by rw [g.2 _ _ (by omega)]; exact (h i hi).2 q k hk⟩
theorem flX.ux {M N : xm_M} {F : Flt} (h : flX b M F) (s : smUX b i M N) : flX b N F := fun i hi => by
  rw [s.1 _ _ (by omega), s.1 _ _ (by omega), s.1 _ _ (by omega), s.1 _ _ (by omega), s.1 _ _ (by omega)]; exact h i hi
theorem ndX.ux {n : Nat} {M N : xm_M} {nd : NdT} (h : ndX b M n nd i) (s : smUX b i M N) : ndX b N n nd i := fun x h1 h2 k hk => by rw [s.1 _ _ (by omega)]; exact h x h1 h2 k hk
theorem lp_ge12 {F : Flt} {n : Nat} {s : BdT} {nd : NdT} (hF : fOk F n) (hi : i < n) (hK : SkT l E b c i (Int32.ofNat i) (okN (F.1 i) (s.2 i)) P) (hl : s.1 i = true) (hO : bdOk s) (hp : ndP s nd n i) : ∀ (k e : Nat) (R : List ItT) (M : xm_M), e + k = ecC (F.1 i) → bdX b M n s → flX b M F → imP b M F s i (ecC (F.1 i)) → ndX b M n nd i → P R M → xm_st b c true M →
    (∀ M1, smUX b i M M1 → gvP P R M1 (exI F s nd i k e) → xm_st b c true M1 → Q (some (.int (xz (exI F s nd i k e).isSome))) M1) →
    xm_X l E y5_giveEdges rm5_giveEdges Q 12 [(0, .ref (b + 55)), (1, .int (Int32.ofNat i)), (2, .ref (b + 3 + i)), (3, .int (Int32.ofNat e))] [] 0 0 M := by
  have hn48 : n ≤ 48 := hF.1
  have hi48 : i < 48 := by omega
  have hec := ecC_le (F.1 i)
  have ii : vp_in (Int32.ofNat i) 48 := xn_in hi48 (by decide)
  intro k
  induction k with
  | zero =>
    intro e R M he hX hL hI hN hP hS h
    refine t5_giveEdges_12 (p := true) M _ _ _ (shf_2 hi48) hS (s2_edgeCount (shf_2 hi48) hS (fun hS => ⟨_, rfl, hS, fun _ hS => h M smUX.rf ⟨fun A e => by cases e; rw [List.append_nil]; exact hP, R, hP⟩ hS, fun g => ?_⟩))
    rw [(hL i hi48).1, ecN_of] at g
    exact absurd ((xn_le (by omega) (by omega)).mpr (by omega)) g
  | succ k ih =>
    intro e R M he hX hL hI hN hP hS h
    have he' : e < ecC (F.1 i) := by omega
    refine t5_giveEdges_12 (p := true) M _ _ _ (shf_2 hi48) hS (s2_edgeCount (shf_2 hi48) hS (fun hS => ⟨_, rfl, hS, fun g => ?_, fun _ => ⟨ii, ?_⟩⟩))
    · rw [(hL i hi48).1, ecN_of] at g
      have g := (xn_le (by omega) (by omega)).mp g
      omega
    obtain ⟨r1, r2⟩ := fOk_r hF hi
    obtain ⟨f0, f1, f2, f3, f4⟩ := hL i hi48
    have hOi := hO i hl
    rw [xn_c (show i < 2 ^ 31 by omega)]
    refine s6_takeEdge (shf_2 hi48) (by omega) (sh_bo hi48) (by omega) hOi ((hX i hi).2 hl) (by rw [f1]; exact r1) (by rw [f2]; exact r2) hS ?_
    rw [f0, f1, f2, f3]
    intro M1 s1 l1 hS
    have l1 : lsX b M1 (edL F (s.2 i) i (jB (F.1 i) (Int32.ofNat e))) := l1
    have gd : goodL (edL F (s.2 i) i (jB (F.1 i) (Int32.ofNat e))) := good_eg hOi r1 r2
    have hKL : ∀ t, t ∈ edL F (s.2 i) i (jB (F.1 i) (Int32.ofNat e)) → okN (F.1 i) (s.2 i) t := fun t ht => ed_okN hF hi ht
    have ix : vp_in (Int32.ofNat (2 * i + e)) 96 := xn_in (by omega) (by decide)
    refine ⟨rfl, hS, ?_⟩
    rw [ixW, xn_c (by omega), s1.1 _ _ (by omega), hI e he', xn_s]
    have hP1 := hK.1 R M M1 s1.t9 hP
    have ex : exI F s nd i (k + 1) e = match egI F s nd i (jB (F.1 i) (Int32.ofNat e)) with
      | none => none
      | some A => match exI F s nd i k (e + 1) with
        | none => none
        | some R => some (A ++ R) := rfl
    -- behind an edge
    have nx : ∀ A M2, egI F s nd i (jB (F.1 i) (Int32.ofNat e)) = some A → smU b i M1 M2 → P (R ++ A) M2 → xm_st b c true M2 → xm_X l E y5_giveEdges rm5_giveEdges Q 12 [(0, .ref (b + 55)), (1, .int (Int32.ofNat i)), (2, .ref (b + 3 + i)), (3, .int (Int32.ofNat (e + 1)))] [] 0 0 M2 := fun A M2 hA s2 p2 hS => by
      rw [hA] at ex
      have ex : exI F s nd i (k + 1) e = match exI F s nd i k (e + 1) with
        | none => none
        | some R => some (A ++ R) := ex
      have s12 : smUX b i M M2 := s1.ux.tr s2.ux
      refine ih (e + 1) (R ++ A) M2 (by omega) (hX.ux hn48 s12) (hL.ux s12) (fun y hy => by rw [s12.1 _ _ (by omega)]; exact hI y hy) (hN.ux s12) p2 hS (fun M3 s3 p3 hS => ?_)
      cases hr : exI F s nd i k (e + 1) with
      | none =>
        rw [hr] at ex
        rw [ex] at h
        exact h M3 (s12.tr s3) ⟨fun A e => (by cases e), p3.2⟩ hS
      | some R' =>
        rw [hr] at ex p3
        rw [ex] at h
        exact h M3 (s12.tr s3) ⟨fun A e => by cases e; have := p3.1 R' rfl; rw [List.append_assoc] at this; exact this, p3.2⟩ hS
    have no : ∀ M2, egI F s nd i (jB (F.1 i) (Int32.ofNat e)) = none → smU b i M1 M2 → (∃ A, P A M2) → xm_st b c true M2 → Q (some (.int 0)) M2 := fun M2 hA s2 p2 hS => by
      rw [hA] at ex
      have ex : exI F s nd i (k + 1) e = none := ex
      rw [ex] at h
      exact h M2 (s1.ux.tr s2.ux) ⟨fun A e => (by cases e), p2⟩ hS
    unfold imV
    cases hb : (edA F (s.2 i) i (jB (F.1 i) (Int32.ofNat e))).1 with
    | true =>
      have eg : egI F s nd i (jB (F.1 i) (Int32.ofNat e)) = match rsI (edL F (s.2 i) i (jB (F.1 i) (Int32.ofNat e))) (nd (enN F i (jB (F.1 i) (Int32.ofNat e)))) (s.2 (enN F i (jB (F.1 i) (Int32.ofNat e)))) 100 0 with
        | none => none
        | some R => some (.inl 0 :: R) := if_pos hb
      obtain ⟨en1, en2, en3⟩ := en_gt hF hi he'
      refine ⟨ix, fun _ => hK.2.1 _ R 0 M1 hP1 hS (fun M2 s2 p2 hS => ⟨rfl, hS, s2_edgeEnd (shf_2 hi48) hS (fun hS => ⟨_, rfl, hS, ?_⟩)⟩), fun z => absurd rfl z⟩
      have s12 : smUX b i M M2 := s1.ux.tr (s2.u (i := i)).ux
      have hL2 := hL.ux s12
      rw [(hL2 i hi48).1, (hL2 i hi48).2.2.2.2, en3]
      refine s5_giveReasonsFor hK gd hKL (by omega) (by omega) (l1.u (s2.u (i := i))) (hN.ux s12 _ en1 en2) (bv_of (hX.ux hn48 s12) hO hp en1 en2) p2 hS (fun M3 s3 p3 hS => ⟨_, rfl, hS, ?_⟩)
      cases hr : rsI (edL F (s.2 i) i (jB (F.1 i) (Int32.ofNat e))) (nd (enN F i (jB (F.1 i) (Int32.ofNat e)))) (s.2 (enN F i (jB (F.1 i) (Int32.ofNat e)))) 100 0 with
      | none =>
        rw [hr] at eg
        exact ⟨fun z => absurd rfl z, fun _ hS => no M3 eg ((s2.u (i := i)).tr s3) p3.2 hS⟩
      | some A =>
        rw [hr] at eg p3
        refine ⟨fun _ hS => nx _ M3 eg ((s2.u (i := i)).tr s3) ?_ hS, fun z => absurd (show xz true = 0 from z) (by decide)⟩
        have := p3.1 A rfl
        rw [List.append_assoc] at this
        exact this
    | false =>
      have eg : egI F s nd i (jB (F.1 i) (Int32.ofNat e)) = match rdZ (edL F (s.2 i) i (jB (F.1 i) (Int32.ofNat e))) 10 0 with
        | none => none
        | some r => some [.inl 1, .inl (Int32.ofNat r.1), .inr r.2] := if_neg (fun z => by rw [hb] at z; cases z)
      refine ⟨ix, fun z => absurd (show xz true = 0 from z) (by decide), fun _ => hK.2.1 _ R 1 M1 hP1 hS (fun M2 s2 p2 hS => ⟨rfl, hS, ?_⟩)⟩
      refine s5_giveImpossible hK gd hKL (l1.u (s2.u (i := i))) p2 hS (fun M3 s3 p3 hS => ⟨_, rfl, hS, ?_⟩)
      cases hr : rdZ (edL F (s.2 i) i (jB (F.1 i) (Int32.ofNat e))) 10 0 with
      | none =>
        rw [hr] at eg
        exact ⟨fun z => absurd rfl z, fun _ hS => no M3 eg ((s2.u (i := i)).tr s3) p3.2 hS⟩
      | some r =>
        rw [hr] at eg p3
        refine ⟨fun _ hS => nx _ M3 eg ((s2.u (i := i)).tr s3) ?_ hS, fun z => absurd (show xz true = 0 from z) (by decide)⟩
        have := p3.1 r rfl
        rw [List.append_assoc] at this
        exact this
theorem s5_giveEdges {F : Flt} {n : Nat} {s : BdT} {nd : NdT} {R : List ItT} {M : xm_M} (hF : fOk F n) (hi : i < n) (hK : SkT l E b c i (Int32.ofNat i) (okN (F.1 i) (s.2 i)) P) (hl : s.1 i = true) (hO : bdOk s) (hp : ndP s nd n i) (hX : bdX b M n s) (hL : flX b M F) (hI : imP b M F s i (ecC (F.1 i))) (hN : ndX b M n nd i) (hP : P R M) (hS : xm_st b c true M) (h : ∀ M1, smUX b i M M1 → gvP P R M1 (exI F s nd i (ecC (F.1 i)) 0) → xm_st b c true M1 → Q (some (.int (xz (exI F s nd i (ecC (F.1 i)) 0).isSome))) M1) : xm_C l E y5_giveEdges rm5_giveEdges [.ref (b + 55), .int (Int32.ofNat i)] M Q := by
  have hi48 : i < 48 := by have := hF.1; omega
  refine xm_enter (by decide) (Nat.le_of_ble_eq_true rfl) (t5_giveEdges_0 (p := true) M _ hS ⟨xn_in hi48 (by decide), fun hS => ?_⟩)
  rw [xn_c (show i < 2 ^ 31 by omega)]
  exact lp_ge12 hF hi hK hl hO hp (ecC (F.1 i)) 0 R M (by omega) hX hL hI hN hP hS h
theorem amL_bd (o k : Int32) : -1099511627776 ≤ (amL o k).toInt ∧ (amL o k).toInt ≤ 1099511627776 := by
  have h1 := Int32.le_toInt k
  have h2 := Int32.toInt_lt k
  have hk : (Int32.toInt64 k).toInt = k.toInt := Int32.toInt_toInt64 k
  unfold amL
  by_cases g : o = 11 ∨ o = 12
  · rw [if_pos g, Int64.toInt_sub, hk, show (31 : Int64).toInt = 31 by decide, Int.bmod_eq_of_le (by omega) (by omega)]
    omega
  · rw [if_neg g]
    have hz : (Int32.toInt64 (Int32.ofNat (szO o))).toInt = szO o ∧ szO o ≤ 4 := by
      unfold szO
      by_cases g8 : o = 8
      · rw [if_pos g8]; decide
      · rw [if_neg g8]
        by_cases g9 : o = 9
        · rw [if_pos g9]; decide
        · rw [if_neg g9]; decide
    have hn : (-(Int32.toInt64 k)).toInt = -k.toInt := by
      rw [Int64.toInt_neg, hk]
      exact Int.bmod_eq_of_le (by omega) (by omega)
    rw [Int64.toInt_sub, hn, hz.1, Int.bmod_eq_of_le (by omega) (by omega)]
    omega
theorem atI_ok (o : Int32) : (atI o).toNatClampNeg < 10 ∧ atI o = Int32.ofNat (atI o).toNatClampNeg := by
  unfold atI
  by_cases g : o = 11 ∨ o = 12
  · rw [if_pos g]; decide
  · rw [if_neg g]; decide
theorem s5_giveAccess {F : Flt} {n : Nat} {s : BdT} {R : List ItT} {M : xm_M} (hF : fOk F n) (hi : i < n) (hK : SkT l E b c i (Int32.ofNat i) (okN (F.1 i) (s.2 i)) P) (hl : s.1 i = true) (hO : bdOk s) (hX : bdX b M n s) (hL : flX b M F) (hP : P R M) (hS : xm_st b c true M) (h : ∀ M1, smUX b i M M1 → gvP P R M1 (acI F (s.2 i) i) → xm_st b c true M1 → Q (some (.int (xz (acI F (s.2 i) i).isSome))) M1) : xm_C l E y5_giveAccess rm5_giveAccess [.ref (b + 55), .int (Int32.ofNat i)] M Q := by
  have hn48 : n ≤ 48 := hF.1
  have hi48 : i < 48 := by omega
  have ii : vp_in (Int32.ofNat i) 48 := xn_in hi48 (by decide)
  have hq := (hF.2.2.2 i hi).2.2.1
  have hOi := hO i hl
  have gd : goodL (acL (s.2 i)) := good_pl hOi
  have hKL : ∀ t, t ∈ acL (s.2 i) → okN (F.1 i) (s.2 i) t := fun t ht => ac_okN ht
  refine xm_enter (by decide) (Nat.le_of_ble_eq_true rfl) (t5_giveAccess_0 (p := true) M _ hS ⟨ii, ?_⟩)
  rw [xn_c (show i < 2 ^ 31 by omega)]
  refine s2_isAccess (shf_2 hi48) hS (fun hS => ⟨_, rfl, hS, ?_⟩)
  rw [(hL i hi48).1]
  refine ⟨fun g => ⟨ii, s6_takeFacts (sh_bo hi48) (by omega) hOi ((hX i hi).2 hl) hS (fun M1 s1 l1 hS => ⟨rfl, hS, ?_⟩)⟩, fun g hS => ?_⟩
  · have ga := xz_ne g
    have l1 : lsX b M1 (acL (s.2 i)) := l1
    have ea : acI F (s.2 i) i = match fnR (acL (s.2 i)) 0 (1 + fB F i) (F.2.2.2.1 i).toInt with
      | none => none
      | some C => match fnR (acL (s.2 i)) (1 + fB F i) (atI (F.1 i)).toNatClampNeg (amL (F.1 i) (F.2.2.2.1 i)).toInt with
        | none => none
        | some D => some [.inr C, .inr D] := if_pos ga
    have hL1 := hL.ux (s1.ux (i := i))
    have q1 : (1 : Int32) + F.2.2.1 i = Int32.ofNat (1 + fB F i) := by rw [hq.2, one_add]
    have hfb : fB F i < 8 := hq.1
    have bk1 := Int32.le_toInt (F.2.2.2.1 i)
    have bk2 := Int32.toInt_lt (F.2.2.2.1 i)
    rw [(hL1 i hi48).2.2.1, (hL1 i hi48).2.2.2.1, q1, show (0 : Int32) = Int32.ofNat 0 from rfl]
    refine s8_find gd.1 gd.2.1 (by decide) (by omega) (Int32.toInt_toInt64 (F.2.2.2.1 i)) (by omega) (by omega) l1 hS (fun M2 s2 c2 hS => ⟨_, rfl, hS, ?_⟩)
    cases hf : fnR (acL (s.2 i)) 0 (1 + fB F i) (F.2.2.2.1 i).toInt with
    | none =>
      rw [hf] at ea
      rw [ea] at h
      exact ⟨fun _ hS => h M2 (s1.ux.tr (s2.u (i := i)).ux) ⟨fun A e => (by cases e), _, hK.1 R M1 M2 s2.t9 (hK.1 R M M1 s1.t9 hP)⟩ hS, fun z => absurd rfl z⟩
    | some C =>
      rw [hf] at ea
      have ea : acI F (s.2 i) i = match fnR (acL (s.2 i)) (1 + fB F i) (atI (F.1 i)).toNatClampNeg (amL (F.1 i) (F.2.2.2.1 i)).toInt with
        | none => none
        | some D => some [.inr C, .inr D] := ea
      have c3 := fnR_ok hf
      refine ⟨fun z => absurd (show xz true = 0 from z) (by decide), fun _ => hK.2.2 _ R C M2 c3.2 (fun t ht => hKL t (c3.1 t ht)) (hK.1 R M1 M2 s2.t9 (hK.1 R M M1 s1.t9 hP)) (c2 C hf) hS (fun M3 s3 p3 hS => ⟨true, rfl, hS, fun z => absurd z (by decide), fun _ => ?_⟩)⟩
      have s13 : smUX b i M M3 := s1.ux.tr ((s2.u (i := i)).ux.tr s3.ux)
      have hL3 := hL.ux s13
      have hac3 : acB (xm_gi M3 (b + 3 + i) 0) = true := by rw [(hL3 i hi48).1]; exact ga
      refine s2_accessTop (shf_2 hi48) hS (fun hS => ⟨_, rfl, hS, s2_accessMost (shf_2 hi48) hac3 hS (fun hS => ⟨_, rfl, hS, ?_⟩)⟩)
      rw [(hL3 i hi48).1, (hL3 i hi48).2.2.2.1]
      obtain ⟨at1, at2⟩ := atI_ok (F.1 i)
      obtain ⟨am1, am2⟩ := amL_bd (F.1 i) (F.2.2.2.1 i)
      rw [at2]
      refine s8_find gd.1 gd.2.1 (by omega) at1 rfl am1 am2 (l1.u ((s2.u (i := i)).tr s3)) hS (fun M4 s4 c4 hS => ⟨_, rfl, hS, ?_⟩)
      cases hf2 : fnR (acL (s.2 i)) (1 + fB F i) (atI (F.1 i)).toNatClampNeg (amL (F.1 i) (F.2.2.2.1 i)).toInt with
      | none =>
        rw [hf2] at ea
        rw [ea] at h
        exact ⟨fun _ hS => h M4 (s13.tr (s4.u (i := i)).ux) ⟨fun A e => (by cases e), _, hK.1 _ M3 M4 s4.t9 p3⟩ hS, fun z => absurd rfl z⟩
      | some D =>
        rw [hf2] at ea
        rw [ea] at h
        have c5 := fnR_ok hf2
        refine ⟨fun z => absurd (show xz true = 0 from z) (by decide), fun _ => hK.2.2 _ (R ++ [.inr C]) D M4 c5.2 (fun t ht => hKL t (c5.1 t ht)) (hK.1 _ M3 M4 s4.t9 p3) (c4 D hf2) hS (fun M5 s5 p5 hS => ⟨true, rfl, hS, fun z => absurd z (by decide), fun _ hS => h M5 (s13.tr ((s4.u (i := i)).ux.tr s5.ux)) ⟨fun A e => ?_, _, p5⟩ hS⟩)⟩
        cases e
        rw [List.append_assoc] at p5
        exact p5
  · have ea : acI F (s.2 i) i = some [] := if_neg (fun z => by rw [xz_0.mp g] at z; cases z)
    rw [ea] at h
    exact h M smUX.rf ⟨fun A e => by cases e; rw [List.append_nil]; exact hP, R, hP⟩ hS
end GV
