/-! the reference tells -/
def smTl (b : Nat) (M N : xm_M) : Prop := (∀ x k, ¬ ((x = b + 154 ∧ k = 29) ∨ x = b + 173) → xm_gi N x k = xm_gi M x k) ∧ ∀ x k, xm_gl N x k = xm_gl M x k
theorem smTl.rf {b : Nat} {M : xm_M} : smTl b M M := ⟨fun _ _ _ => rfl, fun _ _ => rfl⟩
theorem smTl.tr {b : Nat} {M N P : xm_M} (h : smTl b M N) (g : smTl b N P) : smTl b M P := ⟨fun x k q => (g.1 x k q).trans (h.1 x k q), fun x k => (g.2 x k).trans (h.2 x k)⟩
def smTE (b : Nat) (M N : xm_M) : Prop := (∀ x k, ¬ ((x = b + 154 ∧ (k = 14 ∨ k = 19 ∨ k = 26 ∨ k = 29)) ∨ (b + 162 ≤ x ∧ x ≤ b + 164) ∨ x = b + 171 ∨ x = b + 173) → xm_gi N x k = xm_gi M x k) ∧ ∀ x k, ¬ (x = b + 165 ∨ x = b + 170) → xm_gl N x k = xm_gl M x k
theorem smTE.rf {b : Nat} {M : xm_M} : smTE b M M := ⟨fun _ _ _ => rfl, fun _ _ _ => rfl⟩
theorem smTE.tr {b : Nat} {M N P : xm_M} (h : smTE b M N) (g : smTE b N P) : smTE b M P := ⟨fun x k q => (g.1 x k q).trans (h.1 x k q), fun x k q => (g.2 x k q).trans (h.2 x k q)⟩
theorem smTl.te {b : Nat} {M N : xm_M} (h : smTl b M N) : smTE b M N := ⟨fun x k q => h.1 x k (by omega), fun x k q => h.2 x k⟩
theorem smGE.te {b : Nat} {M N : xm_M} (h : smGE b M N) : smTE b M N := ⟨fun x k q => h.1 x k (by omega), fun x k q => h.2 x k (by omega)⟩
theorem cnM.te {b n : Nat} {M N : xm_M} {F : Flt} {least : Int32} {s : BdT} (h : cnM b M F n least s) (g : smTE b M N) : cnM b N F n least s := h.fr (fun x k q => g.1 _ _ (by omega)) (fun x k q => g.2 _ _ (by omega))
theorem nrM.te {b e : Nat} {M N : xm_M} {f : Nat → Bool} (h : nrM b M e f) (g : smTE b M N) : nrM b N e f := fun k hk => by rw [g.1 _ _ (by omega)]; exact h k hk
theorem lsM.tl {b : Nat} {M N : xm_M} {L : List NsT} (h : lsM b M L) (s : smTl b M N) : lsM b N L := ⟨by rw [s.1 _ _ (by omega)]; exact h.1, fun j t ht => by rw [s.1 _ _ (by omega), s.1 _ _ (by omega), s.1 _ _ (by omega), s.2]; exact h.2 j t ht⟩
theorem chM.tl {b : Nat} {M N : xm_M} {L C : List NsT} (h : chM b M L C) (s : smTl b M N) : chM b N L C := ⟨by rw [s.1 _ _ (by omega)]; exact h.1, fun k t ht => by rw [s.1 _ _ (by omega)]; exact h.2 k t ht⟩
def snM (b : Nat) (M : xm_M) (T : List Int32) : Prop := xm_gi M (b + 154) 29 = Int32.ofNat T.length ∧ ∀ j v, T[j]? = some v → j < 20000 → xm_gi M (b + 173) j = v
theorem snM.ge {b : Nat} {M N : xm_M} {T : List Int32} (h : snM b M T) (s : smGE b M N) : snM b N T := ⟨by rw [s.1 _ _ (by omega)]; exact h.1, fun j v hj hj2 => by rw [s.1 _ _ (by omega)]; exact h.2 j v hj hj2⟩
section TM
variable {l : Launch} {E : xm_E} {b : Nat} {c p : Bool} {Q : Option Value → xm_M → Prop} {F : Flt} {n : Nat} {least : Int32} {s : BdT} {nd : NdT}
theorem s11_tell {v : Int32} {T : List Int32} {M : xm_M} (hlen : T.length < 1000000) (hT : snM b M T) (hS : xm_st b c p M) (h : ∀ M1, smTl b M M1 → snM b M1 (T ++ [v]) → xm_st b c p M1 → Q none M1) : xm_C l E y11_tell rm11_tell [.ref (b + 154), .int v] M Q := by
  obtain ⟨h1, h2⟩ := hT
  have hl : (T ++ [v]).length = T.length + 1 := by rw [List.length_append]; rfl
  refine xm_enter (by decide) (Nat.le_of_ble_eq_true rfl) (t11_tell_0 M _ hS ?_)
  rw [h1, ix1, xn_c (by omega)]
  refine ⟨fun g hS => ?_, fun g => ?_⟩
  · have g := (xn_le (a := 20000) (by decide) (by omega)).mp g
    refine h _ ⟨fun x k q => by rw [gi_pi, if_neg (by omega)], fun _ _ => rfl⟩ ⟨by rw [gi_pi, if_pos ⟨rfl, rfl⟩, hl], fun j w hj hj2 => ?_⟩ hS
    rw [gi_pi, if_neg (by omega)]
    rw [List.getElem?_append_left (by omega)] at hj
    exact h2 j w hj hj2
  · have g : ¬ 20000 ≤ T.length := fun z => g ((xn_le (a := 20000) (by decide) (by omega)).mpr z)
    rw [gi_pi, if_neg (by omega), h1, ix1]
    refine ⟨xn_in (by omega) (by decide), fun hS => h _ ⟨fun x k q => by rw [gi_pi, if_neg (by omega), gi_pi, if_neg (by omega)], fun _ _ => rfl⟩ ⟨by rw [gi_pi, if_pos ⟨rfl, rfl⟩, hl], fun j w hj hj2 => ?_⟩ hS⟩
    rw [gi_pi, if_neg (by omega), gi_pi]
    by_cases e : j = T.length
    · rw [if_pos ⟨rfl, e⟩]
      rw [e, List.getElem?_append_right (Nat.le_refl _), Nat.sub_self] at hj
      have hj : some v = some w := hj
      cases hj; rfl
    · rw [if_neg (fun z => e z.2)]
      by_cases e2 : j < T.length
      · rw [List.getElem?_append_left e2] at hj
        exact h2 j w hj hj2
      · rw [List.getElem?_eq_none (by rw [hl]; omega)] at hj
        cases hj
/-- one number of a row: what is told -/
theorem lp_tr10 {vi : Int32} {g : Int32 → Int32} {L C : List NsT} {J : xm_M → Prop} (hlen : L.length ≤ 1200) (hC : C.length ≤ 12) (hJ : ∀ M M1, smTl b M M1 → J M → J M1)
    (hone : ∀ (C1 : List NsT) (t : NsT) (T : List Int32) (M : xm_M), t ∈ C → C1.length < 12 → T.length < 1000000 → snM b M T → J M → xm_gi M (b + 154) 26 = Int32.ofNat C.length → C1.length < C.length → (∃ j, j < 1200 ∧ xm_gi M (b + 171) C1.length = Int32.ofNat j ∧ xm_gi M (b + 162) j = t.1) → xm_st b c p M → (∀ M1, smTl b M M1 → snM b M1 (T ++ [g t.1]) → xm_st b c p M1 → xm_X l E y11_tellReason rm11_tellReason Q 10 [(0, .ref (b + 154)), (1, .int vi), (2, .int (Int32.ofNat (C1.length + 1)))] [] 0 0 M1) → xm_X l E y11_tellReason rm11_tellReason Q 10 [(0, .ref (b + 154)), (1, .int vi), (2, .int (Int32.ofNat C1.length))] [] 0 0 M) : ∀ (C2 C1 : List NsT) (T : List Int32) (M : xm_M), C = C1 ++ C2 → T.length + C2.length < 1000000 → lsM b M L → chM b M L C → J M → snM b M T → xm_st b c p M →
    (∀ M1, smTl b M M1 → snM b M1 (T ++ C2.map (fun t => g t.1)) → xm_st b c p M1 → Q none M1) →
    xm_X l E y11_tellReason rm11_tellReason Q 10 [(0, .ref (b + 154)), (1, .int vi), (2, .int (Int32.ofNat C1.length))] [] 0 0 M := by
  intro C2
  induction C2 with
  | nil =>
    intro C1 T M e hl hL hR hN hT hS h
    rw [List.append_nil] at e
    subst e
    refine t11_tellReason_10 M _ _ hS ?_
    rw [hR.1]
    exact ⟨fun _ hS => h M smTl.rf (by show snM b M (T ++ []); rw [List.append_nil]; exact hT) hS, fun g => absurd ((xn_le (by omega) (by omega)).mpr (Nat.le_refl _)) g⟩
  | cons t C2 ih =>
    intro C1 T M e hl hL hR hN hT hS h
    have hl : T.length + (C2.length + 1) < 1000000 := hl
    have hlc : C1.length < C.length := by rw [e, List.length_append]; show _ < _ + (C2.length + 1); omega
    have gs : C[C1.length]? = some t := by rw [e, List.getElem?_append_right (Nat.le_refl _), Nat.sub_self]; rfl
    have hl' : (C1 ++ [t]).length = C1.length + 1 := by rw [List.length_append]; rfl
    obtain ⟨j, j1, j2⟩ := hR.2 _ t gs
    have hjl : j < L.length := (List.getElem?_eq_some_iff.mp j2).1
    refine hone C1 t T M (List.mem_of_getElem? gs) (by omega) (by omega) hT hN hR.1 hlc ⟨j, by omega, j1, (hL.2 j t j2).1⟩ hS (fun M1 s1 t1 hS => ?_)
    have := ih (C1 ++ [t]) (T ++ [g t.1]) M1 (by rw [List.append_assoc]; exact e) (by rw [List.length_append]; show T.length + 1 + _ < _; omega) (hL.tl s1) (hR.tl s1) (hJ M M1 s1 hN) t1 hS (fun M2 s2 t2 hS => h M2 (s1.tr s2) (by rw [List.append_assoc] at t2; exact t2) hS)
    rw [hl'] at this
    exact this
theorem s11_tellReason {i : Nat} {f : Nat → Bool} {o : Int32} {B : Nat → Option Int64} {L C : List NsT} {T : List Int32} {M : xm_M} (hi : i < 48) (hlen : L.length ≤ 1200) (hC : C.length ≤ 12) (hK : ∀ t, t ∈ C → okN o B t) (hTl : T.length + 13 < 1000000) (hL : lsM b M L) (hR : chM b M L C) (ho : xm_gi M (b + 155) i = o) (hN : nrM b M i f) (hT : snM b M T) (hS : xm_st b c p M) (h : ∀ M1, smTl b M M1 → snM b M1 (T ++ tlR (fun n => nmP f o n.toNatClampNeg) C) → xm_st b c p M1 → Q none M1) : xm_C l E y11_tellReason rm11_tellReason [.ref (b + 154), .int (Int32.ofNat i)] M Q := by
  refine xm_enter (by decide) (Nat.le_of_ble_eq_true rfl) (t11_tellReason_0 M _ hS (s11_tell (by omega) hT hS (fun M1 s1 t1 hS => ⟨rfl, hS, fun hS => ?_⟩)))
  rw [hR.1] at t1
  refine lp_tr10 (vi := Int32.ofNat i) (g := fun n => nmP f o n.toNatClampNeg) (L := L) (J := fun M => xm_gi M (b + 155) i = o ∧ nrM b M i f) hlen hC (fun M M1 s q => ⟨by rw [s.1 _ _ (by omega)]; exact q.1, fun k hk => by rw [s.1 _ _ (by omega)]; exact q.2 k hk⟩) (fun C1 t T M ht hC1 hT1 hT hJ h26 hlt hj hS h => ?_) C [] _ M1 rfl (by rw [List.length_append]; show T.length + 1 + _ < _; omega) (hL.tl s1) (hR.tl s1) ⟨by rw [s1.1 _ _ (by omega)]; exact ho, fun k hk => by rw [s1.1 _ _ (by omega)]; exact hN k hk⟩ t1 hS (fun M2 s2 t2 hS => h M2 (s1.tr s2) (by rw [List.append_assoc] at t2; exact t2) hS)
  obtain ⟨j, jl, j1, j2⟩ := hj
  obtain ⟨m, m1, m2, m3, m4⟩ := hK t ht
  have em : t.1.toNatClampNeg = m := by rw [m2, xn_c (by omega)]
  have hle := rkN_le f 100
  have h : ∀ M1, smTl b M M1 → snM b M1 (T ++ [nmP f o m]) → xm_st b c p M1 → xm_X l E y11_tellReason rm11_tellReason Q 10 [(0, .ref (b + 154)), (1, .int (Int32.ofNat i)), (2, .int (Int32.ofNat (C1.length + 1)))] [] 0 0 M1 := fun M1 s1 t1 hS => h M1 s1 (by rw [em]; exact t1) hS
  have eP : nmP f o m = if m < 100 then Int32.ofNat (rkN f m) else if o = 4 then Int32.ofNat (rkN f 100) + Int32.ofNat (rkN f 100) * Int32.ofNat (rkN f ((m - 100) / 100)) + Int32.ofNat (rkN f ((m - 100) % 100)) else Int32.ofNat (rkN f 100) + Int32.ofNat (m - 100) := rfl
  refine t11_tellReason_10 M _ _ hS ?_
  rw [h26, xn_c (show C1.length < 2 ^ 31 by omega), j1, xn_c (show j < 2 ^ 31 by omega), j2, m2, xn_c (show i < 2 ^ 31 by omega), xn_s]
  refine ⟨fun g => ?_, fun _ => ⟨xn_in (by omega) (by decide), xn_in jl (by decide), fun _ => s11_factsAt hi hJ.2 hS (fun hS => ⟨_, rfl, hS, fun g => ⟨xn_in hi (by decide), ?_⟩, fun g => ?_⟩), fun g => ?_⟩⟩
  · have g := (xn_le (by omega) (by omega)).mp g
    omega
  · have g : 100 ≤ m := (xn_le (a := 100) (by decide) (by omega)).mp g
    rw [if_neg (by omega)] at eP
    rw [hJ.1]
    refine ⟨fun g4 => ?_, fun g4 => ?_⟩
    · rw [if_neg g4] at eP
      have ev : Int32.ofNat (rkN f 100) + Int32.ofNat m - (100 : Int32) = nmP f o m := by
        rw [eP, ← Int32.ofNat_add, n100 (by omega), ← Int32.ofNat_add, show rkN f 100 + m - 100 = rkN f 100 + (m - 100) by omega]
      rw [ev]
      exact s11_tell hT1 hT hS (fun M1 s1 t1 hS => ⟨rfl, hS, fun hS => h M1 s1 t1 hS⟩)
    · rw [if_pos g4] at eP
      obtain ⟨p1, _, _⟩ := m4 g g4
      have d1 : (Int32.ofNat m - (100 : Int32)) / (100 : Int32) = Int32.ofNat ((m - 100) / 100) := by rw [n100 g, show (100 : Int32) = Int32.ofNat 100 from rfl, i32_div (by omega) (by decide)]
      have d2 : (Int32.ofNat m - (100 : Int32)) - (Int32.ofNat m - (100 : Int32)) / (100 : Int32) * (100 : Int32) = Int32.ofNat ((m - 100) % 100) := by rw [n100 g, show (100 : Int32) = Int32.ofNat 100 from rfl, i32_mod (by omega) (by decide)]
      rw [d2, d1]
      refine s11_factNumber hi (by omega) hJ.2 hS (fun hS => ⟨_, rfl, hS, s11_factNumber hi (by omega) hJ.2 hS (fun hS => ⟨_, rfl, hS, ?_⟩)⟩)
      rw [← eP]
      exact s11_tell hT1 hT hS (fun M1 s1 t1 hS => ⟨rfl, hS, fun hS => h M1 s1 t1 hS⟩)
  · have g : ¬ 100 ≤ m := fun z => g ((xn_le (a := 100) (by decide) (by omega)).mpr z)
    rw [if_pos (by omega)] at eP
    refine s11_factNumber hi (by omega) hJ.2 hS (fun hS => ⟨_, rfl, hS, ?_⟩)
    rw [← eP]
    exact s11_tell hT1 hT hS (fun M1 s1 t1 hS => ⟨rfl, hS, fun hS => h M1 s1 t1 hS⟩)
  · rw [show (0 : Int32) = Int32.ofNat 0 from rfl] at g
    exact absurd ((xn_le (by decide) (by omega)).mpr (Nat.zero_le _)) g
theorem s11_tellReason0 {L C : List NsT} {T : List Int32} {M : xm_M} (hlen : L.length ≤ 1200) (hC : C.length ≤ 12) (hTl : T.length + 13 < 1000000) (hL : lsM b M L) (hR : chM b M L C) (hT : snM b M T) (hS : xm_st b c p M) (h : ∀ M1, smTl b M M1 → snM b M1 (T ++ tlR (fun n => n) C) → xm_st b c p M1 → Q none M1) : xm_C l E y11_tellReason rm11_tellReason [.ref (b + 154), .int (-1)] M Q := by
  refine xm_enter (by decide) (Nat.le_of_ble_eq_true rfl) (t11_tellReason_0 M _ hS (s11_tell (by omega) hT hS (fun M1 s1 t1 hS => ⟨rfl, hS, fun hS => ?_⟩)))
  rw [hR.1] at t1
  refine lp_tr10 (vi := -1) (g := fun n => n) (L := L) (J := fun _ => True) hlen hC (fun _ _ _ _ => trivial) (fun C1 t T M ht hC1 hT1 hT hJ h26 hlt hj hS h => ?_) C [] _ M1 rfl (by rw [List.length_append]; show T.length + 1 + _ < _; omega) (hL.tl s1) (hR.tl s1) trivial t1 hS (fun M2 s2 t2 hS => h M2 (s1.tr s2) (by rw [List.append_assoc] at t2; exact t2) hS)
  obtain ⟨j, jl, j1, j2⟩ := hj
  refine t11_tellReason_10 M _ _ hS ?_
  rw [h26, xn_c (show C1.length < 2 ^ 31 by omega), j1, xn_c (show j < 2 ^ 31 by omega), j2, xn_s]
  refine ⟨fun g => ?_, fun _ => ⟨xn_in (by omega) (by decide), xn_in jl (by decide), fun g => absurd g (by decide), fun _ => s11_tell hT1 hT hS (fun M1 s1 t1 hS => ⟨rfl, hS, fun hS => h M1 s1 t1 hS⟩)⟩⟩
  have g := (xn_le (by omega) (by omega)).mp g
  omega
/-- the facts -/
theorem lp_tf34 {i : Nat} (hF : fOk F n) (hi : i < n) (hl : s.1 i = true) {f : Nat → Bool} {B : Nat → Option Int64} : ∀ (k j : Nat) (T : List Int32) (M : xm_M), j + k = 100 → T.length + 3 * k < 1000000 → cnM b M F n least s → nrM b M i f → bvM b M i f B → snM b M T → xm_st b c p M →
    (∀ M1, smTl b M M1 → snM b M1 (T ++ prL f B k j) → xm_st b c p M1 → xm_X l E y11_tellFacts rm11_tellFacts Q 2 [(0, .ref (b + 154)), (1, .int (Int32.ofNat (i + 1)))] [] 0 0 M1) →
    xm_X l E y11_tellFacts rm11_tellFacts Q 34 [(0, .ref (b + 154)), (1, .int (Int32.ofNat i)), (2, .int (Int32.ofNat j))] [] 0 0 M := by
  have hi48 : i < 48 := by have := hF.1; omega
  intro k
  induction k with
  | zero =>
    intro j T M hj hTl hC hN hV hT hS h
    refine t11_tellFacts_34 M _ _ hS ⟨fun _ hS => ?_, fun g => absurd (by rw [show j = 100 by omega]; decide) g⟩
    rw [xn_s]
    exact h M smTl.rf (by show snM b M (T ++ []); rw [List.append_nil]; exact hT) hS
  | succ k ih =>
    intro j T M hj hTl hC hN hV hT hS h
    have hj100 : j < 100 := by omega
    have ix : vp_in (Int32.ofNat (100 * i + j)) 4800 := xn_in (by omega) (by decide)
    refine t11_tellFacts_34 M _ _ hS ⟨fun g => ?_, fun _ => ⟨xn_in hi48 (by decide), ?_⟩⟩
    · have g := (xn_le (a := 100) (by decide) (by omega)).mp g
      omega
    have ep : prL f B (k + 1) j = (if f j = true then [Int32.ofNat (j / 10), Int32.ofNat (j % 10), bwI (B j)] else []) ++ prL f B k (j + 1) := rfl
    rw [xn_c (show i < 2 ^ 31 by omega), (hC.2.1 i hi).1, hl, ixH, xn_c (show 100 * i + j < 2 ^ 31 by omega), hN j hj100, show (10 : Int32) = Int32.ofNat 10 from rfl, i32_mod (by omega) (by decide), i32_div (by omega) (by decide), xn_s j]
    refine ⟨fun z => absurd z (by decide), fun _ => ⟨ix, fun g => ?_, fun g hS => ?_⟩⟩
    · have fj := xz_ne g
      rw [if_pos fj] at ep
      rw [ep] at h
      obtain ⟨w, w1, w2, w3⟩ := hV j hj100 fj
      have len1 : ∀ v : Int32, (T ++ [v]).length = T.length + 1 := fun v => by rw [List.length_append]; rfl
      refine s11_tell (by omega) hT hS (fun M1 s1 t1 hS => ⟨rfl, hS, s11_tell (by rw [len1]; omega) t1 hS (fun M2 s2 t2 hS => ⟨rfl, hS, ix, ?_⟩)⟩)
      rw [s2.2, s1.2, w3]
      refine s11_tell (by rw [List.length_append, len1]; show T.length + 1 + 1 < _; omega) t2 hS (fun M3 s3 t3 hS => ⟨rfl, hS, fun hS => ?_⟩)
      have s13 : smTl b M M3 := s1.tr (s2.tr s3)
      refine ih (j + 1) _ M3 (by omega) (by rw [List.length_append, List.length_append, len1]; show T.length + 1 + 1 + 1 + _ < _; omega) (hC.te s13.te) (fun k hk => by rw [s13.1 _ _ (by omega)]; exact hN k hk) (fun j hj q => by rw [s13.2]; exact hV j hj q) t3 hS (fun M4 s4 t4 hS => h M4 (s13.tr s4) ?_ hS)
      rw [w1]
      rw [List.append_assoc, List.append_assoc, List.append_assoc] at t4
      exact t4
    · rw [if_neg (fun z => by rw [xz_0.mp g] at z; cases z), List.nil_append] at ep
      rw [ep] at h
      exact ih (j + 1) T M (by omega) (by omega) hC hN hV hT hS h
theorem prL_no {B : Nat → Option Int64} : ∀ k j, prL noN B k j = []
  | 0, _ => rfl
  | k + 1, j => prL_no k (j + 1)
theorem prL_len {f : Nat → Bool} {B : Nat → Option Int64} : ∀ k j, (prL f B k j).length ≤ 3 * k
  | 0, _ => Nat.le_refl 0
  | k + 1, j => by
    have := prL_len (f := f) (B := B) k (j + 1)
    show ((if f j = true then [Int32.ofNat (j / 10), Int32.ofNat (j % 10), bwI (B j)] else []) ++ prL f B k (j + 1)).length ≤ _
    rw [List.length_append]
    by_cases g : f j = true
    · rw [if_pos g]; show 3 + _ ≤ _; omega
    · rw [if_neg g]; show 0 + _ ≤ _; omega
theorem lp_tf2 (hF : fOk F n) (hO : bdOk s) (hG : ndG F s nd n) : ∀ (k i : Nat) (T : List Int32) (M : xm_M), i + k = n → T.length + 301 * k < 900000 → cnM b M F n least s → (∀ x, x < n → nrM b M x (nd x)) → snM b M T → xm_st b c p M →
    (∀ M1, smTl b M M1 → snM b M1 (T ++ fcT s nd k i) → xm_st b c p M1 → Q none M1) →
    xm_X l E y11_tellFacts rm11_tellFacts Q 2 [(0, .ref (b + 154)), (1, .int (Int32.ofNat i))] [] 0 0 M := by
  have hn48 : n ≤ 48 := hF.1
  have hp := ndG_p hF hG
  intro k
  induction k with
  | zero =>
    intro i T M hi hTl hC hN hT hS h
    refine t11_tellFacts_2 M _ hS ?_
    rw [hC.2.2.2.1]
    exact ⟨fun _ hS => h M smTl.rf (by show snM b M (T ++ []); rw [List.append_nil]; exact hT) hS, fun g => absurd ((xn_le (by omega) (by omega)).mpr (by omega)) g⟩
  | succ k ih =>
    intro i T M hi hTl hC hN hT hS h
    have hin : i < n := by omega
    have hi48 : i < 48 := by omega
    have hl0 : T.length + 1 + 300 < 1000000 := Nat.lt_of_le_of_lt (show T.length + 1 + 300 ≤ T.length + 301 * (k + 1) by omega) (Nat.lt_trans hTl (by decide))
    have hl1 : ∀ v : Int32, (T ++ [v]).length + 300 < 1000000 := fun v => by rw [List.length_append, List.length_singleton]; exact hl0
    refine t11_tellFacts_2 M _ hS ?_
    rw [hC.2.2.2.1, xn_c (show i < 2 ^ 31 by omega), (hC.2.1 i hin).1]
    have nx : ∀ N, smTl b M N → snM b N (T ++ ((if s.1 i = true then Int32.ofNat (rkN (nd i) 100) else -1) :: prL (nd i) (s.2 i) 100 0)) → xm_st b c p N → xm_X l E y11_tellFacts rm11_tellFacts Q 2 [(0, .ref (b + 154)), (1, .int (Int32.ofNat (i + 1)))] [] 0 0 N := fun N sN tN hS => by
      have pl := prL_len (f := nd i) (B := s.2 i) 100 0
      refine ih (i + 1) _ N (by omega) (by rw [List.length_append]; show T.length + ((prL (nd i) (s.2 i) 100 0).length + 1) + _ < _; omega) (hC.te sN.te) (fun x hx => (hN x hx).te sN.te) tN hS (fun M1 s1 t1 hS => h M1 (sN.tr s1) ?_ hS)
      show snM b M1 (T ++ (((if s.1 i = true then Int32.ofNat (rkN (nd i) 100) else -1) :: prL (nd i) (s.2 i) 100 0) ++ fcT s nd k (i + 1)))
      rw [List.append_assoc] at t1
      exact t1
    refine ⟨fun g => ?_, fun _ => ⟨xn_in hi48 (by decide), fun g => ?_, fun g => ?_⟩⟩
    · have g := (xn_le (by omega) (by omega)).mp g
      omega
    · have lf := xz_0.mp g
      have nn : nd i = noN := (hG i hin).2 (fun z => by rw [lf] at z; cases z)
      rw [if_neg (fun z => by rw [lf] at z; cases z), nn, prL_no] at nx
      refine s11_tell (by omega) hT hS (fun M1 s1 t1 hS => ⟨rfl, hS, fun hS => ?_⟩)
      refine t11_tellFacts_34 M1 _ _ hS ⟨fun g => absurd g (by decide), fun _ => ⟨xn_in hi48 (by decide), ?_⟩⟩
      rw [xn_c (show i < 2 ^ 31 by omega), ((hC.te s1.te).2.1 i hin).1, lf, xn_s]
      exact ⟨fun _ hS => nx M1 s1 t1 hS, fun z => absurd rfl z⟩
    · have lt := xz_ne g
      rw [if_pos lt] at nx
      refine s11_factsAt hi48 (hN i hin) hS (fun hS => ⟨_, rfl, hS, s11_tell (by omega) hT hS (fun M1 s1 t1 hS => ⟨rfl, hS, fun hS => ?_⟩)⟩)
      refine lp_tf34 (f := nd i) (B := s.2 i) hF hin lt 100 0 _ M1 rfl (hl1 _) (hC.te s1.te) ((hN i hin).te s1.te) (fun j hj hf => ?_) t1 hS (fun M2 s2 t2 hS => nx M2 (s1.tr s2) (by rw [List.append_assoc] at t2; exact t2) hS)
      obtain ⟨_, _, h3⟩ := hp i hin j hf
      obtain ⟨w, hw⟩ := some_is h3
      exact ⟨w, hw, (hO i lt).1 j w hj hw, by rw [s1.2, (hC.2.1 i hin).2 lt j hj, hw]; rfl⟩
end TM
