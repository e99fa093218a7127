/-! the class's two sinks -/
theorem mkI_app {o : Int32} {R S : List ItT} {f : Nat → Bool} : mkI o (R ++ S) f = mkI o S (mkI o R f) := List.foldl_append
/-- only needs of instruction i -/
def smNd (b i : Nat) (M N : xm_M) : Prop := (∀ x k, ¬ ((x = b + 107 ∧ 100 * i ≤ k ∧ k < 100 * i + 100) ∨ (x = b + 108 ∧ k = i)) → xm_gi N x k = xm_gi M x k) ∧ ∀ x k, xm_gl N x k = xm_gl M x k
theorem smNd.rf {b i : Nat} {M : xm_M} : smNd b i M M := ⟨fun _ _ _ => rfl, fun _ _ => rfl⟩
theorem smNd.tr {b i : Nat} {M N P : xm_M} (h : smNd b i M N) (g : smNd b i N P) : smNd b i M P := ⟨fun x k q => (g.1 x k q).trans (h.1 x k q), fun x k => (g.2 x k).trans (h.2 x k)⟩
theorem smNd.u {b i : Nat} {M N : xm_M} (h : smNd b i M N) : smU b i M N := ⟨fun x k q => h.1 x k (by omega), fun x k q => h.2 x k⟩
def nkX (b : Nat) (M : xm_M) (i : Nat) (f : Nat → Bool) : Prop := nrX b M i f ∧ xm_gi M (b + 108) i = Int32.ofNat (rkN f 100)
section SK
variable {l : Launch} {E : xm_E} {b : Nat} {c : Bool} {Q : Option Value → xm_M → Prop}
theorem s5_need {i x : Nat} {f : Nat → Bool} {M : xm_M} (hi : i < 48) (hx : x < 100) (hN : nkX b M i f) (hS : xm_st b c true M) (h : ∀ M1, smNd b i M M1 → nkX b M1 i (st1 f x) → xm_st b c true M1 → Q none M1) : xm_C l E y5_need rm5_need [.ref (b + 55), .int (Int32.ofNat i), .int (Int32.ofNat x)] M Q := by
  have ix : vp_in (Int32.ofNat (100 * i + x)) 4800 := xn_in (by omega) (by decide)
  have ii : vp_in (Int32.ofNat i) 48 := xn_in hi (by decide)
  have hk := rk_st (f := f) (x := x) 100
  rw [if_pos hx] at hk
  have hle := rkN_le f 100
  refine xm_enter (by decide) (Nat.le_of_ble_eq_true rfl) (t5_need_0 (p := true) M _ _ hS ?_)
  rw [ixH, xn_c (show 100 * i + x < 2 ^ 31 by omega), hN.1 x hx, xn_c (show i < 2 ^ 31 by omega)]
  refine ⟨ix, fun g hS => h M smNd.rf ⟨fun k hkk => ?_, ?_⟩ hS, fun g => ⟨ix, ii, ii, ?_⟩⟩
  · have fx := xz_ne g
    rw [hN.1 k hkk]
    unfold st1
    by_cases e : k = x
    · rw [if_pos e, e, fx]
    · rw [if_neg e]
  · have fx := xz_ne g
    rw [hk, if_pos fx, show rkN f 100 + 0 = rkN f 100 from Nat.add_zero _]; exact hN.2
  · have fx := xz_0.mp g
    rw [gi_pi, if_neg (by omega), hN.2, ix1]
    intro hS
    refine h _ ⟨fun y k q => by rw [gi_pi, if_neg (by omega), gi_pi, if_neg (by omega)], fun _ _ => rfl⟩ ⟨fun k hkk => ?_, ?_⟩ hS
    · rw [gi_pi, if_neg (by omega), gi_pi]
      unfold st1
      by_cases e : k = x
      · rw [if_pos ⟨rfl, by omega⟩, if_pos e]; rfl
      · rw [if_neg (by omega), if_neg e]; exact hN.1 k hkk
    · rw [gi_pi, if_pos ⟨rfl, rfl⟩, hk, fx]; rfl
theorem n100 {m : Nat} (h1 : 100 ≤ m) : Int32.ofNat m - (100 : Int32) = Int32.ofNat (m - 100) := by
  have : Int32.ofNat m = Int32.ofNat (m - 100) + 100 := by
    rw [show (100 : Int32) = Int32.ofNat 100 from rfl, ← Int32.ofNat_add, show m - 100 + 100 = m by omega]
  rw [this, Int32.add_sub_cancel]
theorem s5_needPartsOf {i : Nat} {f : Nat → Bool} {o : Int32} {B : Nat → Option Int64} {s : NsT} {M : xm_M} (hi : i < 48) (hs : okN o B s) (ho : xm_gi M (b + 3 + i) 0 = o) (hN : nkX b M i f) (hS : xm_st b c true M) (h : ∀ M1, smNd b i M M1 → nkX b M1 i (mk1 o s.1.toNatClampNeg f) → xm_st b c true M1 → Q none M1) : xm_C l E y5_needPartsOf rm5_needPartsOf [.ref (b + 55), .int (Int32.ofNat i), .int s.1] M Q := by
  obtain ⟨m, m1, m2, m3, m4⟩ := hs
  rw [m2, xn_c (by omega)] at h
  rw [m2]
  have e1 : mk1 o m f = if m < 100 then st1 f m else if o = 4 then st1 (st1 f ((m - 100) / 100)) ((m - 100) % 100) else f := rfl
  refine xm_enter (by decide) (Nat.le_of_ble_eq_true rfl) (t5_needPartsOf_0 (p := true) M _ _ hS ⟨fun g => ⟨xn_in hi (by decide), ?_⟩, fun g => ?_⟩)
  · have g : 100 ≤ m := (xn_le (a := 100) (by decide) (by omega)).mp g
    rw [if_neg (by omega)] at e1
    rw [e1] at h
    rw [xn_c (show i < 2 ^ 31 by omega), ho, n100 g, show (100 : Int32) = Int32.ofNat 100 from rfl, i32_mod (by omega) (by decide), i32_div (by omega) (by decide)]
    refine ⟨fun g4 hS => ?_, fun g4 => ?_⟩
    · rw [if_neg g4] at h
      exact h M smNd.rf hN hS
    · rw [if_pos g4] at h
      obtain ⟨p1, _, _⟩ := m4 g g4
      refine s5_need hi p1 hN hS (fun M1 s1 n1 hS => ⟨rfl, hS, s5_need hi (by omega) n1 hS (fun M2 s2 n2 hS => ⟨rfl, hS, fun hS => h M2 (s1.tr s2) n2 hS⟩)⟩)
  · have g : ¬ 100 ≤ m := fun z => g ((xn_le (a := 100) (by decide) (by omega)).mpr z)
    rw [if_pos (by omega)] at e1
    rw [e1] at h
    exact s5_need hi (by omega) hN hS (fun M1 s1 n1 hS => ⟨rfl, hS, fun hS => h M1 s1 n1 hS⟩)
/-- the needs -/
def Pn (b i : Nat) (o : Int32) (R : List ItT) (M : xm_M) : Prop := xm_gi M (b + 55) 10 = 0 ∧ nkX b M i (mkI o R noN) ∧ xm_gi M (b + 3 + i) 0 = o ∧ xm_gi M (b + 55) 11 = 1 ∧ xm_gi M (b + 51) 1 = 0
theorem s5_put_n {v : Int32} {M : xm_M} (h10 : xm_gi M (b + 55) 10 = 0) (hS : xm_st b c true M) (h : xm_st b c true M → Q none M) : xm_C l E y5_put rm5_put [.ref (b + 55), .int v] M Q :=
  xm_enter (by decide) (Nat.le_of_ble_eq_true rfl) (t5_put_0 (p := true) M _ hS ⟨fun _ => h, fun z => absurd h10 z⟩)
theorem lp_gw13n {i : Nat} {o : Int32} {B : Nat → Option Int64} {C : List NsT} (hi : i < 48) (hC : C.length ≤ 12) (hK : ∀ s, s ∈ C → okN o B s) : ∀ (C2 C1 : List NsT) (f : Nat → Bool) (M : xm_M), C = C1 ++ C2 → xm_gi M (b + 55) 10 = 0 → xm_gi M (b + 3 + i) 0 = o → rowX b M C → nkX b M i f → xm_st b c true M →
    (∀ M1, smNd b i M M1 → nkX b M1 i (mkR o C2 f) → xm_st b c true M1 → Q (some (.int 1)) M1) →
    xm_X l E y5_giveRow rm5_giveRow Q 13 [(0, .ref (b + 55)), (1, .int (Int32.ofNat i)), (2, .int (Int32.ofNat C1.length))] [] 0 0 M := by
  intro C2
  induction C2 with
  | nil =>
    intro C1 f M e h10 ho hR hN hS h
    rw [List.append_nil] at e
    subst e
    refine t5_giveRow_13 (p := true) M _ _ hS ?_
    rw [hR.1]
    exact ⟨fun _ hS => h M smNd.rf hN hS, fun g => absurd ((xn_le (by omega) (by omega)).mpr (Nat.le_refl _)) g⟩
  | cons s C2 ih =>
    intro C1 f M e h10 ho hR hN hS h
    have hl : C1.length < C.length := by rw [e, List.length_append]; show _ < _ + (C2.length + 1); omega
    have gs : C[C1.length]? = some s := by rw [e, List.getElem?_append_right (Nat.le_refl _), Nat.sub_self]; rfl
    have hl' : (C1 ++ [s]).length = C1.length + 1 := by rw [List.length_append]; rfl
    refine t5_giveRow_13 (p := true) M _ _ hS ?_
    rw [hR.1, h10, xn_c (show C1.length < 2 ^ 31 by omega), hR.2 _ s gs, xn_s]
    refine ⟨fun g => ?_, fun _ => ⟨fun _ => ⟨xn_in (by omega) (by decide), s5_needPartsOf hi (hK s (List.mem_of_getElem? gs)) ho hN hS (fun M1 s1 n1 hS => ⟨rfl, hS, fun hS => ?_⟩)⟩, fun z => absurd rfl z⟩⟩
    · have g := (xn_le (by omega) (by omega)).mp g
      omega
    · have := ih (C1 ++ [s]) _ M1 (by rw [List.append_assoc]; exact e) (by rw [s1.1 _ _ (by omega)]; exact h10) (by rw [s1.1 _ _ (by omega)]; exact ho) ⟨by rw [s1.1 _ _ (by omega)]; exact hR.1, fun j t ht => by rw [s1.1 _ _ (by omega)]; exact hR.2 j t ht⟩ n1 hS (fun M2 s2 n2 hS => h M2 (s1.tr s2) n2 hS)
      rw [hl'] at this
      exact this
theorem sk_n {i : Nat} {o : Int32} {B : Nat → Option Int64} (hi : i < 48) : SkT l E b c i (Int32.ofNat i) (okN o B) (Pn b i o) := by
  refine ⟨fun R M N s hP => ⟨by rw [s.1 _ _ (by omega)]; exact hP.1, ⟨fun k hk => by rw [s.1 _ _ (by omega)]; exact hP.2.1.1 k hk, by rw [s.1 _ _ (by omega)]; exact hP.2.1.2⟩, by rw [s.1 _ _ (by omega)]; exact hP.2.2.1, by rw [s.1 _ _ (by omega)]; exact hP.2.2.2.1, by rw [s.1 _ _ (by omega)]; exact hP.2.2.2.2⟩, fun Q R v M hP hS h => s5_put_n hP.1 hS (fun hS => h M ⟨fun _ _ _ => rfl, fun _ _ => rfl⟩ ⟨hP.1, by rw [mkI_app]; exact hP.2.1, hP.2.2⟩ hS), fun Q R C M hC hK hP hR hS h => ?_⟩
  refine xm_enter (by decide) (Nat.le_of_ble_eq_true rfl) (t5_giveRow_0 (p := true) M _ hS (s5_put_n hP.1 hS (fun hS => ⟨rfl, hS, fun hS => lp_gw13n hi hC hK C [] (mkI o R noN) M rfl hP.1 hP.2.2.1 hR hP.2.1 hS (fun M1 s1 n1 hS => h M1 s1.u ⟨by rw [s1.1 _ _ (by omega)]; exact hP.1, by rw [mkI_app]; exact n1, by rw [s1.1 _ _ (by omega)]; exact hP.2.2.1, by rw [s1.1 _ _ (by omega)]; exact hP.2.2.2.1, by rw [s1.1 _ _ (by omega)]; exact hP.2.2.2.2⟩ hS)⟩)))
/-- the tape as it is written -/
def snT (b : Nat) (M : xm_M) (T : List Int32) : Prop := xm_gi M (b + 55) 10 = 1 ∧ xm_gi M (b + 51) 1 = Int32.ofNat (min T.length 20000) ∧ (∀ j v, T[j]? = some v → j < 20000 → xm_gi M (b + 52) j = v) ∧ xm_gi M (b + 55) 11 = xz (decide (T.length ≤ 20000))
theorem s5_put_w {v : Int32} {T : List Int32} {M : xm_M} (hT : snT b M T) (hS : xm_st b c true M) (h : ∀ M1, smPt b M M1 → snT b M1 (T ++ [v]) → xm_st b c true M1 → Q none M1) : xm_C l E y5_put rm5_put [.ref (b + 55), .int v] M Q := by
  obtain ⟨h1, h2, h3, h4⟩ := hT
  have hlen : (T ++ [v]).length = T.length + 1 := by rw [List.length_append]; rfl
  refine xm_enter (by decide) (Nat.le_of_ble_eq_true rfl) (t5_put_0 (p := true) M _ hS ⟨fun z => absurd (h1.symm.trans z) (by decide), fun _ => xm_enter (by decide) (Nat.le_of_ble_eq_true rfl) (t3_append_0 M _ hS ?_)⟩)
  rw [h2]
  refine ⟨fun g => ?_, fun g hS => ⟨false, rfl, hS, fun z => absurd rfl z, fun _ hS => ?_⟩⟩
  · have g : min T.length 20000 < 20000 := (xn_lt (by omega) (by decide)).mp g
    have em : min T.length 20000 = T.length := by omega
    rw [em, xn_c (by omega), gi_pi, if_neg (by omega), h2, em, ix1]
    refine ⟨xn_in (by omega) (by decide), fun hS => ⟨true, rfl, hS, fun _ hS => h _ ⟨fun x k q => by rw [gi_pi, if_neg (by omega), gi_pi, if_neg (by omega)], fun _ _ => rfl⟩ ⟨?_, ?_, fun j w hj hj2 => ?_, ?_⟩ hS, fun z => absurd z (by decide)⟩⟩
    · rw [gi_pi, if_neg (by omega), gi_pi, if_neg (by omega)]; exact h1
    · rw [gi_pi, if_pos ⟨rfl, rfl⟩, hlen, show min (T.length + 1) 20000 = T.length + 1 by omega]
    · rw [gi_pi, if_neg (by omega), gi_pi]
      by_cases e : j = T.length
      · rw [if_pos ⟨rfl, e⟩]
        rw [e, List.getElem?_append_right (Nat.le_refl _), Nat.sub_self] at hj
        have hj : some v = some w := hj
        cases hj; rfl
      · rw [if_neg (fun z => e z.2)]
        by_cases e2 : j < T.length
        · rw [List.getElem?_append_left e2] at hj
          exact h3 j w hj hj2
        · rw [List.getElem?_eq_none (by rw [hlen]; omega)] at hj
          cases hj
    · rw [gi_pi, if_neg (by omega), gi_pi, if_neg (by omega), h4, hlen, decide_eq_true (show T.length ≤ 20000 by omega), decide_eq_true (show T.length + 1 ≤ 20000 by omega)]
  · have g : ¬ min T.length 20000 < 20000 := fun z => g ((xn_lt (by omega) (by decide)).mpr z)
    refine h _ ⟨fun x k q => by rw [gi_pi, if_neg (by omega)], fun _ _ => rfl⟩ ⟨?_, ?_, fun j w hj hj2 => ?_, ?_⟩ hS
    · rw [gi_pi, if_neg (by omega)]; exact h1
    · rw [gi_pi, if_neg (by omega), h2, hlen, show min (T.length + 1) 20000 = min T.length 20000 by omega]
    · rw [gi_pi, if_neg (by omega)]
      rw [List.getElem?_append_left (by omega)] at hj
      exact h3 j w hj hj2
    · rw [gi_pi, if_pos ⟨rfl, rfl⟩, hlen, decide_eq_false (by omega)]; rfl
def tlR (g : Int32 → Int32) (C : List NsT) : List Int32 := Int32.ofNat C.length :: C.map (fun s => g s.1)
def tlI (g : Int32 → Int32) : List ItT → List Int32
  | [] => []
  | .inl v :: R => v :: tlI g R
  | .inr C :: R => tlR g C ++ tlI g R
theorem tlI_app {g : Int32 → Int32} {S : List ItT} : ∀ R : List ItT, tlI g (R ++ S) = tlI g R ++ tlI g S
  | [] => rfl
  | .inl v :: R => congrArg (v :: ·) (tlI_app R)
  | .inr C :: R => by
    show tlR g C ++ tlI g (R ++ S) = tlR g C ++ tlI g R ++ tlI g S
    rw [tlI_app R, List.append_assoc]
def Pw (b : Nat) (g : Int32 → Int32) (N : xm_M → Prop) (T0 : List Int32) (R : List ItT) (M : xm_M) : Prop := snT b M (T0 ++ tlI g R) ∧ N M
theorem lp_gw13w {vi : Int32} {g : Int32 → Int32} {N : xm_M → Prop} {K : NsT → Prop} {C : List NsT} (hNp : ∀ M M1, smPt b M M1 → N M → N M1) (hnum : ∀ (Q : Option Value → xm_M → Prop) s M, K s → N M → xm_st b c true M → (xm_st b c true M → Q (some (.int (g s.1))) M) → xm_C l E y5_numberInProof rm5_numberInProof [.ref (b + 55), .int vi, .int s.1] M Q) (hC : C.length ≤ 12) (hK : ∀ s, s ∈ C → K s) : ∀ (C2 C1 : List NsT) (T : List Int32) (M : xm_M), C = C1 ++ C2 → snT b M T → N M → rowX b M C → xm_st b c true M →
    (∀ M1, smPt b M M1 → snT b M1 (T ++ C2.map (fun s => g s.1)) → N M1 → xm_st b c true M1 → Q (some (.int 1)) M1) →
    xm_X l E y5_giveRow rm5_giveRow Q 13 [(0, .ref (b + 55)), (1, .int vi), (2, .int (Int32.ofNat C1.length))] [] 0 0 M := by
  intro C2
  induction C2 with
  | nil =>
    intro C1 T M e hT hN hR hS h
    rw [List.append_nil] at e
    subst e
    refine t5_giveRow_13 (p := true) M _ _ hS ?_
    rw [hR.1]
    exact ⟨fun _ hS => h M ⟨fun _ _ _ => rfl, fun _ _ => rfl⟩ (by show snT b M (T ++ []); rw [List.append_nil]; exact hT) hN hS, fun g => absurd ((xn_le (by omega) (by omega)).mpr (Nat.le_refl _)) g⟩
  | cons s C2 ih =>
    intro C1 T M e hT hN hR hS h
    have hl : C1.length < C.length := by rw [e, List.length_append]; show _ < _ + (C2.length + 1); omega
    have gs : C[C1.length]? = some s := by rw [e, List.getElem?_append_right (Nat.le_refl _), Nat.sub_self]; rfl
    have hl' : (C1 ++ [s]).length = C1.length + 1 := by rw [List.length_append]; rfl
    refine t5_giveRow_13 (p := true) M _ _ hS ?_
    rw [hR.1, hT.1, xn_c (show C1.length < 2 ^ 31 by omega), hR.2 _ s gs, xn_s]
    refine ⟨fun g => ?_, fun _ => ⟨fun z => absurd z (by decide), fun _ => ⟨xn_in (by omega) (by decide), hnum _ s M (hK s (List.mem_of_getElem? gs)) hN hS (fun hS => ⟨_, rfl, hS, s5_put_w hT hS (fun M1 s1 t1 hS => ⟨rfl, hS, fun hS => ?_⟩)⟩)⟩⟩⟩
    · have g := (xn_le (by omega) (by omega)).mp g
      omega
    · have := ih (C1 ++ [s]) _ M1 (by rw [List.append_assoc]; exact e) t1 (hNp M M1 s1 hN) (hR.pt s1) hS (fun M2 s2 t2 n2 hS => h M2 ⟨fun x k q => (s2.1 x k q).trans (s1.1 x k q), fun x k => (s2.2 x k).trans (s1.2 x k)⟩ (by rw [List.append_assoc] at t2; exact t2) n2 hS)
      rw [hl'] at this
      exact this
theorem sk_w {i : Nat} {vi : Int32} {g : Int32 → Int32} {N : xm_M → Prop} {K : NsT → Prop} {T0 : List Int32} (hNt : ∀ M M1, smT9 b M M1 → N M → N M1) (hNp : ∀ M M1, smPt b M M1 → N M → N M1) (hnum : ∀ (Q : Option Value → xm_M → Prop) s M, K s → N M → xm_st b c true M → (xm_st b c true M → Q (some (.int (g s.1))) M) → xm_C l E y5_numberInProof rm5_numberInProof [.ref (b + 55), .int vi, .int s.1] M Q) : SkT l E b c i vi K (Pw b g N T0) := by
  refine ⟨fun R M M1 s hP => ⟨⟨by rw [s.1 _ _ (by omega)]; exact hP.1.1, by rw [s.1 _ _ (by omega)]; exact hP.1.2.1, fun j v hj hj2 => by rw [s.1 _ _ (by omega)]; exact hP.1.2.2.1 j v hj hj2, by rw [s.1 _ _ (by omega)]; exact hP.1.2.2.2⟩, hNt M M1 s hP.2⟩, fun Q R v M hP hS h => s5_put_w hP.1 hS (fun M1 s1 t1 hS => h M1 s1 ⟨by rw [tlI_app, ← List.append_assoc]; exact t1, hNp M M1 s1 hP.2⟩ hS), fun Q R C M hC hK hP hR hS h => ?_⟩
  refine xm_enter (by decide) (Nat.le_of_ble_eq_true rfl) (t5_giveRow_0 (p := true) M _ hS (s5_put_w hP.1 hS (fun M1 s1 t1 hS => ⟨rfl, hS, fun hS => ?_⟩)))
  rw [hR.1] at t1
  refine lp_gw13w hNp hnum hC hK C [] _ M1 rfl t1 (hNp M M1 s1 hP.2) (hR.pt s1) hS (fun M2 s2 t2 n2 hS => h M2 (s1.u.tr s2.u) ⟨?_, n2⟩ hS)
  rw [tlI_app, ← List.append_assoc]
  rw [List.append_assoc] at t2
  have e : tlI g [Sum.inr C] = [Int32.ofNat C.length] ++ C.map (fun s => g s.1) := by show tlR g C ++ [] = _; rw [List.append_nil]; rfl
  rw [e]
  exact t2
/-- numbers in the proof -/
def nmP (f : Nat → Bool) (o : Int32) (m : Nat) : Int32 := if m < 100 then Int32.ofNat (rkN f m) else if o = 4 then Int32.ofNat (rkN f 100) + Int32.ofNat (rkN f 100) * Int32.ofNat (rkN f ((m - 100) / 100)) + Int32.ofNat (rkN f ((m - 100) % 100)) else Int32.ofNat (rkN f 100) + Int32.ofNat (m - 100)
def nmX (b i : Nat) (f : Nat → Bool) (o : Int32) (M : xm_M) : Prop := (∀ k, k < 100 → xm_gi M (b + 109) k = Int32.ofNat (rkN f k)) ∧ xm_gi M (b + 108) i = Int32.ofNat (rkN f 100) ∧ xm_gi M (b + 3 + i) 0 = o
theorem s5_number {i : Nat} {f : Nat → Bool} {o : Int32} {B : Nat → Option Int64} {s : NsT} {M : xm_M} (hi : i < 48) (hs : okN o B s) (hN : nmX b i f o M) (hS : xm_st b c true M) (h : xm_st b c true M → Q (some (.int (nmP f o s.1.toNatClampNeg))) M) : xm_C l E y5_numberInProof rm5_numberInProof [.ref (b + 55), .int (Int32.ofNat i), .int s.1] M Q := by
  obtain ⟨m, m1, m2, m3, m4⟩ := hs
  rw [m2, xn_c (by omega)] at h
  rw [m2]
  unfold nmP at h
  refine xm_enter (by decide) (Nat.le_of_ble_eq_true rfl) (t5_numberInProof_0 (p := true) M _ _ hS ⟨fun _ => ⟨fun g => ⟨xn_in hi (by decide), xn_in hi (by decide), ?_⟩, fun g => ?_⟩, fun z => ?_⟩)
  · have g : 100 ≤ m := (xn_le (a := 100) (by decide) (by omega)).mp g
    rw [if_neg (by omega)] at h
    rw [xn_c (show i < 2 ^ 31 by omega), hN.2.2, n100 g, show (100 : Int32) = Int32.ofNat 100 from rfl, i32_mod (by omega) (by decide), i32_div (by omega) (by decide), hN.2.1]
    refine ⟨fun g4 => ?_, fun g4 => ?_⟩
    · rw [if_pos g4] at h
      obtain ⟨p1, _, _⟩ := m4 g g4
      refine ⟨xn_in p1 (by decide), xn_in (by omega) (by decide), ?_⟩
      rw [xn_c (by omega), xn_c (by omega), hN.1 _ p1, hN.1 _ (by omega)]
      exact h
    · rw [if_neg g4] at h
      exact h
  · have g : ¬ 100 ≤ m := fun z => g ((xn_le (a := 100) (by decide) (by omega)).mpr z)
    rw [if_pos (by omega)] at h
    rw [xn_c (by omega), hN.1 m (by omega)]
    exact ⟨xn_in (by omega) (by decide), h⟩
  · have := congrArg Int32.toInt z
    rw [toInt_of rfl (by omega), show (-1 : Int32).toInt = -1 by decide] at this
    omega
theorem s5_number0 {s : NsT} {M : xm_M} (hS : xm_st b c true M) (h : xm_st b c true M → Q (some (.int s.1)) M) : xm_C l E y5_numberInProof rm5_numberInProof [.ref (b + 55), .int (-1), .int s.1] M Q :=
  xm_enter (by decide) (Nat.le_of_ble_eq_true rfl) (t5_numberInProof_0 (p := true) M _ _ hS ⟨fun z => absurd rfl z, fun _ => h⟩)
theorem sk_w1 {i : Nat} {f : Nat → Bool} {o : Int32} {B : Nat → Option Int64} {T0 : List Int32} (hi : i < 48) : SkT l E b c i (Int32.ofNat i) (okN o B) (Pw b (fun n => nmP f o n.toNatClampNeg) (nmX b i f o) T0) :=
  sk_w (fun M M1 s h => ⟨fun k hk => by rw [s.1 _ _ (by omega)]; exact h.1 k hk, by rw [s.1 _ _ (by omega)]; exact h.2.1, by rw [s.1 _ _ (by omega)]; exact h.2.2⟩) (fun M M1 s h => ⟨fun k hk => by rw [s.1 _ _ (by omega)]; exact h.1 k hk, by rw [s.1 _ _ (by omega)]; exact h.2.1, by rw [s.1 _ _ (by omega)]; exact h.2.2⟩) (fun Q s M hs hN hS h => s5_number hi hs hN hS h)
theorem sk_w0 {i : Nat} {T0 : List Int32} : SkT l E b c i (-1) (fun _ => True) (Pw b (fun n => n) (fun _ => True) T0) :=
  sk_w (fun _ _ _ _ => trivial) (fun _ _ _ _ => trivial) (fun Q s M _ _ hS h => s5_number0 hS h)
end SK
