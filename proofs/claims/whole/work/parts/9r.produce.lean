/-! the class produces -/
def bwI (o : Option Int64) : Int32 := match o with
  | none => 0
  | some w => Int64.toInt32 w
def prL (f : Nat → Bool) (B : Nat → Option Int64) : Nat → Nat → List Int32
  | 0, _ => []
  | k + 1, j => (if f j = true then [Int32.ofNat (j / 10), Int32.ofNat (j % 10), bwI (B j)] else []) ++ prL f B k (j + 1)
def fcT (s : BdT) (nd : NdT) : Nat → Nat → List Int32
  | 0, _ => []
  | k + 1, i => ((if s.1 i = true then Int32.ofNat (rkN (nd i) 100) else -1) :: prL (nd i) (s.2 i) 100 0) ++ fcT s nd k (i + 1)
def orN (o : Option (List ItT)) : List ItT := match o with
  | none => []
  | some R => R
def inT (F : Flt) (s : BdT) (nd : NdT) : Nat → Nat → List Int32
  | 0, _ => []
  | k + 1, i => (if s.1 i = true then tlI (fun n => nmP (nd i) (F.1 i) n.toNatClampNeg) (orN (gvI F s nd i)) else []) ++ inT F s nd k (i + 1)
def bgI (least : Int32) (s : BdT) (nd : NdT) : Option (List ItT) := rsI (apL true [] (begL least)) (nd 0) (s.2 0) 100 0
def prT (F : Flt) (least : Int32) (s : BdT) (nd : NdT) (n : Nat) : List Int32 := fcT s nd n 0 ++ (tlI (fun n => n) (orN (bgI least s nd)) ++ inT F s nd n 0)
theorem smPt.rf {b : Nat} {M : xm_M} : smPt b M M := ⟨fun _ _ _ => rfl, fun _ _ => rfl⟩
theorem smPt.tr {b : Nat} {M N P : xm_M} (h : smPt b M N) (g : smPt b N P) : smPt b M P := ⟨fun x k q => (g.1 x k q).trans (h.1 x k q), fun x k => (g.2 x k).trans (h.2 x k)⟩
/-- all needs from i on -/
def ndA (b : Nat) (M : xm_M) (n : Nat) (nd : NdT) (i : Nat) : Prop := ∀ x, i ≤ x → x < n → nkX b M x (nd x)
theorem nkX.pt {b x : Nat} {M N : xm_M} {f : Nat → Bool} (h : nkX b M x f) (s : smPt b M N) : nkX b N x f := ⟨fun k hk => by rw [s.1 _ _ (by omega)]; exact h.1 k hk, by rw [s.1 _ _ (by omega)]; exact h.2⟩
def smPd (b : Nat) (M N : xm_M) : Prop := (∀ x k, ¬ ((x = b + 51 ∧ k = 1) ∨ x = b + 52 ∨ (x = b + 55 ∧ (k = 10 ∨ k = 11)) ∨ (b + 105 ≤ x ∧ x ≤ b + 144)) → xm_gi N x k = xm_gi M x k) ∧ ∀ x k, ¬ ((b + 57 ≤ x ∧ x < b + 105) ∨ (b + 110 ≤ x ∧ x ≤ b + 144)) → xm_gl N x k = xm_gl M x k
theorem smPd.rf {b : Nat} {M : xm_M} : smPd b M M := ⟨fun _ _ _ => rfl, fun _ _ _ => rfl⟩
theorem smPd.tr {b : Nat} {M N P : xm_M} (h : smPd b M N) (g : smPd b N P) : smPd b M P := ⟨fun x k q => (g.1 x k q).trans (h.1 x k q), fun x k q => (g.2 x k q).trans (h.2 x k q)⟩
theorem smY.pd {b : Nat} {M N : xm_M} (h : smY b M N) : smPd b M N := ⟨fun x k q => h.1 x k (by omega), fun x k q => h.2 x k (by omega)⟩
theorem smUX.pd {b i : Nat} {M N : xm_M} (h : smUX b i M N) : smPd b M N := ⟨fun x k q => h.1 x k (by omega), fun x k q => h.2 x k (by omega)⟩
theorem smPt.pd {b : Nat} {M N : xm_M} (h : smPt b M N) : smPd b M N := ⟨fun x k q => h.1 x k (by omega), fun x k q => h.2 x k⟩
/-- what stays while reasons are given -/
def cnX (b : Nat) (M : xm_M) (F : Flt) (n : Nat) (least : Int32) (s : BdT) : Prop := flX b M F ∧ bdX b M n s ∧ imX b M F s n ∧ xm_gi M (b + 1) 2 = Int32.ofNat n ∧ xm_gi M (b + 1) 0 = least ∧ RlD b M
theorem cnX.fr {b n : Nat} {M N : xm_M} {F : Flt} {least : Int32} {s : BdT} (h : cnX b M F n least s) (hn : n ≤ 48) (g1 : ∀ x k, (b + 1 ≤ x ∧ x < b + 51) ∨ x = b + 105 ∨ x = b + 106 → xm_gi N x k = xm_gi M x k) (g2 : ∀ x k, b + 57 ≤ x ∧ x < b + 105 → xm_gl N x k = xm_gl M x k) : cnX b N F n least s := by
  obtain ⟨h1, h2, h3, h4, h5, h6⟩ := h
  refine ⟨fun i hi => ?_, fun i hi => ⟨?_, fun q k hk => ?_⟩, fun i hi hl y hy => ?_, ?_, ?_, fun i u hi hu => ?_⟩
  · rw [g1 _ _ (by omega), g1 _ _ (by omega), g1 _ _ (by omega), g1 _ _ (by omega), g1 _ _ (by omega)]; exact h1 i hi
  · rw [g1 _ _ (by omega)]; exact (h2 i hi).1
  · rw [g2 _ _ (by omega)]; exact (h2 i hi).2 q k hk
  · rw [g1 _ _ (by omega)]; exact h3 i hi hl y hy
  · rw [g1 _ _ (by omega)]; exact h4
  · rw [g1 _ _ (by omega)]; exact h5
  · rw [g2 _ _ (by omega)]; exact h6 i u hi hu
theorem cnX.pt {b n : Nat} {M N : xm_M} {F : Flt} {least : Int32} {s : BdT} (h : cnX b M F n least s) (hn : n ≤ 48) (g : smPt b M N) : cnX b N F n least s := h.fr hn (fun x k q => g.1 _ _ (by omega)) (fun x k q => g.2 _ _)
theorem cnX.ux {b n i : Nat} {M N : xm_M} {F : Flt} {least : Int32} {s : BdT} (h : cnX b M F n least s) (hn : n ≤ 48) (g : smUX b i M N) : cnX b N F n least s := h.fr hn (fun x k q => g.1 _ _ (by omega)) (fun x k q => g.2 _ _ (by omega))
section PD
variable {l : Launch} {E : xm_E} {b : Nat} {c : Bool} {Q : Option Value → xm_M → Prop} {F : Flt} {n : Nat} {least : Int32} {s : BdT}
theorem lp_fg2 {i : Nat} (hi : i < 48) : ∀ (k j : Nat) (M : xm_M), j + k = 100 → (∀ x, x < j → xm_gi M (b + 107) (100 * i + x) = 0) → xm_st b c true M → (∀ M1, smNd b i M M1 → nkX b M1 i noN → xm_st b c true M1 → Q none M1) →
    xm_X l E y5_forgetNeeds rm5_forgetNeeds Q 2 [(0, .ref (b + 55)), (1, .int (Int32.ofNat i)), (2, .int (Int32.ofNat j))] [] 0 0 M := by
  intro k
  induction k with
  | zero =>
    intro j M hj hz hS h
    refine t5_forgetNeeds_2 (p := true) M _ _ hS ⟨fun _ => ⟨xn_in hi (by decide), ?_⟩, fun g => absurd (by rw [show j = 100 by omega]; decide) g⟩
    rw [xn_c (by omega)]
    refine fun hS => h _ ⟨fun x k q => by rw [gi_pi, if_neg (by omega)], fun _ _ => rfl⟩ ⟨fun k hk => by rw [gi_pi, if_neg (by omega)]; exact hz k (by omega), ?_⟩ hS
    rw [gi_pi, if_pos ⟨rfl, rfl⟩]; rfl
  | succ k ih =>
    intro j M hj hz hS h
    refine t5_forgetNeeds_2 (p := true) M _ _ hS ⟨fun g => ?_, fun _ => ?_⟩
    · have g := (xn_le (a := 100) (by decide) (by omega)).mp g
      omega
    rw [ixH, xn_c (by omega), xn_s]
    refine ⟨xn_in (by omega) (by decide), fun hS => ih (j + 1) _ (by omega) (fun x hx => ?_) hS (fun M1 s1 n1 hS => h M1 ⟨fun x k q => by rw [s1.1 x k q, gi_pi, if_neg (by omega)], fun x k => s1.2 x k⟩ n1 hS)⟩
    rw [gi_pi]
    by_cases e : x = j
    · rw [if_pos ⟨rfl, by omega⟩]
    · rw [if_neg (by omega)]; exact hz x (by omega)
theorem s5_forgetNeeds {i : Nat} {M : xm_M} (hi : i < 48) (hS : xm_st b c true M) (h : ∀ M1, smNd b i M M1 → nkX b M1 i noN → xm_st b c true M1 → Q none M1) : xm_C l E y5_forgetNeeds rm5_forgetNeeds [.ref (b + 55), .int (Int32.ofNat i)] M Q :=
  xm_enter (by decide) (Nat.le_of_ble_eq_true rfl) (t5_forgetNeeds_0 (p := true) M _ hS (fun hS => lp_fg2 hi 100 0 M rfl (fun x hx => absurd hx (Nat.not_lt_zero x)) hS h))
theorem lp_rk4 {i : Nat} {f : Nat → Bool} (hi : i < 48) : ∀ (k j : Nat) (M : xm_M), j + k = 100 → nrX b M i f → (∀ x, x < j → xm_gi M (b + 109) x = Int32.ofNat (rkN f x)) → xm_st b c true M → (∀ M1, (∀ x k, ¬ x = b + 109 → xm_gi M1 x k = xm_gi M x k) → (∀ x k, xm_gl M1 x k = xm_gl M x k) → (∀ x, x < 100 → xm_gi M1 (b + 109) x = Int32.ofNat (rkN f x)) → xm_st b c true M1 → Q none M1) →
    xm_X l E y5_rankNeeds rm5_rankNeeds Q 4 [(0, .ref (b + 55)), (1, .int (Int32.ofNat i)), (2, .int (Int32.ofNat (rkN f j))), (3, .int (Int32.ofNat j))] [] 0 0 M := by
  intro k
  induction k with
  | zero =>
    intro j M hj hN hz hS h
    exact t5_rankNeeds_4 (p := true) M _ _ _ hS ⟨fun _ hS => h M (fun _ _ _ => rfl) (fun _ _ => rfl) (fun x hx => hz x (by omega)) hS, fun g => absurd (by rw [show j = 100 by omega]; decide) g⟩
  | succ k ih =>
    intro j M hj hN hz hS h
    have hle := rkN_le f j
    refine t5_rankNeeds_4 (p := true) M _ _ _ hS ⟨fun g => ?_, fun _ => ⟨xn_in (by omega) (by decide), ?_⟩⟩
    · have g := (xn_le (a := 100) (by decide) (by omega)).mp g
      omega
    rw [ixH, xn_c (show j < 2 ^ 31 by omega), xn_c (show 100 * i + j < 2 ^ 31 by omega), gi_pi, if_neg (by omega), hN j (by omega), xn_s, xn_s]
    have er : rkN f (j + 1) = rkN f j + oneN f j := rfl
    have go := ih (j + 1) (xm_pi M (b + 109) j (Int32.ofNat (rkN f j))) (by omega) (fun k hk => by rw [gi_pi, if_neg (by omega)]; exact hN k hk) (fun x hx => by
      rw [gi_pi]
      by_cases e : x = j
      · rw [if_pos ⟨rfl, e⟩, e]
      · rw [if_neg (fun z => e z.2)]; exact hz x (by omega))
    have fin : ∀ M1, (∀ x k, ¬ x = b + 109 → xm_gi M1 x k = xm_gi (xm_pi M (b + 109) j (Int32.ofNat (rkN f j))) x k) → (∀ x k, xm_gl M1 x k = xm_gl (xm_pi M (b + 109) j (Int32.ofNat (rkN f j))) x k) → (∀ x, x < 100 → xm_gi M1 (b + 109) x = Int32.ofNat (rkN f x)) → xm_st b c true M1 → Q none M1 := fun M1 g1 g2 g3 hS => h M1 (fun x k q => by rw [g1 x k q, gi_pi, if_neg (fun z => q z.1)]) g2 g3 hS
    refine ⟨xn_in (by omega) (by decide), fun g hS => ?_, fun g hS => ?_⟩
    · have : oneN f j = 0 := if_neg (fun z => by rw [xz_0.mp g] at z; cases z)
      rw [er, this] at go
      exact go hS fin
    · have : oneN f j = 1 := if_pos (xz_ne g)
      rw [er, this] at go
      exact go hS fin
theorem s5_rankNeeds {i : Nat} {f : Nat → Bool} {M : xm_M} (hi : i < 48) (hN : nrX b M i f) (hS : xm_st b c true M) (h : ∀ M1, (∀ x k, ¬ x = b + 109 → xm_gi M1 x k = xm_gi M x k) → (∀ x k, xm_gl M1 x k = xm_gl M x k) → (∀ x, x < 100 → xm_gi M1 (b + 109) x = Int32.ofNat (rkN f x)) → xm_st b c true M1 → Q none M1) : xm_C l E y5_rankNeeds rm5_rankNeeds [.ref (b + 55), .int (Int32.ofNat i)] M Q :=
  xm_enter (by decide) (Nat.le_of_ble_eq_true rfl) (t5_rankNeeds_0 (p := true) M _ hS (fun hS => lp_rk4 hi 100 0 M rfl hN (fun x hx => absurd hx (Nat.not_lt_zero x)) hS h))
theorem lp_wf38 {i : Nat} {f : Nat → Bool} {B : Nat → Option Int64} (hi : i < 48) : ∀ (k j : Nat) (T : List Int32) (M : xm_M), j + k = 100 → nrX b M i f → bvX M (b + 57 + i) f B → snT b M T → xm_st b c true M →
    (∀ M1, smPt b M M1 → snT b M1 (T ++ prL f B k j) → xm_st b c true M1 → xm_X l E y5_writeFacts rm5_writeFacts Q 2 [(0, .ref (b + 55)), (1, .int (Int32.ofNat (i + 1)))] [] 0 0 M1) →
    xm_X l E y5_writeFacts rm5_writeFacts Q 38 [(0, .ref (b + 55)), (1, .int (Int32.ofNat i)), (2, .int (Int32.ofNat j))] [] 0 0 M := by
  intro k
  induction k with
  | zero =>
    intro j T M hj hN hV hT hS h
    refine t5_writeFacts_38 (p := true) M _ _ hS ⟨fun _ hS => ?_, fun g => absurd (by rw [show j = 100 by omega]; decide) g⟩
    rw [xn_s]
    exact h M smPt.rf (by show snT b M (T ++ []); rw [List.append_nil]; exact hT) hS
  | succ k ih =>
    intro j T M hj hN hV hT hS h
    have hj100 : j < 100 := by omega
    refine t5_writeFacts_38 (p := true) M _ _ hS ⟨fun g => ?_, fun _ => ?_⟩
    · have g := (xn_le (a := 100) (by decide) (by omega)).mp g
      omega
    have ep : prL f B (k + 1) j = (if f j = true then [Int32.ofNat (j / 10), Int32.ofNat (j % 10), bwI (B j)] else []) ++ prL f B k (j + 1) := rfl
    rw [ixH, xn_c (show 100 * i + j < 2 ^ 31 by omega), hN j hj100, show (10 : Int32) = Int32.ofNat 10 from rfl, i32_mod (by omega) (by decide), i32_div (by omega) (by decide), xn_c (show i < 2 ^ 31 by omega), xn_c (show j < 2 ^ 31 by omega), xn_s j]
    refine ⟨xn_in (by omega) (by decide), fun g hS => ?_, fun g => ?_⟩
    · rw [if_neg (fun z => by rw [xz_0.mp g] at z; cases z), List.nil_append] at ep
      rw [ep] at h
      exact ih (j + 1) T M (by omega) hN hV hT hS h
    · have fj := xz_ne g
      rw [if_pos fj] at ep
      rw [ep] at h
      obtain ⟨w, w1, w2, w3⟩ := hV j hj100 fj
      refine s5_put_w hT hS (fun M1 s1 t1 hS => ⟨rfl, hS, s5_put_w t1 hS (fun M2 s2 t2 hS => ⟨rfl, hS, xn_in hi (by decide), xn_in hj100 (by decide), ?_⟩)⟩)
      rw [s2.2, s1.2, w3]
      refine s5_put_w t2 hS (fun M3 s3 t3 hS => ⟨rfl, hS, fun hS => ?_⟩)
      have s13 : smPt b M M3 := s1.tr (s2.tr s3)
      refine ih (j + 1) _ M3 (by omega) (fun k hk => by rw [s13.1 _ _ (by omega)]; exact hN k hk) (fun j hj q => by rw [s13.2]; exact hV j hj q) t3 hS (fun M4 s4 t4 hS => h M4 (s13.tr s4) ?_ hS)
      rw [w1]
      rw [List.append_assoc, List.append_assoc, List.append_assoc] at t4
      exact t4
theorem lp_wf2 (hF : fOk F n) (hO : bdOk s) {nd : NdT} (hp : ∀ x, x < n → ∀ k, nd x k = true → k < 100 ∧ s.1 x = true ∧ (s.2 x k).isSome = true) : ∀ (k i : Nat) (T : List Int32) (M : xm_M), i + k = n → cnX b M F n least s → ndA b M n nd 0 → snT b M T → xm_st b c true M →
    (∀ M1, smPt b M M1 → snT b M1 (T ++ fcT s nd k i) → xm_st b c true M1 → Q none M1) →
    xm_X l E y5_writeFacts rm5_writeFacts Q 2 [(0, .ref (b + 55)), (1, .int (Int32.ofNat i))] [] 0 0 M := by
  have hn48 : n ≤ 48 := hF.1
  intro k
  induction k with
  | zero =>
    intro i T M hi hC hN hT hS h
    refine t5_writeFacts_2 (p := true) M _ hS ?_
    rw [hC.2.2.2.1]
    exact ⟨fun _ hS => h M smPt.rf (by show snT b M (T ++ []); rw [List.append_nil]; exact hT) hS, fun g => absurd ((xn_le (by omega) (by omega)).mpr (by omega)) g⟩
  | succ k ih =>
    intro i T M hi hC hN hT hS h
    have hin : i < n := by omega
    have hi48 : i < 48 := by omega
    refine t5_writeFacts_2 (p := true) M _ hS ?_
    rw [hC.2.2.2.1, xn_c (show i < 2 ^ 31 by omega), (hC.2.1 i hin).1, (hN i (Nat.zero_le i) hin).2]
    have key : ∀ v, (if s.1 i = true then Int32.ofNat (rkN (nd i) 100) else -1) = v → ∀ M1, smPt b M M1 → snT b M1 (T ++ [v]) → xm_st b c true M1 → xm_X l E y5_writeFacts rm5_writeFacts Q 38 [(0, .ref (b + 55)), (1, .int (Int32.ofNat i)), (2, .int (Int32.ofNat 0))] [] 0 0 M1 := fun v hv M1 s1 t1 hS => by
      refine lp_wf38 (f := nd i) (B := s.2 i) hi48 100 0 _ M1 rfl (((hN i (Nat.zero_le i) hin).pt s1).1) (fun j hj hf => ?_) t1 hS (fun M2 s2 t2 hS => ?_)
      · obtain ⟨h1, h2, h3⟩ := hp i hin j hf
        obtain ⟨w, hw⟩ := some_is h3
        exact ⟨w, hw, (hO i h2).1 j w hj hw, by rw [s1.2, (hC.2.1 i hin).2 h2 j hj, hw]; rfl⟩
      · have s12 := s1.tr s2
        refine ih (i + 1) _ M2 (by omega) (hC.pt hn48 s12) (fun x h1 h2 => (hN x h1 h2).pt s12) t2 hS (fun M3 s3 t3 hS => h M3 (s12.tr s3) ?_ hS)
        show snT b M3 (T ++ (((if s.1 i = true then Int32.ofNat (rkN (nd i) 100) else -1) :: prL (nd i) (s.2 i) 100 0) ++ fcT s nd k (i + 1)))
        rw [hv]
        rw [List.append_assoc, List.append_assoc] at t3
        exact t3
    refine ⟨fun g => ?_, fun _ => ⟨xn_in hi48 (by decide), fun g => ?_, fun g => ?_⟩⟩
    · have g := (xn_le (by omega) (by omega)).mp g
      omega
    · exact s5_put_w hT hS (fun M1 s1 t1 hS => ⟨rfl, hS, fun hS => key _ (if_neg (fun z => by rw [xz_0.mp g] at z; cases z)) M1 s1 t1 hS⟩)
    · exact ⟨xn_in hi48 (by decide), s5_put_w hT hS (fun M1 s1 t1 hS => ⟨rfl, hS, fun hS => key _ (if_pos (xz_ne g)) M1 s1 t1 hS⟩)⟩
theorem s5_writeFacts (hF : fOk F n) (hO : bdOk s) {nd : NdT} (hp : ∀ x, x < n → ∀ k, nd x k = true → k < 100 ∧ s.1 x = true ∧ (s.2 x k).isSome = true) {T : List Int32} {M : xm_M} (hC : cnX b M F n least s) (hN : ndA b M n nd 0) (hT : snT b M T) (hS : xm_st b c true M) (h : ∀ M1, smPt b M M1 → snT b M1 (T ++ fcT s nd n 0) → xm_st b c true M1 → Q none M1) : xm_C l E y5_writeFacts rm5_writeFacts [.ref (b + 55)] M Q :=
  xm_enter (by decide) (Nat.le_of_ble_eq_true rfl) (t5_writeFacts_0 (p := true) M hS (fun hS => lp_wf2 hF hO hp n 0 T M (by omega) hC hN hT hS h))
/-- behind the needs, all is told -/
def ndG (F : Flt) (s : BdT) (nd : NdT) (n : Nat) : Prop := ∀ x, x < n → ndF F s nd x
theorem ndG_p (hF : fOk F n) {nd : NdT} (h : ndG F s nd n) : ∀ x, x < n → ∀ k, nd x k = true → k < 100 ∧ s.1 x = true ∧ (s.2 x k).isSome = true := fun x hx k hk => by
  have h1 := ndF_ok hF hx (h x hx) k hk
  refine ⟨h1.1, ?_, h1.2⟩
  by_cases g : s.1 x = true
  · exact g
  · rw [(h x hx).2 g] at hk; cases hk
theorem lp_pd125 (hF : fOk F n) (hO : bdOk s) {nd : NdT} (hG : ndG F s nd n) : ∀ (k i : Nat) (T : List Int32) (M : xm_M), i + k = n → cnX b M F n least s → ndA b M n nd i → snT b M T → xm_st b c true M →
    (∀ M1, smPd b M M1 → RlD b M1 → snT b M1 (T ++ inT F s nd k i) → xm_st b c true M1 → Q (some (.int (if (T ++ inT F s nd k i).length ≤ 20000 then -2 else Int32.ofNat n))) M1) →
    xm_X l E y5_produce rm5_produce Q 125 [(0, .ref (b + 55)), (1, .ref (b + 1)), (3, .int (Int32.ofNat i))] [] 0 0 M := by
  have hn48 : n ≤ 48 := hF.1
  have hp := ndG_p hF hG
  intro k
  induction k with
  | zero =>
    intro i T M hi hC hN hT hS h
    have h : ∀ M1, smPd b M M1 → RlD b M1 → snT b M1 (T ++ []) → xm_st b c true M1 → Q (some (.int (if (T ++ []).length ≤ 20000 then -2 else Int32.ofNat n))) M1 := h
    rw [List.append_nil] at h
    have h := h M smPd.rf hC.2.2.2.2.2 hT
    refine t5_produce_125 (p := true) M _ hS ?_
    rw [hC.2.2.2.1, hT.2.2.2]
    refine ⟨fun _ => ⟨fun g hS => ?_, fun g hS => ?_⟩, fun g => absurd ((xn_le (by omega) (by omega)).mpr (by omega)) g⟩
    · have := of_decide_eq_false (xz_0.mp g)
      rw [if_neg this] at h
      exact h hS
    · have := of_decide_eq_true (xz_ne g)
      rw [if_pos this] at h
      exact h hS
  | succ k ih =>
    intro i T M hi hC hN hT hS h
    have hin : i < n := by omega
    have hi48 : i < 48 := by omega
    have ei : inT F s nd (k + 1) i = (if s.1 i = true then tlI (fun n => nmP (nd i) (F.1 i) n.toNatClampNeg) (orN (gvI F s nd i)) else []) ++ inT F s nd k (i + 1) := rfl
    refine t5_produce_125 (p := true) M _ hS ?_
    rw [hC.2.2.2.1, xn_c (show i < 2 ^ 31 by omega), (hC.2.1 i hin).1, xn_s]
    refine ⟨fun g => ?_, fun _ => ⟨xn_in hi48 (by decide), fun g hS => ?_, fun g => ?_⟩⟩
    · have g := (xn_le (by omega) (by omega)).mp g
      omega
    · rw [if_neg (fun z => by rw [xz_0.mp g] at z; cases z), List.nil_append] at ei
      rw [ei] at h
      exact ih (i + 1) T M (by omega) hC (fun x h1 h2 => hN x (by omega) h2) hT hS h
    · have hl := xz_ne g
      obtain ⟨R, r1, r2, r3⟩ := (hG i hin).1 hl
      rw [if_pos hl, r1] at ei
      have ei : inT F s nd (k + 1) i = tlI (fun n => nmP (nd i) (F.1 i) n.toNatClampNeg) R ++ inT F s nd k (i + 1) := ei
      rw [ei, ← List.append_assoc] at h
      refine s5_rankNeeds hi48 (hN i (Nat.le_refl i) hin).1 hS (fun M1 g1 g2 g3 hS => ⟨rfl, hS, ?_⟩)
      have C1 : cnX b M1 F n least s := hC.fr hn48 (fun x k q => g1 _ _ (by omega)) (fun x k q => g2 _ _)
      have N1 : ndA b M1 n nd i := fun x h1 h2 => ⟨fun k hk => by rw [g1 _ _ (by omega)]; exact (hN x h1 h2).1 k hk, by rw [g1 _ _ (by omega)]; exact (hN x h1 h2).2⟩
      have T1 : snT b M1 T := ⟨by rw [g1 _ _ (by omega)]; exact hT.1, by rw [g1 _ _ (by omega)]; exact hT.2.1, fun j v hj hj2 => by rw [g1 _ _ (by omega)]; exact hT.2.2.1 j v hj hj2, by rw [g1 _ _ (by omega)]; exact hT.2.2.2⟩
      have P1 : Pw b (fun n => nmP (nd i) (F.1 i) n.toNatClampNeg) (nmX b i (nd i) (F.1 i)) T [] M1 := ⟨by show snT b M1 (T ++ []); rw [List.append_nil]; exact T1, g3, (N1 i (Nat.le_refl i) hin).2, (C1.1 i hi48).1⟩
      have hK := sk_w1 (l := l) (E := E) (b := b) (c := c) (f := nd i) (o := F.1 i) (B := s.2 i) (T0 := T) hi48
      unfold gvI at r1
      refine s5_giveAccess hF hin hK hl hO C1.2.1 C1.1 P1 hS (fun M2 s2 p2 hS => ⟨_, rfl, hS, ?_⟩)
      cases ha : acI F (s.2 i) i with
      | none => rw [ha] at r1; cases r1
      | some A =>
        rw [ha] at r1 p2
        have p2 := p2.1 A rfl
        have C2 := C1.ux hn48 s2
        refine s5_giveEdges hF hin hK hl hO (fun x h1 h2 k hk => hp x h2 k hk) C2.2.1 C2.1 (C2.2.2.1 i hin hl) (fun x h1 h2 k hk => by rw [s2.1 _ _ (by omega)]; exact (N1 x (by omega) h2).1 k hk) p2 hS (fun M3 s3 p3 hS => ⟨_, rfl, hS, fun hS => ?_⟩)
        cases he : exI F s nd i (ecC (F.1 i)) 0 with
        | none => rw [he] at r1; cases r1
        | some A' =>
          rw [he] at r1 p3
          cases r1
          have p3 := p3.1 A' rfl
          have s23 := s2.tr s3
          refine ih (i + 1) _ M3 (by omega) (C2.ux hn48 s3) (fun x h1 h2 => ⟨fun k hk => by rw [s23.1 _ _ (by omega)]; exact (N1 x (by omega) h2).1 k hk, by rw [s23.1 _ _ (by omega)]; exact (N1 x (by omega) h2).2⟩) p3.1 hS (fun M4 s4 d4 t4 hS => h M4 ?_ d4 t4 hS)
          exact smPd.tr ⟨fun x k q => g1 _ _ (by omega), fun x k q => g2 _ _⟩ (s23.pd.tr s4)
theorem sub1 (m : Nat) : Int32.ofNat (m + 1) - (1 : Int32) = Int32.ofNat m := by rw [← ix1]; exact Int32.add_sub_cancel _ _
theorem dec1 (x : Int32) : x + Int32.ofInt (-1) = x - 1 := by rw [Int32.sub_eq_add_neg]; rfl
theorem lp_pd31 (hF : fOk F n) (hO : bdOk s) (hbg : ∀ nd, ndG F s nd n → (bgI least s nd).isSome = true) : ∀ (m : Nat) (nd : NdT) (M : xm_M), m ≤ n → ndS F s m nd = ndS F s n (fun _ => noN) → cnX b M F n least s → ndA b M n nd m → (∀ x, m ≤ x → x < n → ∀ k, nd x k = true → k < 100 ∧ s.1 x = true ∧ (s.2 x k).isSome = true) → xm_gi M (b + 55) 10 = 0 → xm_gi M (b + 55) 11 = 1 → xm_gi M (b + 51) 1 = 0 → xm_st b c true M →
    (∀ j, ndS F s n (fun _ => noN) = .inl j → ∀ M1, smPd b M M1 → RlD b M1 → xm_gi M1 (b + 51) 1 = 0 → xm_st b c true M1 → Q (some (.int (Int32.ofNat j))) M1) →
    (∀ ndE, ndS F s n (fun _ => noN) = .inr ndE → ∀ M1, smPd b M M1 → RlD b M1 → snT b M1 (prT F least s ndE n) → xm_st b c true M1 → Q (some (.int (if (prT F least s ndE n).length ≤ 20000 then -2 else Int32.ofNat n))) M1) →
    xm_X l E y5_produce rm5_produce Q 31 [(0, .ref (b + 55)), (1, .ref (b + 1)), (3, .int (Int32.ofNat m - (1 : Int32)))] [] 0 0 M := by
  have hn48 : n ≤ 48 := hF.1
  intro m
  induction m with
  | zero =>
    intro nd M hm hE hC hN hp h10 h11 h51 hS hl hr
    have hE : .inr nd = ndS F s n (fun _ => noN) := hE
    have hG : ndG F s nd n := (ndS_keep hF n _ nd (Nat.le_refl n) hE.symm).2
    have hr := hr nd hE.symm
    have hp := ndG_p hF hG
    refine t5_produce_31 (p := true) M _ hS ⟨fun _ => ?_, fun g => absurd (by decide) g⟩
    have s0 : smPd b M (xm_pi M (b + 55) 10 1) := ⟨fun x k q => by rw [gi_pi, if_neg (by omega)], fun _ _ _ => rfl⟩
    have C0 : cnX b (xm_pi M (b + 55) 10 1) F n least s := hC.fr hn48 (fun x k q => by rw [gi_pi, if_neg (by omega)]) (fun x k q => rfl)
    have N0 : ndA b (xm_pi M (b + 55) 10 1) n nd 0 := fun x h1 h2 => ⟨fun k hk => by rw [gi_pi, if_neg (by omega)]; exact (hN x h1 h2).1 k hk, by rw [gi_pi, if_neg (by omega)]; exact (hN x h1 h2).2⟩
    have T0 : snT b (xm_pi M (b + 55) 10 1) [] := ⟨by rw [gi_pi, if_pos ⟨rfl, rfl⟩], by rw [gi_pi, if_neg (by omega)]; exact h51, fun j v hj => (by cases hj), by rw [gi_pi, if_neg (by omega)]; exact h11⟩
    have hS : xm_st b c true (xm_pi M (b + 55) 10 1) := hS
    generalize xm_pi M (b + 55) 10 1 = M0 at s0 C0 N0 T0 hS ⊢
    refine s5_writeFacts hF hO hp C0 N0 T0 hS (fun M1 s1 t1 hS => ⟨rfl, hS, ?_⟩)
    have C1 := C0.pt hn48 s1
    rw [C1.2.2.2.2.1]
    refine s6_takeBeginning hS (fun M2 s2 l2 hS => ⟨rfl, hS, ?_⟩)
    have s12 : smUX b 48 M1 M2 := s2.ux
    have C2 := C1.ux hn48 s12
    have N2 : ndA b M2 n nd 0 := fun x h1 h2 => ⟨fun k hk => by rw [s12.1 _ _ (by omega)]; exact ((N0 x h1 h2).pt s1).1 k hk, by rw [s12.1 _ _ (by omega)]; exact ((N0 x h1 h2).pt s1).2⟩
    have hK := sk_w0 (l := l) (E := E) (b := b) (c := c) (i := 48) (T0 := fcT s nd n 0)
    have P1 : Pw b (fun n => n) (fun _ => True) (fcT s nd n 0) [] M1 := ⟨by show snT b M1 (fcT s nd n 0 ++ []); rw [List.append_nil]; exact t1, trivial⟩
    have P2 := hK.1 [] M1 M2 s2.t9 P1
    have h0n : 0 < n := hF.2.1
    have hV : bvX M2 (b + 57 + 0) (nd 0) (s.2 0) := fun j hj hf => by
      obtain ⟨h1, h2, h3⟩ := hp 0 h0n j hf
      obtain ⟨w, hw⟩ := some_is h3
      exact ⟨w, hw, (hO 0 h2).1 j w hj hw, by rw [(C2.2.1 0 h0n).2 h2 j hj, hw]; rfl⟩
    have hb := hbg nd hG
    refine s5_giveReasonsFor (e := 0) (B := s.2 0) hK (good_bg (least := least)) (fun _ _ => trivial) (by decide) (by decide) l2 (N2 0 (Nat.le_refl 0) h0n).1 hV P2 hS (fun M3 s3 p3 hS => ⟨_, rfl, hS, fun hS => ?_⟩)
    obtain ⟨A, hA⟩ := some_is hb
    have p3 := (p3.1 A hA).1
    have et : prT F least s nd n = (fcT s nd n 0 ++ tlI (fun n => n) A) ++ inT F s nd n 0 := by
      unfold prT
      rw [hA, List.append_assoc]; rfl
    rw [et] at hr
    have s23 := s12.tr s3.ux
    refine lp_pd125 hF hO hG n 0 _ M3 (by omega) (C2.ux hn48 s3.ux) (fun x h1 h2 => ⟨fun k hk => by rw [s3.1 _ _ (by omega)]; exact (N2 x h1 h2).1 k hk, by rw [s3.1 _ _ (by omega)]; exact (N2 x h1 h2).2⟩) p3 hS (fun M4 s4 d4 t4 hS => hr M4 (s0.tr (s1.pd.tr (s23.pd.tr s4))) d4 t4 hS)
  | succ i ih =>
    intro nd M hm hE hC hN hp h10 h11 h51 hS hl hr
    have hin : i < n := by omega
    have hi48 : i < 48 := by omega
    have eS : ndS F s (i + 1) nd = if s.1 i = true then
      (match gvI F s nd i with
      | none => .inl i
      | some R => if rkN (mkI (F.1 i) R noN) 100 ≤ 24 then ndS F s i (udN nd i (mkI (F.1 i) R noN)) else .inl i)
    else ndS F s i (udN nd i noN) := rfl
    rw [hE] at eS
    rw [sub1]
    refine t5_produce_31 (p := true) M _ hS ⟨fun g => ?_, fun _ => s5_forgetNeeds hi48 hS (fun M1 s1 n1 hS => ⟨rfl, hS, xn_in hi48 (by decide), ?_⟩)⟩
    · rw [show (0 : Int32) = Int32.ofNat 0 from rfl, xn_lt (by omega) (by decide)] at g
      omega
    have C1 : cnX b M1 F n least s := hC.fr hn48 (fun x k q => s1.1 _ _ (by omega)) (fun x k q => s1.2 _ _)
    have N1 : ndA b M1 n nd (i + 1) := fun x h1 h2 => ⟨fun k hk => by rw [s1.1 _ _ (by omega)]; exact (hN x h1 h2).1 k hk, by rw [s1.1 _ _ (by omega)]; exact (hN x h1 h2).2⟩
    have e10 : xm_gi M1 (b + 55) 10 = 0 := by rw [s1.1 _ _ (by omega)]; exact h10
    have e11 : xm_gi M1 (b + 55) 11 = 1 := by rw [s1.1 _ _ (by omega)]; exact h11
    have e51 : xm_gi M1 (b + 51) 1 = 0 := by rw [s1.1 _ _ (by omega)]; exact h51
    have s1p : smPd b M M1 := s1.u.ux.pd
    have nx : ∀ f M2, smUX b i M1 M2 → nkX b M2 i f → ndOk f (s.2 i) → (s.1 i = true ∨ f = noN) → ndS F s i (udN nd i f) = ndS F s n (fun _ => noN) → xm_gi M2 (b + 55) 10 = 0 → xm_gi M2 (b + 55) 11 = 1 → xm_gi M2 (b + 51) 1 = 0 → xm_st b c true M2 → xm_X l E y5_produce rm5_produce Q 31 [(0, .ref (b + 55)), (1, .ref (b + 1)), (3, .int (Int32.ofNat i - (1 : Int32)))] [] 0 0 M2 := fun f M2 s2 n2 hf hlf hE2 a1 a2 a3 hS => by
      refine ih (udN nd i f) M2 (by omega) hE2 (C1.ux hn48 s2) (fun x h1 h2 => ?_) (fun x h1 h2 k hk => ?_) a1 a2 a3 hS (fun j hj M3 s3 d3 t3 hS => hl j hj M3 (s1p.tr (s2.pd.tr s3)) d3 t3 hS) (fun ndE hj M3 s3 d3 t3 hS => hr ndE hj M3 (s1p.tr (s2.pd.tr s3)) d3 t3 hS)
      · unfold udN
        by_cases e : x = i
        · rw [if_pos e, e]; exact n2
        · rw [if_neg e]
          exact ⟨fun k hk => by rw [s2.1 _ _ (by omega)]; exact (N1 x (by omega) h2).1 k hk, by rw [s2.1 _ _ (by omega)]; exact (N1 x (by omega) h2).2⟩
      · unfold udN at hk
        by_cases e : x = i
        · rw [if_pos e] at hk
          rw [e]
          refine ⟨(hf k hk).1, hlf.elim id (fun z => by rw [z] at hk; cases hk), (hf k hk).2⟩
        · rw [if_neg e] at hk
          exact hp x (by omega) h2 k hk
    rw [xn_c (show i < 2 ^ 31 by omega), (C1.2.1 i hin).1, dec1]
    refine ⟨fun g hS => ?_, fun g => ?_⟩
    · rw [if_neg (fun z => by rw [xz_0.mp g] at z; cases z)] at eS
      exact nx noN M1 smUX.rf n1 noN_ok (Or.inr rfl) eS.symm e10 e11 e51 hS
    · have hli := xz_ne g
      rw [if_pos hli] at eS
      have hK := sk_n (l := l) (E := E) (b := b) (c := c) (i := i) (o := F.1 i) (B := s.2 i) hi48
      have P1 : Pn b i (F.1 i) [] M1 := ⟨e10, n1, (C1.1 i hi48).1, e11, e51⟩
      have eg : gvI F s nd i = match acI F (s.2 i) i with
        | none => none
        | some A => match exI F s nd i (ecC (F.1 i)) 0 with
          | none => none
          | some R => some (A ++ R) := rfl
      have no : ∀ M2, smUX b i M1 M2 → (∃ A, Pn b i (F.1 i) A M2) → ndS F s n (fun _ => noN) = .inl i → xm_st b c true M2 → Q (some (.int (Int32.ofNat i))) M2 := fun M2 s2 p2 e hS => by
        obtain ⟨A, hA⟩ := p2
        exact hl i e M2 (s1p.tr s2.pd) (C1.ux hn48 s2).2.2.2.2.2 hA.2.2.2.2 hS
      refine s5_giveAccess hF hin hK hli hO C1.2.1 C1.1 P1 hS (fun M2 s2 p2 hS => ⟨_, rfl, hS, ?_⟩)
      cases ha : acI F (s.2 i) i with
      | none =>
        rw [ha] at eg
        rw [eg] at eS
        exact ⟨fun _ hS => no M2 s2 p2.2 eS hS, fun z => absurd rfl z⟩
      | some A =>
        rw [ha] at eg p2
        have p2 := p2.1 A rfl
        have C2 := C1.ux hn48 s2
        refine ⟨fun z => absurd (show xz true = 0 from z) (by decide), fun _ => s5_giveEdges hF hin hK hli hO (fun x h1 h2 k hk => hp x (by omega) h2 k hk) C2.2.1 C2.1 (C2.2.2.1 i hin hli) (fun x h1 h2 k hk => by rw [s2.1 _ _ (by omega)]; exact (N1 x (by omega) h2).1 k hk) p2 hS (fun M3 s3 p3 hS => ⟨_, rfl, hS, ?_⟩)⟩
        have s23 := s2.tr s3
        cases he : exI F s nd i (ecC (F.1 i)) 0 with
        | none =>
          rw [he] at eg
          rw [eg] at eS
          exact ⟨fun _ hS => no M3 s23 p3.2 eS hS, fun z => absurd rfl z⟩
        | some A' =>
          rw [he] at eg p3
          have eg : gvI F s nd i = some (A ++ A') := eg
          have p4 := p3.1 A' rfl
          have p4 : Pn b i (F.1 i) (A ++ A') M3 := p4
          rw [eg] at eS
          have eS : ndS F s n (fun _ => noN) = if rkN (mkI (F.1 i) (A ++ A') noN) 100 ≤ 24 then ndS F s i (udN nd i (mkI (F.1 i) (A ++ A') noN)) else .inl i := eS
          have hle := rkN_le (mkI (F.1 i) (A ++ A') noN) 100
          refine ⟨fun z => absurd (show xz true = 0 from z) (by decide), fun _ => ⟨xn_in hi48 (by decide), fun g => ?_, fun g => ?_⟩⟩
          · rw [p4.2.1.2] at g
            have g := (xn_lt (a := 24) (by decide) (by omega)).mp g
            rw [if_neg (by omega)] at eS
            exact fun hS => no M3 s23 ⟨_, p4⟩ eS hS
          · rw [p4.2.1.2] at g
            have g : ¬ 24 < rkN (mkI (F.1 i) (A ++ A') noN) 100 := fun z => g ((xn_lt (a := 24) (by decide) (by omega)).mpr z)
            rw [if_pos (by omega)] at eS
            exact fun hS => nx _ M3 s23 p4.2.1 (mkI_ok _ noN (gvI_ok hF hin eg) noN_ok) (Or.inl hli) eS.symm p4.1 p4.2.2.2.1 p4.2.2.2.2 hS
end PD
