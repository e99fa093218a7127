/-! the class's finder of rows -/
def reO (o : Option Int) (x : Int64) : Prop := match o with
  | none => x = N62
  | some y => x.toInt = y
theorem isMin_ad {o : Option Int} {m : Int} {S T : Int → Prop} (h : isMin o S) (hT : T m) (hm : ∀ y, T y → m ≤ y) : isMin (omin o m) (fun y => S y ∨ T y) := by
  cases o with
  | none => exact ⟨Or.inr hT, fun y hy => hy.elim (fun q => absurd q (h y)) (fun q => hm y q)⟩
  | some x =>
    show (S (if x ≤ m then x else m) ∨ T (if x ≤ m then x else m)) ∧ ∀ z, S z ∨ T z → (if x ≤ m then x else m) ≤ z
    by_cases g : x ≤ m
    · rw [if_pos g]
      exact ⟨Or.inl h.1, fun z hz => hz.elim (fun q => h.2 z q) (fun q => by have := hm z q; omega)⟩
    · rw [if_neg g]
      exact ⟨Or.inr hT, fun z hz => hz.elim (fun q => by have := h.2 z q; omega) (fun q => hm z q)⟩
theorem reO_min {o : Option Int} {a s : Int64} {m : Int} (h : reO o a) (hs : s.toInt = m) (hm : m < 4611686018427387904) : reO (omin o m) (mnJ a s) := by
  unfold mnJ
  cases o with
  | none =>
    have h : a = N62 := h
    show (if a ≤ s then a else s).toInt = m
    rw [if_neg (fun z => by rw [h, Int64.le_iff_toInt_le, n62I] at z; omega)]
    exact hs
  | some x =>
    have h : a.toInt = x := h
    show (if a ≤ s then a else s).toInt = if x ≤ m then x else m
    by_cases g : a ≤ s
    · rw [if_pos g, if_pos (by rw [Int64.le_iff_toInt_le] at g; omega)]; exact h
    · rw [if_neg g, if_neg (fun z => g (by rw [Int64.le_iff_toInt_le]; omega))]; exact hs
theorem reO_n {o : Option Int} {a : Int64} (h : reO o a) (hb : ∀ y, o = some y → y < 4611686018427387904) : a = N62 ↔ o = none := by
  cases o with
  | none => exact ⟨fun _ => rfl, fun _ => h⟩
  | some y =>
    have h : a.toInt = y := h
    exact ⟨fun z => by rw [z, n62I] at h; have := hb y rfl; omega, fun z => by cases z⟩
theorem mnL_reO {L : List NsT} (hL : okL L) (p q : Nat) : ∃ o, reO o (mnL L p q) ∧ isMin o (fun y => ∃ s, s ∈ L ∧ s.2.1 = Int32.ofNat p ∧ s.2.2.1 = Int32.ofNat q ∧ y = s.2.2.2.toInt) := by
  obtain ⟨o, h1, h2⟩ := mnL_min hL p q
  refine ⟨o, ?_, h2⟩
  cases o with
  | none => exact h1
  | some x => exact h1
/-- over the ends below q -/
def stQ (L : List NsT) (f : Nat → Option Int) (p q : Nat) (y : Int) : Prop := ∃ s, s ∈ L ∧ s.2.1 = Int32.ofNat p ∧ s.2.2.1.toNatClampNeg < q ∧ ∃ r, f s.2.2.1.toNatClampNeg = some r ∧ y = s.2.2.2.toInt + r
theorem ok_to {L : List NsT} (hL : okL L) {s : NsT} (hs : s ∈ L) : ∃ v, v < 10 ∧ s.2.2.1 = Int32.ofNat v ∧ s.2.2.1.toNatClampNeg = v := by
  obtain ⟨u, v, hu, hv, _, e1, e2⟩ := (hL s hs).1
  exact ⟨v, hv, e2, by rw [e2, xn_c (by omega)]⟩
theorem ok_fr {L : List NsT} (hL : okL L) {s : NsT} (hs : s ∈ L) : ∃ v, v < 10 ∧ s.2.1 = Int32.ofNat v := by
  obtain ⟨u, v, hu, hv, _, e1, e2⟩ := (hL s hs).1
  exact ⟨u, hu, e1⟩
theorem stQ_0 {L : List NsT} {f : Nat → Option Int} {p : Nat} : isMin none (stQ L f p 0) := fun y ⟨s, _, _, h, _⟩ => absurd h (Nat.not_lt_zero _)
theorem stQ_10 {L : List NsT} {f : Nat → Option Int} {p : Nat} (hL : okL L) {o : Option Int} (h : isMin o (stQ L f p 10)) : isMin o (stS L f p) := isMin_cg h (fun y => ⟨fun ⟨s, s1, s2, _, r, s3, s4⟩ => ⟨s, s1, s2, r, s3, s4⟩, fun ⟨s, s1, s2, r, s3, s4⟩ => by
  obtain ⟨v, hv, _, e⟩ := ok_to hL s1
  exact ⟨s, s1, s2, by omega, r, s3, s4⟩⟩)
theorem stQ_no {L : List NsT} {f : Nat → Option Int} {p q : Nat} {o : Option Int} (h : isMin o (stQ L f p q)) (hn : ∀ s, s ∈ L → s.2.1 = Int32.ofNat p → s.2.2.1.toNatClampNeg = q → f q = none) : isMin o (stQ L f p (q + 1)) := isMin_cg h (fun y => ⟨fun ⟨s, s1, s2, s5, r, s3, s4⟩ => ⟨s, s1, s2, by omega, r, s3, s4⟩, fun ⟨s, s1, s2, s5, r, s3, s4⟩ => by
  by_cases e : s.2.2.1.toNatClampNeg = q
  · have := hn s s1 s2 e
    rw [e, this] at s3
    cases s3
  · exact ⟨s, s1, s2, by omega, r, s3, s4⟩⟩)
def rwX (b : Nat) (M : xm_M) (L : List NsT) (to n : Nat) : Prop := ∀ q, q < 10 → reO (rsZ L to n q) (xm_gl M (b + 131 + n) q)
def smD (b : Nat) (M N : xm_M) : Prop := (∀ x k, ¬ (b + 129 ≤ x ∧ x ≤ b + 144) → xm_gi N x k = xm_gi M x k) ∧ ∀ x k, ¬ (b + 129 ≤ x ∧ x ≤ b + 144) → xm_gl N x k = xm_gl M x k
theorem smD.rf {b : Nat} {M : xm_M} : smD b M M := ⟨fun _ _ _ => rfl, fun _ _ _ => rfl⟩
theorem smD.tr {b : Nat} {M N P : xm_M} (h : smD b M N) (g : smD b N P) : smD b M P := ⟨fun x k q => (g.1 x k q).trans (h.1 x k q), fun x k q => (g.2 x k q).trans (h.2 x k q)⟩
theorem lsX.fd {b : Nat} {M N : xm_M} {L : List NsT} (h : lsX b M L) (s : smD b M N) : lsX b N L :=
  ⟨by rw [s.1 _ _ (by omega)]; exact h.1, fun j t ht => by rw [s.1 _ _ (by omega), s.1 _ _ (by omega), s.1 _ _ (by omega), s.2 _ _ (by omega)]; exact h.2.1 j t ht, fun u v hu hv => by rw [s.2 _ _ (by omega)]; exact h.2.2 u v hu hv⟩
theorem sh_sum {b n : Nat} (hn : n < 13) : xS b (b + 131 + n) = some (.inl (10, .long)) := by
  have : n = 0 ∨ n = 1 ∨ n = 2 ∨ n = 3 ∨ n = 4 ∨ n = 5 ∨ n = 6 ∨ n = 7 ∨ n = 8 ∨ n = 9 ∨ n = 10 ∨ n = 11 ∨ n = 12 := by omega
  rw [show b + 131 + n = b + (131 + n) by omega, xS_at]
  rcases this with rfl | rfl | rfl | rfl | rfl | rfl | rfl | rfl | rfl | rfl | rfl | rfl | rfl <;> decide
def only (b n : Nat) (M N : xm_M) : Prop := (∀ x k, xm_gi N x k = xm_gi M x k) ∧ ∀ x k, ¬ x = b + 131 + n → xm_gl N x k = xm_gl M x k
theorem only.d {b n : Nat} {M N : xm_M} (h : only b n M N) (hn : n < 13) : smD b M N := ⟨fun x k _ => h.1 x k, fun x k q => h.2 x k (by omega)⟩
theorem only.tr {b n : Nat} {M N P : xm_M} (h : only b n M N) (g : only b n N P) : only b n M P := ⟨fun x k => (g.1 x k).trans (h.1 x k), fun x k q => (g.2 x k q).trans (h.2 x k q)⟩
section FD
variable {l : Launch} {E : xm_E} {b : Nat} {c p : Bool} {Q : Option Value → xm_M → Prop} {L : List NsT}
theorem lp_ln27 (hok : okL L) {to n pt : Nat} (hn : n < 12) (hp : pt < 10) {M : xm_M} (hL : lsX b M L) (hR : rwX b M L to n) (h : ∀ w, reO (rsZ L to (n + 1) pt) w → xm_st b c p (xm_pl M (b + 131 + (n + 1)) pt w) → xm_X l E y8_lengthenRows rm8_lengthenRows Q 12 [(0, .ref (b + 129)), (1, .ref (b + 110)), (2, .int (Int32.ofNat (n + 1))), (3, .ref (b + 131 + n)), (4, .int (Int32.ofNat (pt + 1)))] [] 0 0 (xm_pl M (b + 131 + (n + 1)) pt w)) :
    ∀ (k q : Nat) (w : Int64) (o : Option Int), q + k = 10 → reO o w → isMin o (stQ L (rsZ L to n) pt q) → xm_st b c p M →
    xm_X l E y8_lengthenRows rm8_lengthenRows Q 27 [(0, .ref (b + 129)), (1, .ref (b + 110)), (2, .int (Int32.ofNat (n + 1))), (3, .ref (b + 131 + n)), (4, .int (Int32.ofNat pt)), (5, .long w), (7, .int (Int32.ofNat q))] [] 0 0 M := by
  intro k
  induction k with
  | zero =>
    intro q w o hq hw hm hS
    have hq : q = 10 := by omega
    subst hq
    refine t8_lengthenRows_27 M _ _ _ _ _ (sh_sum (by omega)) hS ⟨fun _ => ⟨xn_in (by omega) (by decide), xn_in (by omega) (by decide), ?_⟩, fun g => absurd (by decide) g⟩
    rw [xn_c (by omega), xn_c (by omega), xn_s]
    exact h w (by rw [isMin_un (rsZ_min L to n pt) (stQ_10 hok hm)]; exact hw)
  | succ k ih =>
    intro q w o hq hw hm hS
    have iq : vp_in (Int32.ofNat q) 10 := xn_in (by omega) (by decide)
    have ip : vp_in (Int32.ofNat pt) 10 := xn_in hp (by decide)
    have hq10 : q < 10 := by omega
    have r1 := hR q hq10
    have rbd := rsZ_bd hok to n q
    obtain ⟨o2, m1, m2⟩ := mnL_reO hok pt q
    have mbd : ∀ y, o2 = some y → -2147483648 ≤ y ∧ y ≤ 2147483647 := fun y e => by
      rw [e] at m2
      obtain ⟨⟨s, s1, _, _, s4⟩, _⟩ := m2
      have := isB_iff.mp (hok s s1).2
      omega
    have toq : ∀ s, s ∈ L → s.2.2.1.toNatClampNeg = q → s.2.2.1 = Int32.ofNat q := fun s hs e => by
      obtain ⟨v, _, e2, e3⟩ := ok_to hok hs
      rw [e2, show v = q by omega]
    refine t8_lengthenRows_27 M _ _ _ _ _ (sh_sum (by omega)) hS ⟨fun g => ?_, fun _ => ⟨iq, ?_⟩⟩
    · have g := (xn_le (a := 10) (by decide) (by omega)).mp g
      omega
    rw [xn_c (show q < 2 ^ 31 by omega), xn_c (show pt < 2 ^ 31 by omega), xn_s, hL.2.2 pt q hp hq10]
    refine ⟨fun g hS => ?_, fun g => ⟨ip, iq, fun g2 hS => ?_, fun g2 => ⟨ip, iq, iq, s_min_J ⟨_, rfl, hS, fun hS => ?_⟩⟩⟩⟩
    · exact ih (q + 1) w o (by omega) hw (stQ_no hm (fun _ _ _ _ => (reO_n r1 (fun y e => by have := rbd y e; omega)).mp g)) hS
    · have e2 := (reO_n m1 (fun y e => by have := mbd y e; omega)).mp g2
      rw [e2] at m2
      exact ih (q + 1) w o (by omega) hw (stQ_no hm (fun s s1 s2 s3 => absurd ⟨s, s1, s2, toq s s1 s3, rfl⟩ (m2 s.2.2.2.toInt))) hS
    · cases hr : rsZ L to n q with
      | none => exact absurd ((reO_n r1 (fun y e => by have := rbd y e; omega)).mpr hr) g
      | some r =>
        cases o2 with
        | none => exact absurd m1 g2
        | some x =>
          have r1 : (xm_gl M (b + 131 + n) q).toInt = r := by rw [hr] at r1; exact r1
          have m1 : (mnL L pt q).toInt = x := m1
          have b1 := mbd x rfl
          have b2 := rbd r hr
          have sm : (mnL L pt q + xm_gl M (b + 131 + n) q).toInt = x + r := by rw [ad64 (by omega) (by omega)]; omega
          refine ih (q + 1) _ (omin o (x + r)) (by omega) (reO_min hw sm (by omega)) ?_ hS
          refine isMin_cg (isMin_ad (T := fun y => ∃ s, s ∈ L ∧ s.2.1 = Int32.ofNat pt ∧ s.2.2.1 = Int32.ofNat q ∧ y = s.2.2.2.toInt + r) hm ?_ ?_) ?_
          · obtain ⟨⟨s, s1, s2, s3, s4⟩, _⟩ := m2
            exact ⟨s, s1, s2, s3, by omega⟩
          · intro y ⟨s, s1, s2, s3, s4⟩
            have := m2.2 _ ⟨s, s1, s2, s3, rfl⟩
            omega
          · intro y
            refine ⟨fun z => ?_, fun z => ?_⟩
            · rcases z with ⟨s, s1, s2, s5, r', s3, s4⟩ | ⟨s, s1, s2, s3, s4⟩
              · exact ⟨s, s1, s2, by omega, r', s3, s4⟩
              · have e : s.2.2.1.toNatClampNeg = q := by rw [s3, xn_c (by omega)]
                exact ⟨s, s1, s2, by omega, r, by rw [e]; exact hr, s4⟩
            · obtain ⟨s, s1, s2, s5, r', s3, s4⟩ := z
              by_cases e : s.2.2.1.toNatClampNeg = q
              · rw [e, hr] at s3
                cases s3
                exact Or.inr ⟨s, s1, s2, toq s s1 e, s4⟩
              · exact Or.inl ⟨s, s1, s2, by omega, r', s3, s4⟩
theorem lp_ln12 (hok : okL L) {to n : Nat} (hn : n < 12) : ∀ (k pt : Nat) (M : xm_M), pt + k = 10 → lsX b M L → rwX b M L to n → (∀ q, q < pt → reO (rsZ L to (n + 1) q) (xm_gl M (b + 131 + (n + 1)) q)) → xm_st b c p M →
    (∀ M1, only b (n + 1) M M1 → rwX b M1 L to (n + 1) → xm_st b c p M1 → Q none M1) →
    xm_X l E y8_lengthenRows rm8_lengthenRows Q 12 [(0, .ref (b + 129)), (1, .ref (b + 110)), (2, .int (Int32.ofNat (n + 1))), (3, .ref (b + 131 + n)), (4, .int (Int32.ofNat pt))] [] 0 0 M := by
  intro k
  induction k with
  | zero =>
    intro pt M hp hL hR hD hS h
    exact t8_lengthenRows_12 M _ _ _ (sh_sum (by omega)) hS ⟨fun _ hS => h M ⟨fun _ _ => rfl, fun _ _ _ => rfl⟩ (fun q hq => hD q (by omega)) hS, fun g => absurd (by rw [show pt = 10 by omega]; decide) g⟩
  | succ k ih =>
    intro pt M hp hL hR hD hS h
    refine t8_lengthenRows_12 M _ _ _ (sh_sum (by omega)) hS ⟨fun g => ?_, fun _ hS => ?_⟩
    · have g := (xn_le (a := 10) (by decide) (by omega)).mp g
      omega
    refine lp_ln27 hok hn (show pt < 10 by omega) hL hR (fun w hw hS => ?_) 10 0 N62 none rfl rfl stQ_0 hS
    have s0 : only b (n + 1) M (xm_pl M (b + 131 + (n + 1)) pt w) := ⟨fun _ _ => rfl, fun x j q => by rw [gl_pl, if_neg (fun z => q z.1)]⟩
    refine ih (pt + 1) _ (by omega) (hL.fd (s0.d (by omega))) (fun q hq => by rw [s0.2 _ _ (by omega)]; exact hR q hq) (fun q hq => ?_) hS (fun M1 s1 r1 hS => h M1 (s0.tr s1) r1 hS)
    rw [gl_pl]
    by_cases e : q = pt
    · rw [if_pos ⟨rfl, e⟩, e]; exact hw
    · rw [if_neg (fun z => e z.2)]; exact hD q (by omega)
theorem s8_lengthenRows (hok : okL L) {to n : Nat} {M : xm_M} (hn : n < 12) (hL : lsX b M L) (hR : rwX b M L to n) (hS : xm_st b c p M) (h : ∀ M1, only b (n + 1) M M1 → rwX b M1 L to (n + 1) → xm_st b c p M1 → Q none M1) : xm_C l E y8_lengthenRows rm8_lengthenRows [.ref (b + 129), .ref (b + 110), .int (Int32.ofNat (n + 1))] M Q := by
  have e : Int32.ofNat (n + 1) - (1 : Int32) = Int32.ofNat n := by rw [← ix1]; exact Int32.add_sub_cancel _ _
  refine xm_enter (by decide) (Nat.le_of_ble_eq_true rfl) (t8_lengthenRows_0 M _ hS ?_)
  rw [e, xn_c (by omega)]
  exact ⟨xn_in (by omega) (by decide), fun hS => lp_ln12 hok hn 10 0 M rfl hL hR (fun q hq => absurd hq (Nat.not_lt_zero q)) hS h⟩
theorem lp_ff3 (hok : okL L) (hlen : L.length ≤ 200) {to n pt : Nat} {left : Int} {w : Int64} {t : NsT} {M : xm_M} (hn : n < 12) (hw : w.toInt = left) (hL : lsX b M L) (hR : rwX b M L to n) (h : ∀ j, L[j]? = some t → xm_st b c p M → Q (some (.int (Int32.ofNat j))) M) : ∀ (R P : List NsT), L = P ++ R → R.find? (fitB (rsZ L to n) pt left) = some t → xm_st b c p M →
    xm_X l E y8_firstFitting rm8_firstFitting Q 3 [(0, .ref (b + 110)), (1, .int (Int32.ofNat pt)), (2, .long w), (4, .ref (b + 131 + n)), (5, .int (Int32.ofNat P.length))] [] 0 0 M := by
  intro R
  induction R with
  | nil => intro P _ hf; cases hf
  | cons s R ih =>
    intro P e hf hS
    have hl : P.length < L.length := by rw [e, List.length_append]; show _ < _ + (R.length + 1); omega
    have gs : L[P.length]? = some s := by rw [e, List.getElem?_append_right (Nat.le_refl _), Nat.sub_self]; rfl
    have ms : s ∈ L := List.mem_of_getElem? gs
    obtain ⟨v, hv, e2, e3⟩ := ok_to hok ms
    have hB := isB_iff.mp (hok s ms).2
    obtain ⟨q1, q2, q3, q4⟩ := hL.2.1 _ s gs
    have i0 : vp_in (Int32.ofNat P.length) 200 := xn_in (by omega) (by decide)
    have hl' : (P ++ [s]).length = P.length + 1 := by rw [List.length_append]; rfl
    have r1 := hR v hv
    have rbd := rsZ_bd hok to n v
    have nx : fitB (rsZ L to n) pt left s = false → xm_st b c p M → xm_X l E y8_firstFitting rm8_firstFitting Q 3 [(0, .ref (b + 110)), (1, .int (Int32.ofNat pt)), (2, .long w), (4, .ref (b + 131 + n)), (5, .int (Int32.ofNat (P.length + 1)))] [] 0 0 M := fun hb hS => by
      have := ih (P ++ [s]) (by rw [List.append_assoc]; exact e) (by rw [List.find?_cons_of_neg (by rw [hb]; decide)] at hf; exact hf) hS
      rw [hl'] at this
      exact this
    refine t8_firstFitting_3 M _ _ _ _ (sh_sum (by omega)) hS ?_
    rw [hL.1, xn_c (by omega), q2, q3, q4, e3, xn_s]
    refine ⟨fun g => ?_, fun _ => ⟨i0, by rw [e2]; exact xn_in hv (by decide), i0, fun g => nx ?_, fun g => ⟨fun g2 => nx ?_, fun g2 => ⟨i0, fun g3 => nx ?_, fun g3 => ?_⟩⟩⟩⟩
    · have g := (xn_le (by omega) (by omega)).mp g
      omega
    · unfold fitB; rw [decide_eq_false g]; rfl
    · have := (reO_n r1 (fun y e => by have := rbd y e; omega)).mp g2
      unfold fitB; rw [e3, this, decide_eq_true g]; rfl
    · cases hr : rsZ L to n v with
      | none => exact absurd ((reO_n r1 (fun y e => by have := rbd y e; omega)).mpr hr) g2
      | some r =>
        have r1 : (xm_gl M (b + 131 + n) v).toInt = r := by rw [hr] at r1; exact r1
        have b2 := rbd r hr
        rw [Int64.lt_iff_toInt_lt, ad64 (by omega) (by omega), hw, r1] at g3
        unfold fitB; rw [e3, hr, decide_eq_true g]
        show (true && decide (s.2.2.2.toInt + r ≤ left)) = false
        rw [decide_eq_false (by omega)]; rfl
    · cases hr : rsZ L to n v with
      | none => exact absurd ((reO_n r1 (fun y e => by have := rbd y e; omega)).mpr hr) g2
      | some r =>
        have r1 : (xm_gl M (b + 131 + n) v).toInt = r := by rw [hr] at r1; exact r1
        have b2 := rbd r hr
        rw [Int64.lt_iff_toInt_lt, ad64 (by omega) (by omega), hw, r1] at g3
        have ft : fitB (rsZ L to n) pt left s = true := by
          unfold fitB; rw [e3, hr, decide_eq_true g]
          show (true && decide (s.2.2.2.toInt + r ≤ left)) = true
          rw [decide_eq_true (by omega)]; rfl
        rw [List.find?_cons_of_pos ft] at hf
        cases hf
        exact h _ gs
theorem s8_firstFitting (hok : okL L) (hlen : L.length ≤ 200) {to n pt : Nat} {left : Int} {w : Int64} {t : NsT} {M : xm_M} (hn : n < 12) (hw : w.toInt = left) (hL : lsX b M L) (hR : rwX b M L to n) (hf : L.find? (fitB (rsZ L to n) pt left) = some t) (hS : xm_st b c p M) (h : ∀ j, L[j]? = some t → xm_st b c p M → Q (some (.int (Int32.ofNat j))) M) : xm_C l E y8_firstFitting rm8_firstFitting [.ref (b + 110), .int (Int32.ofNat pt), .long w, .ref (b + 131 + n)] M Q :=
  xm_enter (by decide) (Nat.le_of_ble_eq_true rfl) (t8_firstFitting_0 M _ _ _ (sh_sum (by omega)) hS (fun hS => lp_ff3 hok hlen hn hw hL hR h L [] rfl hf hS))
/-- the row as it lies in the finder -/
def rowX (b : Nat) (M : xm_M) (C : List NsT) : Prop := xm_gi M (b + 129) 2 = Int32.ofNat C.length ∧ ∀ j s, C[j]? = some s → xm_gi M (b + 144) j = s.1
theorem lp_cs9 (hok : okL L) (hlen : L.length ≤ 200) {to n : Nat} (hn : n ≤ 12) : ∀ (m j pt : Nat) (left x : Int) (w : Int64) (D : List NsT) (M : xm_M), j + m = n → D.length = j → w.toInt = left → -1099511627776 - 2147483648 * (j : Int) ≤ left → left ≤ 1099511627776 + 2147483648 * (j : Int) → rsZ L to m pt = some x → x ≤ left → lsX b M L → (∀ i, i < n → rwX b M L to i) → xm_gi M (b + 129) 2 = Int32.ofNat n → (∀ i s, D[i]? = some s → xm_gi M (b + 144) i = s.1) → xm_st b c p M →
    (∀ M1, smD b M M1 → rowX b M1 (D ++ chZ L to m pt left) → xm_st b c p M1 → Q none M1) →
    xm_X l E y8_chooseSteps rm8_chooseSteps Q 9 [(0, .ref (b + 129)), (1, .ref (b + 110)), (5, .int (Int32.ofNat pt)), (6, .long w), (8, .int (Int32.ofNat j))] [] 0 0 M := by
  intro m
  induction m with
  | zero =>
    intro j pt left x w D M hj hD hw hl1 hl2 hx hxl hL hR h2 hD2 hS h
    refine t8_chooseSteps_9 M _ _ _ hS ?_
    rw [h2]
    refine ⟨fun _ hS => h M smD.rf ?_ hS, fun g => absurd ((xn_le (by omega) (by omega)).mpr (by omega)) g⟩
    show rowX b M (D ++ [])
    rw [List.append_nil]
    exact ⟨by rw [hD, show j = n by omega]; exact h2, hD2⟩
  | succ m ih =>
    intro j pt left x w D M hj hD hw hl1 hl2 hx hxl hL hR h2 hD2 hS h
    obtain ⟨t, t1, t2, t3, r, t4, t5⟩ := fit_ex hx hxl
    obtain ⟨v, hv, e2, e3⟩ := ok_to hok t2
    have hB := isB_iff.mp (hok t t2).2
    have ec : chZ L to (m + 1) pt left = t :: chZ L to m v (left - t.2.2.2.toInt) := by
      show (match L.find? (fitB (rsZ L to m) pt left) with | none => [] | some s => s :: chZ L to m s.2.2.1.toNatClampNeg (left - s.2.2.2.toInt)) = _
      rw [t1, ← e3]
    rw [e3] at t4
    have eix : Int32.ofNat n - Int32.ofNat j - (1 : Int32) = Int32.ofNat m := by
      rw [← hj, show j + (m + 1) = m + 1 + j by omega, Int32.ofNat_add, Int32.add_sub_cancel, ← ix1, Int32.add_sub_cancel]
    refine t8_chooseSteps_9 M _ _ _ hS ?_
    rw [h2, eix, xn_c (show m < 2 ^ 31 by omega)]
    refine ⟨fun g => ?_, fun _ => ⟨xn_in (by omega) (by decide), s8_firstFitting hok hlen (by omega) hw hL (hR m (by omega)) t1 hS (fun i hi hS => ⟨_, rfl, hS, ?_⟩)⟩⟩
    · have g := (xn_le (by omega) (by omega)).mp g
      omega
    have hil : i < L.length := by
      have := List.getElem?_eq_some_iff.mp hi
      exact this.1
    have ii : vp_in (Int32.ofNat i) 200 := xn_in (by omega) (by decide)
    obtain ⟨q1, q2, q3, q4⟩ := hL.2.1 _ t hi
    rw [xn_c (show i < 2 ^ 31 by omega), xn_c (show j < 2 ^ 31 by omega), xn_s]
    refine ⟨ii, xn_in (by omega) (by decide), ii, ii, fun hS => ?_⟩
    have s0 : smD b M (xm_pi M (b + 144) j (xm_gi M (b + 111) i)) := ⟨fun x k q => by rw [gi_pi, if_neg (by omega)], fun _ _ _ => rfl⟩
    rw [gi_pi, if_neg (by omega), gl_pi, q3, q4, e2]
    have sb : (w - t.2.2.2).toInt = left - t.2.2.2.toInt := by
      rw [Int64.toInt_sub, hw]
      exact Int.bmod_eq_of_le (by omega) (by omega)
    refine ih (j + 1) v (left - t.2.2.2.toInt) r (w - t.2.2.2) (D ++ [t]) _ (by omega) (by rw [List.length_append, hD]; rfl) sb (by omega) (by omega) t4 t5 (hL.fd s0) (fun i hi q hq => ?_) ?_ (fun i s hs => ?_) hS (fun M1 s1 r1 hS => h M1 (s0.tr s1) ?_ hS)
    · rw [gl_pi]; exact hR i hi q hq
    · rw [gi_pi, if_neg (by omega)]; exact h2
    · rw [gi_pi]
      by_cases e : i = j
      · rw [if_pos ⟨rfl, e⟩, q1]
        rw [e, ← hD, List.getElem?_append_right (Nat.le_refl _), Nat.sub_self] at hs
        have hs : some t = some s := hs
        cases hs; rfl
      · rw [if_neg (fun z => e z.2)]
        by_cases e4 : i < j
        · rw [List.getElem?_append_left (by omega)] at hs
          exact hD2 i s hs
        · rw [List.getElem?_eq_none (by rw [List.length_append, hD]; show j + 1 ≤ i; omega)] at hs
          cases hs
    · rw [List.append_assoc] at r1
      rw [ec]
      exact r1
theorem lp_fd24 (hok : okL L) (hlen : L.length ≤ 200) {fr to : Nat} {most : Int} {w : Int64} (hfr : fr < 10) (hw : w.toInt = most) (hb1 : -1099511627776 ≤ most) (hb2 : most ≤ 1099511627776) : ∀ (k n : Nat) (M : xm_M), n + 1 + k = 13 → lsX b M L → (∀ i, i < n + 1 → rwX b M L to i) → xm_st b c p M →
    (∀ M1, smD b M M1 → (∀ C, fnZ L fr to most k (n + 1) = some C → rowX b M1 C) → xm_st b c p M1 → Q (some (.int (xz (fnZ L fr to most k (n + 1)).isSome))) M1) →
    xm_X l E y8_find rm8_find Q 24 [(0, .ref (b + 129)), (1, .ref (b + 110)), (2, .int (Int32.ofNat fr)), (4, .long w), (6, .int (Int32.ofNat (n + 1)))] [] 0 0 M := by
  intro k
  induction k with
  | zero =>
    intro n M hn hL hR hS h
    exact t8_find_24 M _ _ _ hS ⟨fun _ hS => h M smD.rf (fun C e => by cases e) hS, fun g => absurd (by rw [show n + 1 = 13 by omega]; decide) g⟩
  | succ k ih =>
    intro n M hn hL hR hS h
    refine t8_find_24 M _ _ _ hS ⟨fun g => ?_, fun _ => s8_lengthenRows hok (by omega) hL (hR n (by omega)) hS (fun M1 o1 r1 hS => ⟨rfl, hS, xn_in (by omega) (by decide), xn_in hfr (by decide), ?_⟩)⟩
    · have g := (xn_lt (a := 12) (by decide) (by omega)).mp g
      omega
    have s1 := o1.d (show n + 1 < 13 by omega)
    have hR1 : ∀ i, i < n + 1 + 1 → rwX b M1 L to i := fun i hi => by
      by_cases e : i = n + 1
      · rw [e]; exact r1
      · exact fun q hq => by rw [o1.2 _ _ (by omega)]; exact hR i (by omega) q hq
    have v1 := r1 fr hfr
    have rbd := rsZ_bd hok to (n + 1) fr
    have hle : leZ (rsZ L to (n + 1) fr) most = true ↔ ¬ w < xm_gl M1 (b + 131 + (n + 1)) fr := by
      rw [Int64.lt_iff_toInt_lt, hw]
      cases hr : rsZ L to (n + 1) fr with
      | none =>
        rw [hr] at v1
        have v1 : xm_gl M1 (b + 131 + (n + 1)) fr = N62 := v1
        rw [v1, n62I]
        exact ⟨fun z => (by cases z), fun z => absurd (by omega) z⟩
      | some x =>
        rw [hr] at v1
        have v1 : (xm_gl M1 (b + 131 + (n + 1)) fr).toInt = x := v1
        rw [v1]
        show decide (x ≤ most) = true ↔ _
        rw [decide_eq_true_iff]
        omega
    rw [xn_c (show n + 1 < 2 ^ 31 by omega), xn_c (show fr < 2 ^ 31 by omega), xn_s]
    have ef : fnZ L fr to most (k + 1) (n + 1) = if leZ (rsZ L to (n + 1) fr) most = true then some (chZ L to (n + 1) fr most) else fnZ L fr to most k (n + 1 + 1) := rfl
    rw [ef] at h
    refine ⟨fun g hS => ?_, fun g => ?_⟩
    · rw [if_neg (fun z => hle.mp z g)] at h
      exact ih (n + 1) M1 (by omega) (hL.fd s1) hR1 hS (fun M2 s2 r2 hS => h M2 (s1.tr s2) r2 hS)
    · rw [if_pos (hle.mpr g)] at h
      cases hr : rsZ L to (n + 1) fr with
      | none => rw [hr] at hle; exact absurd (hle.mpr g) (fun z => by cases z)
      | some x =>
        have hxm : x ≤ most := by
          have := hle.mpr g
          rw [hr] at this
          exact of_decide_eq_true this
        have s2 : smD b M1 (xm_pi M1 (b + 129) 2 (Int32.ofNat (n + 1))) := ⟨fun x k q => by rw [gi_pi, if_neg (by omega)], fun _ _ _ => rfl⟩
        refine xm_enter (by decide) (Nat.le_of_ble_eq_true rfl) (t8_chooseSteps_0 _ _ _ hS (fun hS => lp_cs9 hok hlen (n := n + 1) (by omega) (n + 1) 0 fr most x w [] _ (by omega) rfl hw (by omega) (by omega) hr hxm ((hL.fd s1).fd s2) (fun i hi q hq => ?_) ?_ (fun i s hs => (by cases hs)) hS (fun M3 s3 r3 hS => ⟨rfl, hS, fun hS => h M3 (s1.tr (s2.tr s3)) (fun C e => ?_) hS⟩)))
        · rw [gl_pi]; exact hR1 i (by omega) q hq
        · rw [gi_pi, if_pos ⟨rfl, rfl⟩]
        · cases e; exact r3
theorem s8_find (hok : okL L) (hlen : L.length ≤ 200) {fr to : Nat} {most : Int} {w : Int64} {M : xm_M} (hfr : fr < 10) (hto : to < 10) (hw : w.toInt = most) (hb1 : -1099511627776 ≤ most) (hb2 : most ≤ 1099511627776) (hL : lsX b M L) (hS : xm_st b c p M) (h : ∀ M1, smD b M M1 → (∀ C, fnR L fr to most = some C → rowX b M1 C) → xm_st b c p M1 → Q (some (.int (xz (fnR L fr to most).isSome))) M1) : xm_C l E y8_find rm8_find [.ref (b + 129), .ref (b + 110), .int (Int32.ofNat fr), .int (Int32.ofNat to), .long w] M Q := by
  refine xm_enter (by decide) (Nat.le_of_ble_eq_true rfl) (t8_find_0 M _ _ _ hS (s_fill_J (n := 10) (hS.1 _ _ (sh_sum (n := 0) (by decide))) (by decide) ⟨rfl, hS, xn_in hto (by decide), ?_⟩))
  rw [xn_c (by omega)]
  intro hS
  have rd : ∀ x j, xm_gl (xm_fl_J M (b + 131 + 0) 10 N62) x j = if x = b + 131 + 0 ∧ j < 10 then N62 else xm_gl M x j := fun _ _ => rfl
  have s0 : smD b M (xm_pl (xm_fl_J M (b + 131 + 0) 10 N62) (b + 131 + 0) to 0) := ⟨fun _ _ _ => rfl, fun x j q => by rw [gl_pl, if_neg (by omega), rd, if_neg (by omega)]⟩
  refine lp_fd24 hok hlen (to := to) hfr hw hb1 hb2 12 0 _ rfl (hL.fd s0) (fun i hi q hq => ?_) hS (fun M1 s1 r1 hS => h M1 (s0.tr s1) r1 hS)
  rw [show i = 0 by omega, show Int32.toNatClampNeg (0 : Int32) = 0 from rfl, gl_pl, rd]
  show reO (if q = to then some 0 else none) _
  by_cases e : q = to
  · rw [if_pos e, if_pos ⟨rfl, e⟩]; rfl
  · rw [if_neg e, if_neg (fun z => e z.2), if_pos ⟨rfl, hq⟩]; rfl
end FD
