/-! the reference's finder of rows -/
def reM (o : Option Int) (x : Int64) : Prop := match o with
  | none => x = 1125899906842624
  | some y => x.toInt = y
theorem reM_n {o : Option Int} {a : Int64} (h : reM o a) (hb : ∀ y, o = some y → y < (1125899906842624 : Int)) : (1125899906842624 : Int64) ≤ a ↔ o = none := by
  rw [Int64.le_iff_toInt_le, c50I]
  cases o with
  | none =>
    have h : a = 1125899906842624 := h
    rw [h, c50I]
    exact ⟨fun _ => rfl, fun _ => Int.le_refl _⟩
  | some y =>
    have h : a.toInt = y := h
    have := hb y rfl
    exact ⟨fun z => absurd z (by omega), fun z => by cases z⟩
def rwM (b : Nat) (M : xm_M) (L : List NsT) (to n : Nat) : Prop := ∀ q, q < 10 → reM (rsZ L to n q) (xm_gl M (b + 170) (10 * n + q))
def smE (b : Nat) (M N : xm_M) : Prop := (∀ x k, ¬ ((x = b + 154 ∧ k = 26) ∨ x = b + 171) → xm_gi N x k = xm_gi M x k) ∧ ∀ x k, ¬ x = b + 170 → xm_gl N x k = xm_gl M x k
theorem smE.rf {b : Nat} {M : xm_M} : smE b M M := ⟨fun _ _ _ => rfl, fun _ _ _ => rfl⟩
theorem smE.tr {b : Nat} {M N P : xm_M} (h : smE b M N) (g : smE b N P) : smE b M P := ⟨fun x k q => (g.1 x k q).trans (h.1 x k q), fun x k q => (g.2 x k q).trans (h.2 x k q)⟩
theorem lsM.e {b : Nat} {M N : xm_M} {L : List NsT} (h : lsM b M L) (s : smE b M N) : lsM b N L := ⟨by rw [s.1 _ _ (by omega)]; exact h.1, fun j t ht => by rw [s.1 _ _ (by omega), s.1 _ _ (by omega), s.1 _ _ (by omega), s.2 _ _ (by omega)]; exact h.2 j t ht⟩
/-- only the rests of rows of n steps -/
def onlE (b n : Nat) (M N : xm_M) : Prop := (∀ x k, xm_gi N x k = xm_gi M x k) ∧ ∀ x k, ¬ (x = b + 170 ∧ 10 * n ≤ k ∧ k < 10 * n + 10) → xm_gl N x k = xm_gl M x k
theorem onlE.rf {b n : Nat} {M : xm_M} : onlE b n M M := ⟨fun _ _ => rfl, fun _ _ _ => rfl⟩
theorem onlE.tr {b n : Nat} {M N P : xm_M} (h : onlE b n M N) (g : onlE b n N P) : onlE b n M P := ⟨fun x k => (g.1 x k).trans (h.1 x k), fun x k q => (g.2 x k q).trans (h.2 x k q)⟩
theorem onlE.e {b n : Nat} {M N : xm_M} (h : onlE b n M N) : smE b M N := ⟨fun x k _ => h.1 x k, fun x k q => h.2 x k (by omega)⟩
theorem onlE.put {b n q : Nat} {M : xm_M} {w : Int64} (hq : q < 10) : onlE b n M (xm_pl M (b + 170) (10 * n + q) w) := ⟨fun _ _ => rfl, fun x j g => by rw [gl_pl, if_neg (by omega)]⟩
/-- in the order of their numbers -/
def srL (L : List NsT) : Prop := ∀ (i j : Nat) (s t : NsT), i < j → L[i]? = some s → L[j]? = some t → s.1 ≤ t.1
def chM (b : Nat) (M : xm_M) (L C : List NsT) : Prop := xm_gi M (b + 154) 26 = Int32.ofNat C.length ∧ ∀ k s, C[k]? = some s → ∃ j, xm_gi M (b + 171) k = Int32.ofNat j ∧ L[j]? = some s
theorem ixU (n q : Nat) : (10 : Int32) * Int32.ofNat (n + 1) - (10 : Int32) + Int32.ofNat q = Int32.ofNat (10 * n + q) := by
  have : (10 : Int32) * Int32.ofNat (n + 1) = Int32.ofNat (10 * n) + 10 := by
    rw [show (10 : Int32) = Int32.ofNat 10 from rfl, ← Int32.ofNat_mul, ← Int32.ofNat_add]; rfl
  rw [this, Int32.add_sub_cancel, ← Int32.ofNat_add]
section FR
variable {l : Launch} {E : xm_E} {b : Nat} {c p : Bool} {Q : Option Value → xm_M → Prop} {L : List NsT}
theorem lp_fr2 {n : Nat} (hn : n < 13) : ∀ (k q : Nat) (M : xm_M), q + k = 10 → (∀ i, i < q → xm_gl M (b + 170) (10 * n + i) = 1125899906842624) → xm_st b c p M →
    (∀ M1, onlE b n M M1 → (∀ i, i < 10 → xm_gl M1 (b + 170) (10 * n + i) = 1125899906842624) → xm_st b c p M1 → xm_X l E y11_findRests rm11_findRests Q 30 [(0, .ref (b + 154)), (1, .int (Int32.ofNat n)), (2, .int (Int32.ofNat 0))] [] 0 0 M1) →
    xm_X l E y11_findRests rm11_findRests Q 2 [(0, .ref (b + 154)), (1, .int (Int32.ofNat n)), (2, .int (Int32.ofNat q))] [] 0 0 M := by
  intro k
  induction k with
  | zero =>
    intro q M hq hz hS h
    exact t11_findRests_2 M _ _ hS ⟨fun _ hS => h M onlE.rf (fun i hi => hz i (by omega)) hS, fun g => absurd (by rw [show q = 10 by omega]; decide) g⟩
  | succ k ih =>
    intro q M hq hz hS h
    refine t11_findRests_2 M _ _ hS ⟨fun g => ?_, fun _ => ?_⟩
    · have g := (xn_le (a := 10) (by decide) (by omega)).mp g
      omega
    rw [ixT, xn_c (by omega), xn_s]
    refine ⟨xn_in (by omega) (by decide), fun hS => ih (q + 1) _ (by omega) (fun i hi => ?_) hS (fun M1 s1 z1 hS => h M1 ((onlE.put (by omega)).tr s1) z1 hS)⟩
    rw [gl_pl]
    by_cases e : i = q
    · rw [if_pos ⟨rfl, by omega⟩]
    · rw [if_neg (by omega)]; exact hz i (by omega)
theorem lp_fr30 (hok : okL L) (hlen : L.length ≤ 1200) {to n : Nat} (hn : n < 12) : ∀ (R P : List NsT) (M : xm_M), L = P ++ R → lsM b M L → rwM b M L to n → (∀ q, q < 10 → reM (P.foldl (rsF (rsZ L to n) q) none) (xm_gl M (b + 170) (10 * (n + 1) + q))) → xm_st b c p M →
    (∀ M1, onlE b (n + 1) M M1 → rwM b M1 L to (n + 1) → xm_st b c p M1 → Q none M1) →
    xm_X l E y11_findRests rm11_findRests Q 30 [(0, .ref (b + 154)), (1, .int (Int32.ofNat (n + 1))), (2, .int (Int32.ofNat P.length))] [] 0 0 M := by
  intro R
  induction R with
  | nil =>
    intro P M e hM hR hD hS h
    rw [List.append_nil] at e
    subst e
    refine t11_findRests_30 M _ _ hS ?_
    rw [hM.1]
    exact ⟨fun _ hS => h M onlE.rf hD hS, fun g => absurd ((xn_le (by omega) (by omega)).mpr (Nat.le_refl _)) g⟩
  | cons s R ih =>
    intro P M e hM hR hD hS h
    have hl : P.length < L.length := by rw [e, List.length_append]; show _ < _ + (R.length + 1); omega
    have gs : L[P.length]? = some s := by rw [e, List.getElem?_append_right (Nat.le_refl _), Nat.sub_self]; rfl
    have ms : s ∈ L := List.mem_of_getElem? gs
    obtain ⟨u, hu, e1⟩ := ok_fr hok ms
    obtain ⟨v, hv, e2, e3⟩ := ok_to hok ms
    have hB := isB_iff.mp (hok s ms).2
    obtain ⟨q1, q2, q3, q4⟩ := hM.2 _ s gs
    have e' : L = (P ++ [s]) ++ R := by rw [List.append_assoc]; exact e
    have i0 : vp_in (Int32.ofNat P.length) 1200 := xn_in (by omega) (by decide)
    have hl' : (P ++ [s]).length = P.length + 1 := by rw [List.length_append]; rfl
    have ef : ∀ q, (P ++ [s]).foldl (rsF (rsZ L to n) q) none = rsF (rsZ L to n) q (P.foldl (rsF (rsZ L to n) q) none) s := fun q => by rw [List.foldl_append]; rfl
    have eo : ∀ q, q < 10 → ¬ q = u → (P ++ [s]).foldl (rsF (rsZ L to n) q) none = P.foldl (rsF (rsZ L to n) q) none := fun q hq hne => by
      rw [ef]
      exact if_neg (fun z => hne (ofN_inj (by omega) (by omega) (z.symm.trans e1)))
    have hfm := rsF_min (f := rsZ L to n) (p := u) P none (fun _ => False) (fun _ => id)
    have hD1 := hD u hu
    have eu := ef u
    generalize hacc : P.foldl (rsF (rsZ L to n) u) none = acc at hfm hD1 eu
    have abd : ∀ y, acc = some y → y < 1125899906842624 := fun y ey => by
      rw [ey] at hfm
      rcases hfm.1 with z | ⟨t, t1, t2, r, t3, t4⟩
      · exact z.elim
      · have b1 := isB_iff.mp (hok t (by rw [e]; exact List.mem_append_left _ t1)).2
        have b2 := rsZ_bd hok to n _ r t3
        omega
    have r1 := hR v hv
    have rbd := rsZ_bd hok to n v
    have nx : (P ++ [s]).foldl (rsF (rsZ L to n) u) none = acc → xm_st b c p M → xm_X l E y11_findRests rm11_findRests Q 30 [(0, .ref (b + 154)), (1, .int (Int32.ofNat (n + 1))), (2, .int (Int32.ofNat (P.length + 1)))] [] 0 0 M := fun ea hS => by
      have := ih (P ++ [s]) M e' hM hR (fun q hq => ?_) hS h
      · rw [hl'] at this; exact this
      · by_cases z : q = u
        · rw [z, ea]; exact hD1
        · rw [eo q hq z]; exact hD q hq
    refine t11_findRests_30 M _ _ hS ?_
    rw [hM.1, xn_c (show P.length < 2 ^ 31 by omega), q2, q3, q4, e1, e2, ixU, ixT, xn_c (show 10 * n + v < 2 ^ 31 by omega), xn_c (show 10 * (n + 1) + u < 2 ^ 31 by omega), xn_s]
    have ix1' : vp_in (Int32.ofNat (10 * n + v)) 130 := xn_in (by omega) (by decide)
    have ix2' : vp_in (Int32.ofNat (10 * (n + 1) + u)) 130 := xn_in (by omega) (by decide)
    refine ⟨fun g => ?_, fun _ => ⟨i0, ix1', i0, fun g => nx ?_, fun g => ⟨i0, ix2', fun g2 => nx ?_, fun g2 => ⟨i0, ix2', fun hS => ?_⟩⟩⟩⟩
    · have g := (xn_le (by omega) (by omega)).mp g
      omega
    · have := (reM_n r1 (fun y e => by have := rbd y e; omega)).mp g
      rw [eu]
      unfold rsF
      rw [if_pos e1, e3, this]
    · cases hr : rsZ L to n v with
      | none => exact absurd ((reM_n r1 (fun y e => by have := rbd y e; omega)).mpr hr) g
      | some r =>
        have r1 : (xm_gl M (b + 170) (10 * n + v)).toInt = r := by rw [hr] at r1; exact r1
        have b2 := rbd r hr
        rw [eu]
        unfold rsF
        rw [if_pos e1, e3, hr]
        show omin acc (s.2.2.2.toInt + r) = acc
        rw [Int64.le_iff_toInt_le, ad64 (by omega) (by omega), r1] at g2
        cases acc with
        | none =>
          have hD1 : xm_gl M (b + 170) (10 * (n + 1) + u) = 1125899906842624 := hD1
          rw [hD1, c50I] at g2
          omega
        | some y =>
          have hD1 : (xm_gl M (b + 170) (10 * (n + 1) + u)).toInt = y := hD1
          show some (if y ≤ _ then y else _) = some y
          rw [if_pos (by omega)]
    · cases hr : rsZ L to n v with
      | none => exact absurd ((reM_n r1 (fun y e => by have := rbd y e; omega)).mpr hr) g
      | some r =>
        have r1 : (xm_gl M (b + 170) (10 * n + v)).toInt = r := by rw [hr] at r1; exact r1
        have b2 := rbd r hr
        have sm : (s.2.2.2 + xm_gl M (b + 170) (10 * n + v)).toInt = s.2.2.2.toInt + r := by rw [ad64 (by omega) (by omega)]; omega
        have ea : (P ++ [s]).foldl (rsF (rsZ L to n) u) none = some (s.2.2.2.toInt + r) := by
          rw [eu]
          unfold rsF
          rw [if_pos e1, e3, hr]
          show omin acc (s.2.2.2.toInt + r) = _
          cases acc with
          | none => rfl
          | some y =>
            have hD1 : (xm_gl M (b + 170) (10 * (n + 1) + u)).toInt = y := hD1
            show some (if y ≤ _ then y else _) = _
            rw [if_neg (fun z => g2 (by rw [Int64.le_iff_toInt_le, sm]; omega))]
        have s0 : onlE b (n + 1) M (xm_pl M (b + 170) (10 * (n + 1) + u) (s.2.2.2 + xm_gl M (b + 170) (10 * n + v))) := onlE.put hu
        have := ih (P ++ [s]) _ e' (hM.e s0.e) (fun q hq => by rw [s0.2 _ _ (by omega)]; exact hR q hq) (fun q hq => ?_) hS (fun M1 s1 w1 hS => h M1 (s0.tr s1) w1 hS)
        · rw [hl'] at this; exact this
        · rw [gl_pl]
          by_cases z : q = u
          · rw [z, ea, if_pos ⟨rfl, rfl⟩]; exact sm
          · rw [eo q hq z, if_neg (by omega)]; exact hD q hq
theorem s11_findRests (hok : okL L) (hlen : L.length ≤ 1200) {to n : Nat} {M : xm_M} (hn : n < 12) (hM : lsM b M L) (hR : rwM b M L to n) (hS : xm_st b c p M) (h : ∀ M1, onlE b (n + 1) M M1 → rwM b M1 L to (n + 1) → xm_st b c p M1 → Q none M1) : xm_C l E y11_findRests rm11_findRests [.ref (b + 154), .int (Int32.ofNat (n + 1))] M Q :=
  xm_enter (by decide) (Nat.le_of_ble_eq_true rfl) (t11_findRests_0 M _ hS (fun hS => lp_fr2 (by omega) 10 0 M rfl (fun i hi => absurd hi (Nat.not_lt_zero i)) hS (fun M1 s1 z1 hS => lp_fr30 hok hlen hn L [] M1 rfl (hM.e s1.e) (fun q hq => by rw [s1.2 _ _ (by omega)]; exact hR q hq) (fun q hq => z1 q hq) hS (fun M2 s2 w2 hS => h M2 (s1.tr s2) w2 hS))))
/-- the step found is the first, and stays -/
theorem lp_fq127 (hlen : L.length ≤ 1200) (hok : okL L) (hsr : srL L) {to m j n pt i : Nat} {left : Int} {w : Int64} {t : NsT} {M : xm_M} (hn : n ≤ 12) (hj : j + (m + 1) = n) (hL : lsM b M L) (hti : L[i]? = some t) (h : xm_st b c p M → xm_X l E y11_findReason rm11_findReason Q 127 [(0, .ref (b + 154)), (5, .int (Int32.ofNat n)), (6, .int (Int32.ofNat pt)), (7, .long w), (9, .int (Int32.ofNat j)), (10, .int (Int32.ofNat i)), (11, .int (Int32.ofNat L.length))] [] 0 0 M) : ∀ (k q : Nat), q + k = L.length → i < q → xm_st b c p M →
    xm_X l E y11_findReason rm11_findReason Q 127 [(0, .ref (b + 154)), (5, .int (Int32.ofNat n)), (6, .int (Int32.ofNat pt)), (7, .long w), (9, .int (Int32.ofNat j)), (10, .int (Int32.ofNat i)), (11, .int (Int32.ofNat q))] [] 0 0 M := by
  intro k
  induction k with
  | zero =>
    intro q hq hiq hS
    rw [show q = L.length by omega]
    exact h hS
  | succ k ih =>
    intro q hq hiq hS
    have hql : q < L.length := by omega
    obtain ⟨s, gs⟩ : ∃ s, L[q]? = some s := ⟨_, List.getElem?_eq_getElem hql⟩
    have ms : s ∈ L := List.mem_of_getElem? gs
    obtain ⟨v, hv, e2, e3⟩ := ok_to hok ms
    obtain ⟨q1, q2, q3, q4⟩ := hL.2 _ s gs
    obtain ⟨p1, _, _, _⟩ := hL.2 _ t hti
    have i0 : vp_in (Int32.ofNat q) 1200 := xn_in (by omega) (by decide)
    have ii : vp_in (Int32.ofNat i) 1200 := xn_in (by omega) (by decide)
    have eix : Int32.ofNat n - (1 : Int32) - Int32.ofNat j = Int32.ofNat m := by
      rw [← hj, show j + (m + 1) = m + j + 1 by omega, ← ix1, Int32.add_sub_cancel, Int32.ofNat_add, Int32.add_sub_cancel]
    have nx := ih (q + 1) (by omega) (by omega)
    have hle := hsr i q t s hiq hti gs
    refine t11_findReason_127 M _ _ _ _ _ _ hS ?_
    rw [hL.1, xn_c (show q < 2 ^ 31 by omega), xn_c (show i < 2 ^ 31 by omega), q1, q2, q3, q4, p1, eix, e2, ixT, xn_s q]
    refine ⟨fun g => ?_, fun _ => ⟨i0, xn_in (by omega) (by decide), i0, fun _ => nx, fun _ => ⟨fun _ => nx, fun _ => ⟨i0, fun _ => nx, fun _ => ⟨fun g => absurd g ?_, fun _ => ⟨i0, ii, fun _ => nx, fun g => absurd hle g⟩⟩⟩⟩⟩⟩
    · have g := (xn_le (by omega) (by omega)).mp g
      omega
    · rw [show (0 : Int32) = Int32.ofNat 0 from rfl, xn_lt (by omega) (by decide)]
      omega
theorem lp_fp127 (hlen : L.length ≤ 1200) (hok : okL L) (hsr : srL L) {to m j n pt : Nat} {left : Int} {w : Int64} {t : NsT} {M : xm_M} (hn : n ≤ 12) (hj : j + (m + 1) = n) (hw : w.toInt = left) (hL : lsM b M L) (hR : rwM b M L to m) (h : ∀ i, L[i]? = some t → xm_st b c p M → xm_X l E y11_findReason rm11_findReason Q 127 [(0, .ref (b + 154)), (5, .int (Int32.ofNat n)), (6, .int (Int32.ofNat pt)), (7, .long w), (9, .int (Int32.ofNat j)), (10, .int (Int32.ofNat i)), (11, .int (Int32.ofNat L.length))] [] 0 0 M) : ∀ (R P : List NsT), L = P ++ R → R.find? (fitB (rsZ L to m) pt left) = some t → xm_st b c p M →
    xm_X l E y11_findReason rm11_findReason Q 127 [(0, .ref (b + 154)), (5, .int (Int32.ofNat n)), (6, .int (Int32.ofNat pt)), (7, .long w), (9, .int (Int32.ofNat j)), (10, .int (-1 : Int32)), (11, .int (Int32.ofNat P.length))] [] 0 0 M := by
  intro R
  induction R with
  | nil => intro P _ hf; cases hf
  | cons s R ih =>
    intro P e hf hS
    have hl : P.length < L.length := by rw [e, List.length_append]; show _ < _ + (R.length + 1); omega
    have gs : L[P.length]? = some s := by rw [e, List.getElem?_append_right (Nat.le_refl _), Nat.sub_self]; rfl
    have ms : s ∈ L := List.mem_of_getElem? gs
    obtain ⟨v, hv, e2, e3⟩ := ok_to hok ms
    have hB := isB_iff.mp (hok s ms).2
    obtain ⟨q1, q2, q3, q4⟩ := hL.2 _ s gs
    have i0 : vp_in (Int32.ofNat P.length) 1200 := xn_in (by omega) (by decide)
    have hl' : (P ++ [s]).length = P.length + 1 := by rw [List.length_append]; rfl
    have r1 := hR v hv
    have rbd := rsZ_bd hok to m v
    have eix : Int32.ofNat n - (1 : Int32) - Int32.ofNat j = Int32.ofNat m := by
      rw [← hj, show j + (m + 1) = m + j + 1 by omega, ← ix1, Int32.add_sub_cancel, Int32.ofNat_add, Int32.add_sub_cancel]
    have nx : fitB (rsZ L to m) pt left s = false → xm_st b c p M → xm_X l E y11_findReason rm11_findReason Q 127 [(0, .ref (b + 154)), (5, .int (Int32.ofNat n)), (6, .int (Int32.ofNat pt)), (7, .long w), (9, .int (Int32.ofNat j)), (10, .int (-1 : Int32)), (11, .int (Int32.ofNat (P.length + 1)))] [] 0 0 M := fun hb hS => by
      have := ih (P ++ [s]) (by rw [List.append_assoc]; exact e) (by rw [List.find?_cons_of_neg (by rw [hb]; decide)] at hf; exact hf) hS
      rw [hl'] at this
      exact this
    refine t11_findReason_127 M _ _ _ _ _ _ hS ?_
    rw [hL.1, xn_c (show P.length < 2 ^ 31 by omega), q1, q2, q3, q4, eix, e2, ixT, xn_c (show 10 * m + v < 2 ^ 31 by omega), xn_s P.length]
    refine ⟨fun g => ?_, fun _ => ⟨i0, xn_in (by omega) (by decide), i0, fun g => nx ?_, fun g => ⟨fun g2 => nx ?_, fun g2 => ⟨i0, fun g3 => nx ?_, fun g3 => ⟨fun _ hS => ?_, fun z => absurd (by decide) z⟩⟩⟩⟩⟩
    · have g := (xn_le (by omega) (by omega)).mp g
      omega
    · unfold fitB; rw [decide_eq_false g]; rfl
    · have := (reM_n r1 (fun y e => by have := rbd y e; omega)).mp g2
      unfold fitB; rw [e3, this, decide_eq_true g]; rfl
    · cases hr : rsZ L to m v with
      | none => exact absurd ((reM_n r1 (fun y e => by have := rbd y e; omega)).mpr hr) g2
      | some r =>
        have r1 : (xm_gl M (b + 170) (10 * m + v)).toInt = r := by rw [hr] at r1; exact r1
        have b2 := rbd r hr
        rw [Int64.lt_iff_toInt_lt, ad64 (by omega) (by omega), hw, r1] at g3
        unfold fitB; rw [e3, hr, decide_eq_true g]
        show (true && decide (s.2.2.2.toInt + r ≤ left)) = false
        rw [decide_eq_false (by omega)]; rfl
    · cases hr : rsZ L to m v with
      | none => exact absurd ((reM_n r1 (fun y e => by have := rbd y e; omega)).mpr hr) g2
      | some r =>
        have r1 : (xm_gl M (b + 170) (10 * m + v)).toInt = r := by rw [hr] at r1; exact r1
        have b2 := rbd r hr
        rw [Int64.lt_iff_toInt_lt, ad64 (by omega) (by omega), hw, r1] at g3
        have ft : fitB (rsZ L to m) pt left s = true := by
          unfold fitB; rw [e3, hr, decide_eq_true g]
          show (true && decide (s.2.2.2.toInt + r ≤ left)) = true
          rw [decide_eq_true (by omega)]; rfl
        rw [List.find?_cons_of_pos ft] at hf
        cases hf
        exact lp_fq127 (to := to) (left := left) hlen hok hsr hn hj hL gs (h _ gs) (L.length - (P.length + 1)) (P.length + 1) (by omega) (by omega) hS
theorem lp_fr114 (hlen : L.length ≤ 1200) (hok : okL L) (hsr : srL L) {to n : Nat} (hn : n ≤ 12) : ∀ (m j pt : Nat) (left x : Int) (w : Int64) (D : List NsT) (M : xm_M), j + m = n → D.length = j → w.toInt = left → -1099511627776 - 2147483648 * (j : Int) ≤ left → left ≤ 1099511627776 + 2147483648 * (j : Int) → rsZ L to m pt = some x → x ≤ left → lsM b M L → (∀ i, i < n → rwM b M L to i) → xm_gi M (b + 154) 26 = Int32.ofNat n → (∀ i s, D[i]? = some s → ∃ j, xm_gi M (b + 171) i = Int32.ofNat j ∧ L[j]? = some s) → xm_st b c p M →
    (∀ M1, smE b M M1 → chM b M1 L (D ++ chZ L to m pt left) → xm_st b c p M1 → Q (some (.int (1 : Int32))) M1) →
    xm_X l E y11_findReason rm11_findReason Q 114 [(0, .ref (b + 154)), (5, .int (Int32.ofNat n)), (6, .int (Int32.ofNat pt)), (7, .long w), (9, .int (Int32.ofNat j))] [] 0 0 M := by
  intro m
  induction m with
  | zero =>
    intro j pt left x w D M hj hD hw hl1 hl2 hx hxl hL hR h2 hD2 hS h
    refine t11_findReason_114 M _ _ _ _ hS ⟨fun _ hS => h M smE.rf ?_ hS, fun g => absurd ((xn_le (by omega) (by omega)).mpr (by omega)) g⟩
    show chM b M L (D ++ [])
    rw [List.append_nil]
    exact ⟨by rw [hD, show j = n by omega]; exact h2, hD2⟩
  | succ m ih =>
    intro j pt left x w D M hj hD hw hl1 hl2 hx hxl hL hR h2 hD2 hS h
    obtain ⟨t, t1, t2, t3, r, t4, t5⟩ := fit_ex hx hxl
    obtain ⟨v, hv, e2, e3⟩ := ok_to hok t2
    have hB := isB_iff.mp (hok t t2).2
    have ec : chZ L to (m + 1) pt left = t :: chZ L to m v (left - t.2.2.2.toInt) := by
      show (match L.find? (fitB (rsZ L to m) pt left) with | none => [] | some s => s :: chZ L to m s.2.2.1.toNatClampNeg (left - s.2.2.2.toInt)) = _
      rw [t1, ← e3]
    rw [e3] at t4
    refine t11_findReason_114 M _ _ _ _ hS ⟨fun g => ?_, fun _ hS => lp_fp127 (to := to) (m := m) hlen hok hsr hn hj hw hL (hR m (by omega)) (fun i hi hS => ?_) L [] rfl t1 hS⟩
    · have g := (xn_le (by omega) (by omega)).mp g
      omega
    have hil : i < L.length := by
      have := List.getElem?_eq_some_iff.mp hi
      exact this.1
    have ii : vp_in (Int32.ofNat i) 1200 := xn_in (by omega) (by decide)
    obtain ⟨q1, q2, q3, q4⟩ := hL.2 _ t hi
    refine t11_findReason_127 M _ _ _ _ _ _ hS ⟨fun _ => ⟨xn_in (by omega) (by decide), ii, ii, ?_⟩, fun g => absurd (by rw [hL.1]; exact (xn_le (by omega) (by omega)).mpr (Nat.le_refl _)) g⟩
    rw [xn_c (show i < 2 ^ 31 by omega), xn_c (show j < 2 ^ 31 by omega), xn_s]
    intro hS
    have s0 : smE b M (xm_pi M (b + 171) j (Int32.ofNat i)) := ⟨fun x k q => by rw [gi_pi, if_neg (by omega)], fun _ _ _ => rfl⟩
    rw [gi_pi, if_neg (by omega), gl_pi, q3, q4, e2]
    have sb : (w - t.2.2.2).toInt = left - t.2.2.2.toInt := by
      rw [Int64.toInt_sub, hw]
      exact Int.bmod_eq_of_le (by omega) (by omega)
    refine ih (j + 1) v (left - t.2.2.2.toInt) r (w - t.2.2.2) (D ++ [t]) _ (by omega) (by rw [List.length_append, hD]; rfl) sb (by omega) (by omega) t4 t5 (hL.e s0) (fun i hi q hq => ?_) ?_ (fun k s hs => ?_) hS (fun M1 s1 r1 hS => h M1 (s0.tr s1) ?_ hS)
    · rw [gl_pi]; exact hR i hi q hq
    · rw [gi_pi, if_neg (by omega)]; exact h2
    · rw [gi_pi]
      by_cases e : k = j
      · rw [if_pos ⟨rfl, e⟩]
        rw [e, ← hD, List.getElem?_append_right (Nat.le_refl _), Nat.sub_self] at hs
        have hs : some t = some s := hs
        cases hs
        exact ⟨i, rfl, hi⟩
      · rw [if_neg (fun z => e z.2)]
        by_cases e4 : k < j
        · rw [List.getElem?_append_left (by omega)] at hs
          exact hD2 k s hs
        · rw [List.getElem?_eq_none (by rw [List.length_append, hD]; show j + 1 ≤ k; omega)] at hs
          cases hs
    · rw [List.append_assoc] at r1
      rw [ec]
      exact r1
theorem lp_fr44 (hok : okL L) (hlen : L.length ≤ 1200) (hsr : srL L) {fr to : Nat} {most : Int} {w : Int64} (hfr : fr < 10) (hw : w.toInt = most) (hb1 : -1099511627776 ≤ most) (hb2 : most ≤ 1099511627776) : ∀ (k n : Nat) (M : xm_M), n + 1 + k = 12 → lsM b M L → (∀ i, i < n + 2 → rwM b M L to i) → xm_st b c p M →
    (∀ M1, smE b M M1 → (∀ C, fnZ L fr to most (k + 1) (n + 1) = some C → chM b M1 L C) → xm_st b c p M1 → Q (some (.int (xz (fnZ L fr to most (k + 1) (n + 1)).isSome))) M1) →
    xm_X l E y11_findReason rm11_findReason Q 44 [(0, .ref (b + 154)), (1, .int (Int32.ofNat fr)), (3, .long w), (5, .int (Int32.ofNat (n + 1)))] [] 0 0 M := by
  intro k
  induction k with
  | zero =>
    intro n M hn hL hR hS h
    have ef : fnZ L fr to most (0 + 1) (n + 1) = if leZ (rsZ L to (n + 1) fr) most = true then some (chZ L to (n + 1) fr most) else none := rfl
    rw [ef] at h
    have v1 := hR (n + 1) (by omega) fr hfr
    have rbd := rsZ_bd hok to (n + 1) fr
    have hle : leZ (rsZ L to (n + 1) fr) most = true ↔ xm_gl M (b + 170) (10 * (n + 1) + fr) ≤ w := by
      rw [Int64.le_iff_toInt_le, hw]
      cases hr : rsZ L to (n + 1) fr with
      | none =>
        rw [hr] at v1
        have v1 : xm_gl M (b + 170) (10 * (n + 1) + fr) = 1125899906842624 := v1
        rw [v1, c50I]
        exact ⟨fun z => (by cases z), fun z => absurd z (by omega)⟩
      | some x =>
        rw [hr] at v1
        have v1 : (xm_gl M (b + 170) (10 * (n + 1) + fr)).toInt = x := v1
        rw [v1]
        exact decide_eq_true_iff
    refine t11_findReason_44 M _ _ _ hS ⟨fun _ => ?_, fun g => absurd (by rw [show n + 1 = 12 by omega]; decide) g⟩
    rw [ixT, xn_c (show 10 * (n + 1) + fr < 2 ^ 31 by omega)]
    refine ⟨xn_in (by omega) (by decide), fun g hS => ?_, fun g hS => ?_⟩
    · rw [if_pos (hle.mpr g)] at h
      cases hr : rsZ L to (n + 1) fr with
      | none => rw [hr] at hle; exact absurd (hle.mpr g) (fun z => by cases z)
      | some x =>
        have hxm : x ≤ most := by
          have := hle.mpr g
          rw [hr] at this
          exact of_decide_eq_true this
        have s2 : smE b M (xm_pi M (b + 154) 26 (Int32.ofNat (n + 1))) := ⟨fun x k q => by rw [gi_pi, if_neg (by omega)], fun _ _ _ => rfl⟩
        exact lp_fr114 hlen hok hsr (n := n + 1) (by omega) (n + 1) 0 fr most x w [] _ (by omega) rfl hw (by omega) (by omega) hr hxm (hL.e s2) (fun i hi q hq => by rw [gl_pi]; exact hR i (by omega) q hq) (by rw [gi_pi, if_pos ⟨rfl, rfl⟩]) (fun i s hs => (by cases hs)) hS (fun M3 s3 r3 hS => h M3 (s2.tr s3) (fun C e => by cases e; exact r3) hS)
    · rw [if_neg (fun z => g (hle.mp z))] at h
      exact h M smE.rf (fun C e => by cases e) hS
  | succ k ih =>
    intro n M hn hL hR hS h
    have ef : fnZ L fr to most (k + 1 + 1) (n + 1) = if leZ (rsZ L to (n + 1) fr) most = true then some (chZ L to (n + 1) fr most) else fnZ L fr to most (k + 1) (n + 1 + 1) := rfl
    rw [ef] at h
    have v1 := hR (n + 1) (by omega) fr hfr
    have rbd := rsZ_bd hok to (n + 1) fr
    have hle : leZ (rsZ L to (n + 1) fr) most = true ↔ xm_gl M (b + 170) (10 * (n + 1) + fr) ≤ w := by
      rw [Int64.le_iff_toInt_le, hw]
      cases hr : rsZ L to (n + 1) fr with
      | none =>
        rw [hr] at v1
        have v1 : xm_gl M (b + 170) (10 * (n + 1) + fr) = 1125899906842624 := v1
        rw [v1, c50I]
        exact ⟨fun z => (by cases z), fun z => absurd z (by omega)⟩
      | some x =>
        rw [hr] at v1
        have v1 : (xm_gl M (b + 170) (10 * (n + 1) + fr)).toInt = x := v1
        rw [v1]
        exact decide_eq_true_iff
    refine t11_findReason_44 M _ _ _ hS ⟨fun g => ?_, fun _ => ?_⟩
    · have g := (xn_le (a := 12) (by decide) (by omega)).mp g
      omega
    rw [ixT, xn_c (show 10 * (n + 1) + fr < 2 ^ 31 by omega), xn_s]
    have ii : vp_in (Int32.ofNat (10 * (n + 1) + fr)) 130 := xn_in (by omega) (by decide)
    refine ⟨ii, fun g => ⟨ii, fun _ hS => ?_, fun z => absurd g z⟩, fun g => ?_⟩
    · rw [if_pos (hle.mpr g)] at h
      cases hr : rsZ L to (n + 1) fr with
      | none => rw [hr] at hle; exact absurd (hle.mpr g) (fun z => by cases z)
      | some x =>
        have hxm : x ≤ most := by
          have := hle.mpr g
          rw [hr] at this
          exact of_decide_eq_true this
        have s2 : smE b M (xm_pi M (b + 154) 26 (Int32.ofNat (n + 1))) := ⟨fun x k q => by rw [gi_pi, if_neg (by omega)], fun _ _ _ => rfl⟩
        exact lp_fr114 hlen hok hsr (n := n + 1) (by omega) (n + 1) 0 fr most x w [] _ (by omega) rfl hw (by omega) (by omega) hr hxm (hL.e s2) (fun i hi q hq => by rw [gl_pi]; exact hR i (by omega) q hq) (by rw [gi_pi, if_pos ⟨rfl, rfl⟩]) (fun i s hs => (by cases hs)) hS (fun M3 s3 r3 hS => h M3 (s2.tr s3) (fun C e => by cases e; exact r3) hS)
    · rw [if_neg (fun z => g (hle.mp z))] at h
      refine s11_findRests hok hlen (n := n + 1) (by omega) hL (hR (n + 1) (by omega)) hS (fun M1 o1 r1 hS => ⟨rfl, hS, fun hS => ih (n + 1) M1 (by omega) (hL.e o1.e) (fun i hi => ?_) hS (fun M2 s2 c2 hS => h M2 (o1.e.tr s2) c2 hS)⟩)
      by_cases e : i = n + 1 + 1
      · rw [e]; exact r1
      · exact fun q hq => by rw [o1.2 _ _ (by omega)]; exact hR i (by omega) q hq
theorem lp_fr3 {fr to : Nat} {w : Int64} (hto : to < 10) : ∀ (k q : Nat) (M : xm_M), q + k = 10 → (∀ i, i < q → reM (rsZ L to 0 i) (xm_gl M (b + 170) (10 * 0 + i))) → xm_st b c p M →
    (∀ M1, onlE b 0 M M1 → rwM b M1 L to 0 → xm_st b c p M1 → xm_C l E y11_findRests rm11_findRests [.ref (b + 154), .int (Int32.ofNat (0 + 1))] M1 (fun r M2 => r = none ∧ xm_st b c p M2 ∧ (xm_st b c p M2 → xm_X l E y11_findReason rm11_findReason Q 44 [(0, .ref (b + 154)), (1, .int (Int32.ofNat fr)), (3, .long w), (5, .int (Int32.ofNat (0 + 1)))] [] 0 0 M2))) →
    xm_X l E y11_findReason rm11_findReason Q 3 [(0, .ref (b + 154)), (1, .int (Int32.ofNat fr)), (2, .int (Int32.ofNat to)), (3, .long w), (5, .int (Int32.ofNat q))] [] 0 0 M := by
  intro k
  induction k with
  | zero =>
    intro q M hq hz hS h
    exact t11_findReason_3 M _ _ _ _ hS ⟨fun _ => h M onlE.rf (fun i hi => hz i (by omega)) hS, fun g => absurd (by rw [show q = 10 by omega]; decide) g⟩
  | succ k ih =>
    intro q M hq hz hS h
    refine t11_findReason_3 M _ _ _ _ hS ⟨fun g => ?_, fun _ => ?_⟩
    · have g := (xn_le (a := 10) (by decide) (by omega)).mp g
      omega
    rw [xn_c (by omega), xn_s]
    have go : ∀ x : Int64, reM (rsZ L to 0 q) x → xm_st b c p (xm_pl M (b + 170) q x) → xm_X l E y11_findReason rm11_findReason Q 3 [(0, .ref (b + 154)), (1, .int (Int32.ofNat fr)), (2, .int (Int32.ofNat to)), (3, .long w), (5, .int (Int32.ofNat (q + 1)))] [] 0 0 (xm_pl M (b + 170) q x) := fun x hx hS => by
      have s0 : onlE b 0 M (xm_pl M (b + 170) q x) := ⟨fun _ _ => rfl, fun y j g => by rw [gl_pl, if_neg (by omega)]⟩
      refine ih (q + 1) _ (by omega) (fun i hi => ?_) hS (fun M1 s1 z1 hS => h M1 (s0.tr s1) z1 hS)
      rw [gl_pl]
      by_cases e : i = q
      · rw [if_pos ⟨rfl, by omega⟩, e]; exact hx
      · rw [if_neg (by omega)]; exact hz i (by omega)
    refine ⟨fun g => ⟨xn_in (by omega) (by decide), go _ ?_⟩, fun g => ⟨xn_in (by omega) (by decide), go _ ?_⟩⟩
    · show reM (if q = to then some 0 else none) _
      rw [if_neg (fun z => g (by rw [z]))]; rfl
    · show reM (if q = to then some 0 else none) _
      rw [if_pos (ofN_inj (by omega) (by omega) g)]; rfl
theorem s11_findReason (hok : okL L) (hlen : L.length ≤ 1200) (hsr : srL L) {fr to : Nat} {most : Int} {w : Int64} {M : xm_M} (hfr : fr < 10) (hto : to < 10) (hw : w.toInt = most) (hb1 : -1099511627776 ≤ most) (hb2 : most ≤ 1099511627776) (hL : lsM b M L) (hS : xm_st b c p M) (h : ∀ M1, smE b M M1 → (∀ C, fnR L fr to most = some C → chM b M1 L C) → xm_st b c p M1 → Q (some (.int (xz (fnR L fr to most).isSome))) M1) : xm_C l E y11_findReason rm11_findReason [.ref (b + 154), .int (Int32.ofNat fr), .int (Int32.ofNat to), .long w] M Q :=
  xm_enter (by decide) (Nat.le_of_ble_eq_true rfl) (t11_findReason_0 M _ _ _ hS (fun hS => lp_fr3 hto 10 0 M rfl (fun i hi => absurd hi (Nat.not_lt_zero i)) hS (fun M1 o1 r1 hS => s11_findRests hok hlen (n := 0) (by decide) (hL.e o1.e) r1 hS (fun M2 o2 r2 hS => ⟨rfl, hS, fun hS => lp_fr44 hok hlen hsr (to := to) hfr hw hb1 hb2 11 0 M2 rfl ((hL.e o1.e).e o2.e) (fun i hi => by
    by_cases e : i = 0 + 1
    · rw [e]; exact r2
    · exact fun q hq => by rw [o2.2 _ _ (by omega), show i = 0 by omega]; exact r1 q hq) hS (fun M3 s3 c3 hS => h M3 (o1.e.tr (o2.e.tr s3)) c3 hS)⟩))))
/-- the first round -/
def rdZ (L : List NsT) : Nat → Nat → Option (Nat × List NsT)
  | 0, _ => none
  | k + 1, x => match fnR L x x (-1) with
    | some C => some (x, C)
    | none => rdZ L k (x + 1)
def rnI (o : Option (Nat × List NsT)) : Int32 := match o with
  | none => -1
  | some r => Int32.ofNat r.1
theorem lp_fo2 (hok : okL L) (hlen : L.length ≤ 1200) (hsr : srL L) : ∀ (k x : Nat) (M : xm_M), x + k = 10 → lsM b M L → xm_st b c p M →
    (∀ M1, smE b M M1 → (∀ r, rdZ L k x = some r → chM b M1 L r.2) → xm_st b c p M1 → Q (some (.int (rnI (rdZ L k x)))) M1) →
    xm_X l E y11_findRound rm11_findRound Q 2 [(0, .ref (b + 154)), (1, .int (Int32.ofNat x))] [] 0 0 M := by
  intro k
  induction k with
  | zero =>
    intro x M hx hL hS h
    exact t11_findRound_2 M _ hS ⟨fun _ hS => h M smE.rf (fun r e => by cases e) hS, fun g => absurd (by rw [show x = 10 by omega]; decide) g⟩
  | succ k ih =>
    intro x M hx hL hS h
    refine t11_findRound_2 M _ hS ⟨fun g => ?_, fun _ => s11_findReason hok hlen hsr (by omega) (by omega) (show (-1 : Int64).toInt = -1 by decide) (by decide) (by decide) hL hS (fun M1 s1 c1 hS => ⟨_, rfl, hS, ?_⟩)⟩
    · have g := (xn_le (a := 10) (by decide) (by omega)).mp g
      omega
    rw [xn_s]
    have ef : rdZ L (k + 1) x = match fnR L x x (-1) with
      | some C => some (x, C)
      | none => rdZ L k (x + 1) := rfl
    cases hf : fnR L x x (-1) with
    | none =>
      have ef : rdZ L (k + 1) x = rdZ L k (x + 1) := by rw [ef, hf]
      rw [ef] at h
      exact ⟨fun _ hS => ih (x + 1) M1 (by omega) (hL.e s1) hS (fun M2 s2 c2 hS => h M2 (s1.tr s2) c2 hS), fun z => absurd rfl z⟩
    | some C =>
      have ef : rdZ L (k + 1) x = some (x, C) := by rw [ef, hf]
      rw [ef] at h
      exact ⟨fun z => absurd (show xz true = 0 from z) (by decide), fun _ hS => h M1 s1 (fun r e => by cases e; exact c1 C hf) hS⟩
theorem s11_findRound (hok : okL L) (hlen : L.length ≤ 1200) (hsr : srL L) {M : xm_M} (hL : lsM b M L) (hS : xm_st b c p M) (h : ∀ M1, smE b M M1 → (∀ r, rdZ L 10 0 = some r → chM b M1 L r.2) → xm_st b c p M1 → Q (some (.int (rnI (rdZ L 10 0)))) M1) : xm_C l E y11_findRound rm11_findRound [.ref (b + 154)] M Q :=
  xm_enter (by decide) (Nat.le_of_ble_eq_true rfl) (t11_findRound_0 M hS (fun hS => lp_fo2 hok hlen hsr 10 0 M rfl hL hS h))
end FR
