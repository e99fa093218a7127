/-! the reference finds bounds -/
def bdM (b : Nat) (M : xm_M) (n : Nat) (s : BdT) : Prop := ∀ i, i < n → xm_gi M (b + 167) i = xz (s.1 i) ∧ (s.1 i = true → boM b M i (s.2 i))
def jN (j : Bool) : Nat := if j = true then 1 else 0
def imW (b : Nat) (M : xm_M) (F : Flt) (s : BdT) (m : Nat) : Prop := ∀ i, i < m → s.1 i = true → ∀ e, e < ecC (F.1 i) → xm_gi M (b + 168) (2 * i + jN (jB (F.1 i) (Int32.ofNat e))) = xz (imV F s i e)
def smH (b : Nat) (M N : xm_M) : Prop := (∀ x k, ¬ ((x = b + 154 ∧ (k = 14 ∨ k = 19)) ∨ (b + 162 ≤ x ∧ x ≤ b + 164) ∨ x = b + 167 ∨ x = b + 168) → xm_gi N x k = xm_gi M x k) ∧ ∀ x k, ¬ (x = b + 165 ∨ x = b + 166 ∨ x = b + 169) → xm_gl N x k = xm_gl M x k
theorem smH.rf {b : Nat} {M : xm_M} : smH b M M := ⟨fun _ _ _ => rfl, fun _ _ _ => rfl⟩
theorem smH.tr {b : Nat} {M N P : xm_M} (h : smH b M N) (g : smH b N P) : smH b M P := ⟨fun x k q => (g.1 x k q).trans (h.1 x k q), fun x k q => (g.2 x k q).trans (h.2 x k q)⟩
theorem smG.h {b : Nat} {M N : xm_M} (h : smG b M N) : smH b M N := ⟨fun x k q => h.1 x k (by omega), fun x k q => h.2 x k (by omega)⟩
theorem sm9.h {b : Nat} {M N : xm_M} (h : sm9 b M N) : smH b M N := ⟨fun x k q => h.1 x k, fun x k q => h.2 x k (by omega)⟩
theorem flM.h {b : Nat} {M N : xm_M} {F : Flt} (h : flM b M F) (s : smH b M N) : flM b N F := fun i hi => by
  rw [s.1 _ _ (by omega), s.1 _ _ (by omega), s.1 _ _ (by omega), s.1 _ _ (by omega), s.1 _ _ (by omega)]; exact h i hi
/-- the same bounds, as the reference has them -/
def mdZ (b : Nat) (M : xm_M) (A : MtT) : Prop := ∀ x y, x < 10 → y < 10 → ¬ x = y → (xm_gl M (b + 169) (10 * x + y)).toInt = toZ (A x y)
theorem md_is {b k : Nat} {M : xm_M} {A : MtT} (h : mdZ b M A) (hk : k < 100) (hne : ¬ k / 10 = k % 10) : isB (xm_gl M (b + 169) k) = isB (A (k / 10) (k % 10)) ∧ (isB (A (k / 10) (k % 10)) = true → xm_gl M (b + 169) k = A (k / 10) (k % 10)) := by
  have h1 := h (k / 10) (k % 10) (by omega) (by omega) hne
  rw [show 10 * (k / 10) + k % 10 = k by omega] at h1
  unfold toZ at h1
  by_cases g : A (k / 10) (k % 10) = N62
  · rw [if_pos g] at h1
    rw [g]
    have f2 : isB N62 = false := by decide
    rw [f2]
    refine ⟨?_, fun z => by cases z⟩
    unfold isB
    rw [h1]
    decide
  · rw [if_neg g] at h1
    have e := Int64.toInt_inj.mp h1
    rw [e]
    exact ⟨rfl, fun _ => rfl⟩
theorem nM_mx {t : Bool} {B : Nat → Option Int64} {A : MtT} {k : Nat} (hB : t = true → boOk B) (hk : k < 100) : nM (mxO t (B k) (bO A k)) = if t = true then (if nM (B k) ≤ nM (bO A k) then nM (bO A k) else nM (B k)) else nM (bO A k) := by
  cases t with
  | false => rfl
  | true =>
    have hB := hB rfl
    rw [if_pos rfl]
    have bd : ∀ c, bO A k = some c → c.toInt ≤ 2147483647 := fun c h => (isB_iff.mp ((bO_ok A).1 k c hk h)).2
    generalize bO A k = o at bd
    cases h1 : B k with
    | none =>
      show (1125899906842624 : Int64) = if (1125899906842624 : Int64) ≤ nM o then nM o else 1125899906842624
      cases o with
      | none => exact (if_pos (Int64.le_iff_toInt_le.mpr (Int.le_refl _))).symm
      | some c =>
        have := bd c rfl
        exact (if_neg (fun z => by
          have z : (1125899906842624 : Int64) ≤ c := z
          rw [Int64.le_iff_toInt_le, c50I] at z
          omega)).symm
    | some x =>
      have bx := (isB_iff.mp (hB.1 k x hk h1)).2
      cases o with
      | none =>
        show (1125899906842624 : Int64) = if x ≤ 1125899906842624 then 1125899906842624 else x
        rw [if_pos (by rw [Int64.le_iff_toInt_le, c50I]; omega)]
      | some c =>
        show (if c ≤ x then x else c) = if x ≤ c then c else x
        by_cases g1 : c ≤ x
        · rw [if_pos g1]
          by_cases g2 : x ≤ c
          · rw [if_pos g2]
            rw [Int64.le_iff_toInt_le] at g1 g2
            exact Int64.toInt_inj.mp (by omega)
          · rw [if_neg g2]
        · rw [if_neg g1, if_pos (by rw [Int64.le_iff_toInt_le] at g1 ⊢; omega)]
section BM
variable {l : Launch} {E : xm_E} {b : Nat} {c p : Bool} {Q : Option Value → xm_M → Prop}
theorem lp_cm2 {A : MtT} {B : Nat → Option Int64} {e : Nat} {t : Bool} (he : e < 48) (hB : t = true → boOk B) : ∀ (k j : Nat) (M : xm_M), j + k = 100 → mdZ b M A → xm_gi M (b + 167) e = xz t → (t = true → ∀ i, j ≤ i → i < 100 → xm_gl M (b + 166) (100 * e + i) = nM (B i)) → (∀ i, i < j → xm_gl M (b + 166) (100 * e + i) = nM (mxO t (B i) (bO A i))) → xm_st b c p M →
    (∀ M1, (∀ x k, ¬ (x = b + 167 ∧ k = e) → xm_gi M1 x k = xm_gi M x k) → (∀ x k, ¬ (x = b + 166 ∧ 100 * e ≤ k ∧ k < 100 * e + 100) → xm_gl M1 x k = xm_gl M x k) → xm_gi M1 (b + 167) e = 1 → boM b M1 e (fun i => mxO t (B i) (bO A i)) → xm_st b c p M1 → Q none M1) →
    xm_X l E y11_come rm11_come Q 2 [(0, .ref (b + 154)), (1, .int (Int32.ofNat e)), (2, .int (Int32.ofNat j))] [] 0 0 M := by
  intro k
  induction k with
  | zero =>
    intro j M hj hA ht hold hnew hS h
    refine t11_come_2 M _ _ hS ⟨fun _ => ⟨xn_in he (by decide), ?_⟩, fun g => absurd (by rw [show j = 100 by omega]; decide) g⟩
    rw [xn_c (by omega)]
    exact fun hS => h _ (fun x k q => by rw [gi_pi, if_neg q]) (fun x k _ => rfl) (by rw [gi_pi, if_pos ⟨rfl, rfl⟩]) (fun i hi => hnew i (by omega)) hS
  | succ k ih =>
    intro j M hj hA ht hold hnew hS h
    have hj100 : j < 100 := by omega
    have ie : vp_in (Int32.ofNat e) 48 := xn_in he (by decide)
    have ij : vp_in (Int32.ofNat j) 100 := xn_in hj100 (by decide)
    have ix : vp_in (Int32.ofNat (100 * e + j)) 4800 := xn_in (by omega) (by decide)
    have mx := nM_mx (t := t) (A := A) hB hj100
    have go : ∀ w : Int64, w = nM (mxO t (B j) (bO A j)) → xm_st b c p (xm_pl M (b + 166) (100 * e + j) w) → xm_X l E y11_come rm11_come Q 2 [(0, .ref (b + 154)), (1, .int (Int32.ofNat e)), (2, .int (Int32.ofNat (j + 1)))] [] 0 0 (xm_pl M (b + 166) (100 * e + j) w) := fun w hw hS => by
      refine ih (j + 1) _ (by omega) (fun u v hu hv hne => by rw [gl_pl, if_neg (by omega)]; exact hA u v hu hv hne) ht (fun q i hi1 hi2 => by rw [gl_pl, if_neg (by omega)]; exact hold q i (by omega) hi2) (fun i hi => ?_) hS (fun M1 f1 f2 f3 f4 hS => h M1 f1 (fun x k q => by rw [f2 x k q, gl_pl, if_neg (by omega)]) f3 f4 hS)
      rw [gl_pl]
      by_cases ei : i = j
      · rw [if_pos ⟨rfl, by omega⟩, ei]; exact hw
      · rw [if_neg (by omega)]; exact hnew i (by omega)
    -- what is written for a coming bound o
    have wr : ∀ (o : Int64), o = nM (bO A j) → ((xz t = 0 → (vp_in (Int32.ofNat (100 * e + j)) 4800 ∧ (xm_st b c p (xm_pl M (b + 166) (100 * e + j) o) → xm_X l E y11_come rm11_come Q 2 [(0, .ref (b + 154)), (1, .int (Int32.ofNat e)), (2, .int (Int32.ofNat (j + 1)))] [] 0 0 (xm_pl M (b + 166) (100 * e + j) o)))) ∧ (¬ xz t = 0 → (vp_in (Int32.ofNat (100 * e + j)) 4800 ∧ ((xm_gl M (b + 166) (100 * e + j) ≤ o → (vp_in (Int32.ofNat (100 * e + j)) 4800 ∧ (xm_st b c p (xm_pl M (b + 166) (100 * e + j) o) → xm_X l E y11_come rm11_come Q 2 [(0, .ref (b + 154)), (1, .int (Int32.ofNat e)), (2, .int (Int32.ofNat (j + 1)))] [] 0 0 (xm_pl M (b + 166) (100 * e + j) o)))) ∧ (¬ xm_gl M (b + 166) (100 * e + j) ≤ o → (vp_in (Int32.ofNat (100 * e + j)) 4800 ∧ (vp_in (Int32.ofNat (100 * e + j)) 4800 ∧ (xm_st b c p (xm_pl M (b + 166) (100 * e + j) (xm_gl M (b + 166) (100 * e + j))) → xm_X l E y11_come rm11_come Q 2 [(0, .ref (b + 154)), (1, .int (Int32.ofNat e)), (2, .int (Int32.ofNat (j + 1)))] [] 0 0 (xm_pl M (b + 166) (100 * e + j) (xm_gl M (b + 166) (100 * e + j))))))))))) := fun o ho => by
      refine ⟨fun q => ⟨ix, go _ ?_⟩, fun q => ⟨ix, fun g => ⟨ix, go _ ?_⟩, fun g => ⟨ix, ix, go _ ?_⟩⟩⟩
      · rw [mx, xz_0.mp q]; exact ho
      · have tt := xz_ne q
        rw [hold tt j (Nat.le_refl j) hj100, ho] at g
        rw [mx, if_pos tt, if_pos g]; exact ho
      · have tt := xz_ne q
        have eh := hold tt j (Nat.le_refl j) hj100
        rw [eh, ho] at g
        rw [mx, if_pos tt, if_neg g]; exact eh
    refine t11_come_2 M _ _ hS ⟨fun g => ?_, fun _ => ?_⟩
    · have g := (xn_le (a := 100) (by decide) (by omega)).mp g
      omega
    rw [show (11 : Int32) = Int32.ofNat 11 from rfl, i32_mod (by omega) (by decide), ixH, xn_c (show e < 2 ^ 31 by omega), xn_c (show j < 2 ^ 31 by omega), xn_c (show 100 * e + j < 2 ^ 31 by omega), xn_s, ht]
    refine ⟨fun g => ⟨ie, wr _ ?_⟩, fun g => ⟨ij, s11_isInt hS (fun hS => ⟨isB (xm_gl M (b + 169) j), rfl, hS, ?_⟩)⟩⟩
    · have g := ofN_inj (c := 0) (by omega) (by decide) g
      rw [show bO A j = none from if_pos (by omega)]; rfl
    · have hne : ¬ j / 10 = j % 10 := fun z => g (by rw [show j % 11 = 0 by omega]; rfl)
      obtain ⟨m1, m2⟩ := md_is hA hj100 hne
      rw [ht]
      refine ⟨fun q => ⟨ie, wr _ ?_⟩, fun q => ⟨ij, ie, wr _ ?_⟩⟩
      · have q := xz_0.mp q
        rw [m1] at q
        have : bO A j = none := by
          unfold bO
          rw [if_neg hne, if_neg (fun z => by rw [q] at z; cases z)]
        rw [this]; rfl
      · have q := xz_ne q
        rw [m1] at q
        have : bO A j = some (A (j / 10) (j % 10)) := by
          unfold bO
          rw [if_neg hne, if_pos q]
        rw [this, m2 q]; rfl
theorem s11_come {A : MtT} {s : BdT} {e n : Nat} {M : xm_M} (hn : n ≤ 48) (he : e < n) (hs : bdOk s) (hA : mdZ b M A) (hX : bdM b M n s) (hS : xm_st b c p M) (h : ∀ M1, (∀ x k, ¬ x = b + 167 → xm_gi M1 x k = xm_gi M x k) → (∀ x k, ¬ x = b + 166 → xm_gl M1 x k = xm_gl M x k) → bdM b M1 n (joS s e A) → xm_st b c p M1 → Q none M1) : xm_C l E y11_come rm11_come [.ref (b + 154), .int (Int32.ofNat e)] M Q := by
  refine xm_enter (by decide) (Nat.le_of_ble_eq_true rfl) (t11_come_0 M _ hS (fun hS => lp_cm2 (A := A) (B := s.2 e) (t := s.1 e) (show e < 48 by omega) (hs e) 100 0 M rfl hA (hX e he).1 (fun q i _ hi => (hX e he).2 q i hi) (fun i hi => absurd hi (Nat.not_lt_zero i)) hS (fun M1 f1 f2 f3 f4 hS => h M1 (fun x k q => f1 x k (fun z => q z.1)) (fun x k q => f2 x k (fun z => q z.1)) (fun i hi => ?_) hS)))
  by_cases g : i = e
  · have e1 : (joS s e A).1 i = true := if_pos g
    have e2 : (joS s e A).2 i = fun k => mxO (s.1 e) (s.2 e k) (bO A k) := funext (fun k => if_pos g)
    rw [e1, e2, g]
    exact ⟨f3, fun _ => f4⟩
  · obtain ⟨e1, e2⟩ := jo_ne (s := s) (A := A) g
    rw [e1, e2]
    exact ⟨by rw [f1 _ _ (fun z => g z.2)]; exact (hX i hi).1, fun q k hk => by rw [f2 _ _ (by omega)]; exact (hX i hi).2 q k hk⟩
theorem xz_s (j : Bool) : xz j = Int32.ofNat (jN j) := by cases j <;> rfl
/-- one edge -/
theorem lp_fm49 {F : Flt} {n i : Nat} {j : Bool} {s : BdT} {M : xm_M} (hF : fOk F n) (hi : i < n) (hl : s.1 i = true) (hX : bdM b M n s) (hO : bdOk s) (hL : flM b M F) (hen : enI (F.1 i) (F.2.2.2.2 i) (Int32.ofNat i) (xz j) = Int32.ofNat (enN F i j)) (hlt : enN F i j < n) (hS : xm_st b c p M)
    (h : ∀ M1, smH b M M1 → bdM b M1 n (edS F s i j) → xm_gi M1 (b + 168) (2 * i + jN j) = xz (!(edA F (s.2 i) i j).1) → (∀ k, ¬ k = 2 * i + jN j → xm_gi M1 (b + 168) k = xm_gi M (b + 168) k) → xm_st b c p M1 → xm_X l E y11_findBounds rm11_findBounds Q 49 [(0, .ref (b + 154)), (1, .int (Int32.ofNat i)), (2, .int (xz j + Int32.ofInt 1))] [] 0 0 M1) :
    xm_X l E y11_findBounds rm11_findBounds Q 49 [(0, .ref (b + 154)), (1, .int (Int32.ofNat i)), (2, .int (xz j))] [] 0 0 M := by
  have hn48 : n ≤ 48 := hF.1
  have hi48 : i < 48 := by omega
  have jN1 : jN j ≤ 1 := by cases j <;> decide
  obtain ⟨f0, f1, f2, f3, f4⟩ := hL i hi48
  obtain ⟨r1, r2⟩ := fOk_r hF hi
  have hOi := hO i hl
  refine t11_findBounds_49 M _ _ hS ⟨fun g => absurd g (by cases j <;> decide), fun _ => ⟨xn_in hi48 (by decide), ?_⟩⟩
  rw [xn_c (show i < 2 ^ 31 by omega), (hX i hi).1, hl]
  refine ⟨fun z => absurd z (by decide), fun _ => s11_end hi48 hS (fun hS => ⟨_, rfl, hS, fun _ => ?_, fun g => ?_⟩)⟩
  · refine s11_stepsOf hi48 hOi r2 ((hX i hi).2 hl) f0 f1 f2 f3 hS (fun M1 s1 l1 hS => ⟨rfl, hS, ?_⟩)
    have l1 : lsM b M1 (edL F (s.2 i) i j) := l1
    have gd : goodL (edL F (s.2 i) i j) := good_eg hOi r1 r2
    refine s11_relax gd.1 (by have := gd.2.1; omega) l1 hS ?_
    intro M2 s2 m2 hS
    have m2 : (edA F (s.2 i) i j).1 = true → mdZ b M2 (edA F (s.2 i) i j).2 := m2
    show ∃ r7 : Bool, some (Value.int (xz (edA F (s.2 i) i j).1)) = some (.int (xz r7)) ∧ _
    have ix : vp_in (Int32.ofNat (2 * i + jN j)) 96 := xn_in (by omega) (by decide)
    have s12 : smH b M M2 := s1.h.tr s2.h
    have hg168 : ∀ k, xm_gi M2 (b + 168) k = xm_gi M (b + 168) k := fun k => by rw [s2.1, s1.1 _ _ (by omega)]
    have hX2 : bdM b M2 n s := fun x hx => ⟨by rw [s2.1, s1.1 _ _ (by omega)]; exact (hX x hx).1, fun q k hk => by rw [s2.2 _ _ (by omega), s1.2 _ _ (by omega)]; exact (hX x hx).2 q k hk⟩
    refine ⟨_, rfl, hS, fun g => ?_, fun g => ?_⟩
    · have gt := xz_ne g
      rw [xz_s, ixW, xn_c (by omega)]
      refine ⟨ix, ix, fun z => absurd (by rw [gi_pi, if_pos ⟨rfl, rfl⟩]) z, fun _ => ?_⟩
      have eS : edS F s i j = joS s (enN F i j) (edA F (s.2 i) i j).2 := if_pos gt
      have hS : xm_st b c p (xm_pi M2 (b + 168) (2 * i + jN j) 0) := hS
      rw [← xz_s, f0, f4, hen]
      refine s11_come hn48 hlt hO (fun x y hx hy hne => m2 gt x y hx hy hne) (fun x hx => ⟨by rw [gi_pi, if_neg (by omega)]; exact (hX2 x hx).1, fun q k hk => (hX2 x hx).2 q k hk⟩) hS (fun M3 g1 g2 x3 hS => ⟨rfl, hS, fun hS => ?_⟩)
      rw [← eS] at x3
      refine h M3 (s12.tr ⟨fun x k q => by rw [g1 _ _ (by omega), gi_pi, if_neg (by omega)], fun x k q => by rw [g2 _ _ (by omega), gl_pi]⟩) x3 ?_ (fun k hk => ?_) hS
      · rw [g1 _ _ (by omega), gi_pi, if_pos ⟨rfl, rfl⟩, gt]; rfl
      · rw [g1 _ _ (by omega), gi_pi, if_neg (fun z => hk z.2)]; exact hg168 k
    · have gf := xz_0.mp g
      rw [xz_s, ixW, xn_c (by omega)]
      refine ⟨ix, ix, fun _ hS => ?_, fun z => absurd z (by rw [gi_pi, if_pos ⟨rfl, rfl⟩]; decide)⟩
      have eS : edS F s i j = s := if_neg (fun z => by rw [gf] at z; cases z)
      rw [eS] at h
      rw [← xz_s]
      refine h _ (s12.tr ⟨fun x k q => by rw [gi_pi, if_neg (by omega)], fun x k q => rfl⟩) (fun x hx => ⟨by rw [gi_pi, if_neg (by omega)]; exact (hX2 x hx).1, fun q k hk => (hX2 x hx).2 q k hk⟩) ?_ (fun k hk => ?_) hS
      · rw [gi_pi, if_pos ⟨rfl, rfl⟩, gf]; rfl
      · rw [gi_pi, if_neg (fun z => hk z.2)]; exact hg168 k
  · rw [f0, f4, hen, show (0 : Int32) = Int32.ofNat 0 from rfl] at g
    exact absurd ((xn_le (by decide) (by omega)).mpr (Nat.zero_le _)) g
/-- no edge there -/
theorem lp_fm49n {F : Flt} {n i : Nat} {j : Bool} {s : BdT} {M : xm_M} (hF : fOk F n) (hi : i < n) (hl : s.1 i = true) (hX : bdM b M n s) (hL : flM b M F) (hen : enI (F.1 i) (F.2.2.2.2 i) (Int32.ofNat i) (xz j) = -1) (hS : xm_st b c p M)
    (h : xm_st b c p M → xm_X l E y11_findBounds rm11_findBounds Q 49 [(0, .ref (b + 154)), (1, .int (Int32.ofNat i)), (2, .int (xz j + Int32.ofInt 1))] [] 0 0 M) :
    xm_X l E y11_findBounds rm11_findBounds Q 49 [(0, .ref (b + 154)), (1, .int (Int32.ofNat i)), (2, .int (xz j))] [] 0 0 M := by
  have hi48 : i < 48 := by have := hF.1; omega
  obtain ⟨f0, f1, f2, f3, f4⟩ := hL i hi48
  refine t11_findBounds_49 M _ _ hS ⟨fun g => absurd g (by cases j <;> decide), fun _ => ⟨xn_in hi48 (by decide), ?_⟩⟩
  rw [xn_c (show i < 2 ^ 31 by omega), (hX i hi).1, hl]
  refine ⟨fun z => absurd z (by decide), fun _ => s11_end hi48 hS (fun hS => ⟨_, rfl, hS, fun g => ?_, fun _ => h⟩)⟩
  rw [f0, f4, hen] at g
  exact absurd g (by decide)
theorem ed_kj {F : Flt} {n i e : Nat} {j : Bool} {s : BdT} (hF : fOk F n) (hi : i < n) (he : e < ecC (F.1 i)) (hj : jB (F.1 i) (Int32.ofNat e) = j) : ∀ x, x ≤ i → (edS F s i j).1 x = s.1 x ∧ (edS F s i j).2 x = s.2 x := by
  rw [← hj]
  exact ed_keep hF hi he
/-- the four kinds of instructions -/
theorem kind_of {F : Flt} {n i : Nat} (hF : fOk F n) (hi : i < n) :
    (F.1 i = 0 ∧ ecC (F.1 i) = 0 ∧ enI (F.1 i) (F.2.2.2.2 i) (Int32.ofNat i) (xz false) = -1 ∧ enI (F.1 i) (F.2.2.2.2 i) (Int32.ofNat i) (xz true) = -1) ∨
    (ecC (F.1 i) = 1 ∧ jB (F.1 i) (Int32.ofNat 0) = false ∧ enI (F.1 i) (F.2.2.2.2 i) (Int32.ofNat i) (xz false) = Int32.ofNat (enN F i false) ∧ enN F i false < n ∧ enI (F.1 i) (F.2.2.2.2 i) (Int32.ofNat i) (xz true) = -1) ∨
    (ecC (F.1 i) = 1 ∧ jB (F.1 i) (Int32.ofNat 0) = true ∧ enI (F.1 i) (F.2.2.2.2 i) (Int32.ofNat i) (xz false) = -1 ∧ enI (F.1 i) (F.2.2.2.2 i) (Int32.ofNat i) (xz true) = Int32.ofNat (enN F i true) ∧ enN F i true < n) ∨
    (ecC (F.1 i) = 2 ∧ jB (F.1 i) (Int32.ofNat 0) = false ∧ jB (F.1 i) (Int32.ofNat 1) = true ∧ enI (F.1 i) (F.2.2.2.2 i) (Int32.ofNat i) (xz false) = Int32.ofNat (enN F i false) ∧ enN F i false < n ∧ enI (F.1 i) (F.2.2.2.2 i) (Int32.ofNat i) (xz true) = Int32.ofNat (enN F i true) ∧ enN F i true < n) := by
  have E0 : enI (F.1 i) (F.2.2.2.2 i) (Int32.ofNat i) (xz false) = if F.1 i = 0 then -1 else if F.1 i = 13 then -1 else Int32.ofNat i + 1 := if_pos rfl
  have E1 : enI (F.1 i) (F.2.2.2.2 i) (Int32.ofNat i) (xz true) = if F.1 i ≤ 12 then -1 else F.2.2.2.2 i := if_neg (by decide)
  have en0 : ¬ F.1 i = 0 → enN F i false < n := fun h => fOk_nx hF hi h
  have en1 : ¬ F.1 i < 13 → enN F i true < n ∧ F.2.2.2.2 i = Int32.ofNat (enN F i true) := fun h => fOk_t hF hi h
  rw [E0, E1]
  have e0 : Int32.ofNat i + 1 = Int32.ofNat (enN F i false) := ix1 i
  by_cases g0 : F.1 i = 0
  · refine Or.inl ⟨g0, by unfold ecC; rw [if_pos g0], if_pos g0, ?_⟩
    rw [g0]; rfl
  · rw [if_neg g0]
    have ec : ecC (F.1 i) = if F.1 i < 14 then 1 else 2 := if_neg g0
    by_cases g13 : F.1 i = 13
    · have l13 : ¬ F.1 i < 13 := by rw [g13]; decide
      obtain ⟨q1, q2⟩ := en1 l13
      refine Or.inr (Or.inr (Or.inl ⟨by rw [ec, g13]; rfl, by rw [g13]; rfl, if_pos g13, ?_, q1⟩))
      rw [if_neg (by rw [g13]; decide)]; exact q2
    · rw [if_neg g13]
      by_cases g14 : F.1 i < 14
      · have le12 : F.1 i ≤ 12 := by
          rw [Int32.lt_iff_toInt_lt, show (14 : Int32).toInt = 14 by decide] at g14
          rw [Int32.le_iff_toInt_le, show (12 : Int32).toInt = 12 by decide]
          have : ¬ (F.1 i).toInt = 13 := fun z => g13 (Int32.toInt_inj.mp (by rw [z]; decide))
          omega
        refine Or.inr (Or.inl ⟨by rw [ec, if_pos g14], ?_, e0, en0 g0, if_pos le12⟩)
        unfold jB
        rw [decide_eq_false g13, decide_eq_true g14]; rfl
      · have l13 : ¬ F.1 i < 13 := fun z => g14 (by
          rw [Int32.lt_iff_toInt_lt] at z ⊢
          rw [show (13 : Int32).toInt = 13 by decide] at z
          rw [show (14 : Int32).toInt = 14 by decide]
          omega)
        obtain ⟨q1, q2⟩ := en1 l13
        have gt12 : ¬ F.1 i ≤ 12 := fun z => g14 (by
          rw [Int32.le_iff_toInt_le, show (12 : Int32).toInt = 12 by decide] at z
          rw [Int32.lt_iff_toInt_lt, show (14 : Int32).toInt = 14 by decide]
          omega)
        refine Or.inr (Or.inr (Or.inr ⟨by rw [ec, if_neg g14], ?_, ?_, e0, en0 g0, ?_, q1⟩))
        · unfold jB
          rw [decide_eq_false g13, decide_eq_false g14]; rfl
        · unfold jB
          rw [decide_eq_false g13, decide_eq_false g14]; rfl
        · rw [if_neg gt12]; exact q2
theorem lp_fm39 {F : Flt} {n : Nat} (hF : fOk F n) : ∀ (k i : Nat) (s : BdT) (M : xm_M), i + k = n → bdM b M n s → bdOk s → flM b M F → xm_gi M (b + 154) 1 = Int32.ofNat n → imW b M F s i → xm_st b c p M →
    (∀ M1, smH b M M1 → bdM b M1 n (bdS F k i s) → imW b M1 F (bdS F k i s) n → xm_st b c p M1 → Q none M1) →
    xm_X l E y11_findBounds rm11_findBounds Q 39 [(0, .ref (b + 154)), (1, .int (Int32.ofNat i))] [] 0 0 M := by
  have hn48 : n ≤ 48 := hF.1
  intro k
  induction k with
  | zero =>
    intro i s M hi hX hO hL hc hI hS h
    refine t11_findBounds_39 M _ hS ?_
    rw [hc]
    refine ⟨fun _ hS => h M smH.rf hX (by rw [show n = i by omega]; exact hI) hS, fun g => absurd ((xn_le (by omega) (by omega)).mpr (by omega)) g⟩
  | succ k ih =>
    intro i s M hi hX hO hL hc hI hS h
    have hin : i < n := by omega
    have hi48 : i < 48 := by omega
    refine t11_findBounds_39 M _ hS ?_
    rw [hc]
    refine ⟨fun g => ?_, fun _ hS => ?_⟩
    · have g := (xn_le (by omega) (by omega)).mp g
      omega
    have eb : bdS F (k + 1) i s = bdS F k (i + 1) (inB F i s) := rfl
    rw [eb] at h
    cases hl : s.1 i with
    | false =>
      have ein : inB F i s = s := if_neg (fun z => by rw [hl] at z; cases z)
      rw [ein] at h
      refine t11_findBounds_49 M _ _ hS ⟨fun g => absurd g (by decide), fun _ => ⟨xn_in hi48 (by decide), ?_⟩⟩
      rw [xn_c (show i < 2 ^ 31 by omega), (hX i hin).1, hl, xn_s]
      refine ⟨fun _ hS => ih (i + 1) s M (by omega) hX hO hL hc (fun x hx hxl => ?_) hS h, fun z => absurd rfl z⟩
      by_cases ex : x = i
      · rw [ex, hl] at hxl; cases hxl
      · exact hI x (by omega) hxl
    | true =>
      have ein : inB F i s = exS F i (ecC (F.1 i)) 0 s := if_pos hl
      rw [ein] at h
      have endd : ∀ (t : BdT) (N : xm_M), smH b M N → bdM b N n t → bdOk t → (∀ x, x ≤ i → t.1 x = s.1 x ∧ t.2 x = s.2 x) → (∀ y, y < 2 * i → xm_gi N (b + 168) y = xm_gi M (b + 168) y) → (∀ e, e < ecC (F.1 i) → xm_gi N (b + 168) (2 * i + jN (jB (F.1 i) (Int32.ofNat e))) = xz (imV F s i e)) → exS F i (ecC (F.1 i)) 0 s = t → xm_st b c p N → xm_X l E y11_findBounds rm11_findBounds Q 49 [(0, .ref (b + 154)), (1, .int (Int32.ofNat i)), (2, .int (xz true + Int32.ofInt 1))] [] 0 0 N := by
        intro t N s1 x1 o1 k1 g1 g2 e1 hS
        rw [e1] at h
        refine t11_findBounds_49 N _ _ hS ⟨fun _ hS => ?_, fun g => absurd (by decide) g⟩
        rw [xn_s]
        refine ih (i + 1) t N (by omega) x1 o1 (hL.h s1) (by rw [s1.1 _ _ (by omega)]; exact hc) (fun x hx hxl e he => ?_) hS (fun M1 s2 x2 i2 hS => h M1 (s1.tr s2) x2 i2 hS)
        have hk := k1 x (by omega)
        by_cases ex : x = i
        · rw [ex] at he hk ⊢
          rw [g2 e he, imV_cg hk.2]
        · have := ecC_le (F.1 x)
          have j1 : jN (jB (F.1 x) (Int32.ofNat e)) ≤ 1 := by cases jB (F.1 x) (Int32.ofNat e) <;> decide
          rw [g1 _ (by omega), imV_cg hk.2]
          exact hI x (by omega) (by rw [← hk.1]; exact hxl) e he
      show xm_X l E y11_findBounds rm11_findBounds Q 49 [(0, .ref (b + 154)), (1, .int (Int32.ofNat i)), (2, .int (xz false))] [] 0 0 M
      have one : xz false + Int32.ofInt 1 = xz true := by decide
      rcases kind_of hF hin with ⟨_, c0, n0, n1⟩ | ⟨c1, j0, n0, m0, n1⟩ | ⟨c1, j0, n0, n1, m1⟩ | ⟨c2, j0, j1, n0, m0, n1, m1⟩
      · refine lp_fm49n hF hin hl hX hL n0 hS (fun hS => ?_)
        rw [one]
        refine lp_fm49n hF hin hl hX hL n1 hS (fun hS => ?_)
        exact endd s M smH.rf hX hO (fun _ _ => ⟨rfl, rfl⟩) (fun _ _ => rfl) (fun e he => by omega) (by rw [c0]; rfl) hS
      · have ke := ed_kj (s := s) hF hin (show 0 < ecC (F.1 i) by omega) j0
        refine lp_fm49 hF hin hl hX hO hL n0 m0 hS (fun M1 s1 x1 g1 g2 hS => ?_)
        rw [one]
        refine lp_fm49n hF hin ((ke i (Nat.le_refl i)).1.trans hl) x1 (hL.h s1) n1 hS (fun hS => ?_)
        refine endd _ M1 s1 x1 (ed_ok hO) ke (fun y hy => g2 y (by unfold jN; rw [if_neg (by decide)]; omega)) (fun e he => ?_) (by rw [c1]; show edS F s i (jB (F.1 i) (Int32.ofNat 0)) = _; rw [j0]) hS
        rw [show e = 0 by omega, j0, g1]
        unfold imV
        rw [j0]
      · have ke := ed_kj (s := s) hF hin (show 0 < ecC (F.1 i) by omega) j0
        refine lp_fm49n hF hin hl hX hL n0 hS (fun hS => ?_)
        rw [one]
        refine lp_fm49 hF hin hl hX hO hL n1 m1 hS (fun M1 s1 x1 g1 g2 hS => ?_)
        refine endd _ M1 s1 x1 (ed_ok hO) ke (fun y hy => g2 y (by unfold jN; rw [if_pos rfl]; omega)) (fun e he => ?_) (by rw [c1]; show edS F s i (jB (F.1 i) (Int32.ofNat 0)) = _; rw [j0]) hS
        rw [show e = 0 by omega, j0, g1]
        unfold imV
        rw [j0]
      · have ke := ed_kj (s := s) hF hin (show 0 < ecC (F.1 i) by omega) j0
        have ke2 := ed_kj (s := edS F s i false) hF hin (show 1 < ecC (F.1 i) by omega) j1
        refine lp_fm49 hF hin hl hX hO hL n0 m0 hS (fun M1 s1 x1 g1 g2 hS => ?_)
        rw [one]
        refine lp_fm49 hF hin ((ke i (Nat.le_refl i)).1.trans hl) x1 (ed_ok hO) (hL.h s1) n1 m1 hS (fun M2 s2 x2 g3 g4 hS => ?_)
        refine endd _ M2 (s1.tr s2) x2 (ed_ok (ed_ok hO)) (fun x hx => ⟨(ke2 x hx).1.trans (ke x hx).1, (ke2 x hx).2.trans (ke x hx).2⟩) (fun y hy => by rw [g4 y (by unfold jN; rw [if_pos rfl]; omega), g2 y (by unfold jN; rw [if_neg (by decide)]; omega)]) (fun e he => ?_) (by rw [c2]; show edS F (edS F s i (jB (F.1 i) (Int32.ofNat 0))) i (jB (F.1 i) (Int32.ofNat (0 + 1))) = _; rw [j0, j1]) hS
        by_cases e0 : e = 0
        · rw [e0, j0, g4 _ (by unfold jN; rw [if_neg (by decide), if_pos rfl]; omega), g1]
          unfold imV
          rw [j0]
        · rw [show e = 1 by omega, j1, g3, (ke i (Nat.le_refl i)).2]
          unfold imV
          rw [j1]
theorem lp_fm2 {F : Flt} {n : Nat} {least : Int32} (hF : fOk F n) (hbg : apL true [] (begL least) = begL least) : ∀ (k i : Nat) (M : xm_M), i + k = n → (∀ x, x < i → xm_gi M (b + 167) x = 0) → flM b M F → xm_gi M (b + 154) 1 = Int32.ofNat n → xm_gi M (b + 154) 0 = least → (fwX 100 0 (mnL (apL true [] (begL least)))).1 = true → xm_st b c p M →
    (∀ M1, smH b M M1 → bdM b M1 n (bdE F least n) → imW b M1 F (bdE F least n) n → xm_st b c p M1 → Q none M1) →
    xm_X l E y11_findBounds rm11_findBounds Q 2 [(0, .ref (b + 154)), (1, .int (Int32.ofNat i))] [] 0 0 M := by
  have hn48 : n ≤ 48 := hF.1
  intro k
  induction k with
  | zero =>
    intro i M hi hz hL hc h0 hfw hS h
    refine t11_findBounds_2 M _ hS ?_
    rw [hc]
    refine ⟨fun _ => s11_beginning hS ?_, fun g => absurd ((xn_le (by omega) (by omega)).mpr (by omega)) g⟩
    rw [h0, ← hbg]
    intro M1 s1 l1 _ hS
    have gd := good_bg (least := least)
    refine ⟨rfl, hS, s11_relax gd.1 (by have := gd.2.1; omega) l1 hS (fun M2 s2 m2 hS => ⟨_, rfl, hS, ?_⟩)⟩
    have s12 : smH b M M2 := s1.h.tr s2.h
    show xm_C l E y11_come rm11_come [.ref (b + 154), .int (Int32.ofNat 0)] M2 _
    refine s11_come (s := (fun _ => false, fun _ _ => none)) (A := (fwX 100 0 (mnL (apL true [] (begL least)))).2) hn48 hF.2.1 (fun i h => by cases h) (m2 hfw) (fun x hx => ⟨by rw [s2.1, s1.1 _ _ (by omega)]; exact hz x (by omega), fun z => by cases z⟩) hS (fun M3 g1 g2 x3 hS => ⟨rfl, hS, fun hS => ?_⟩)
    have sy : smH b M M3 := s12.tr ⟨fun x k q => g1 x k (by omega), fun x k q => g2 x k (by omega)⟩
    exact lp_fm39 hF n 0 (bdZ least) M3 (by omega) x3 bdZ_ok (hL.h sy) (by rw [sy.1 _ _ (by omega)]; exact hc) (fun x hx => absurd hx (Nat.not_lt_zero x)) hS (fun M4 s4 x4 i4 hS => h M4 (sy.tr s4) x4 i4 hS)
  | succ k ih =>
    intro i M hi hz hL hc h0 hfw hS h
    refine t11_findBounds_2 M _ hS ?_
    rw [hc]
    refine ⟨fun g => ?_, fun _ => ⟨xn_in (by omega) (by decide), ?_⟩⟩
    · have g := (xn_le (by omega) (by omega)).mp g
      omega
    rw [xn_c (by omega), xn_s]
    intro hS
    have s0 : smH b M (xm_pi M (b + 167) i 0) := ⟨fun x k q => by rw [gi_pi, if_neg (by omega)], fun _ _ _ => rfl⟩
    refine ih (i + 1) _ (by omega) (fun x hx => ?_) (hL.h s0) (by rw [s0.1 _ _ (by omega)]; exact hc) (by rw [s0.1 _ _ (by omega)]; exact h0) hfw hS (fun M1 s1 x1 i1 hS => h M1 (s0.tr s1) x1 i1 hS)
    rw [gi_pi]
    by_cases e : x = i
    · rw [if_pos ⟨rfl, e⟩]
    · rw [if_neg (fun z => e z.2)]; exact hz x (by omega)
end BM
