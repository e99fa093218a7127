/-! bounds, forwards -/
abbrev BdT : Type := (Nat → Bool) × (Nat → Nat → Option Int64)
def bO (A : MtT) (k : Nat) : Option Int64 := if k / 10 = k % 10 then none else if isB (A (k / 10) (k % 10)) = true then some (A (k / 10) (k % 10)) else none
def mxO (t : Bool) (x c : Option Int64) : Option Int64 := if t = true then (match x, c with
  | some x, some c => some (if c ≤ x then x else c)
  | _, _ => none) else c
def joS (s : BdT) (e : Nat) (A : MtT) : BdT := (fun i => if i = e then true else s.1 i, fun i k => if i = e then mxO (s.1 e) (s.2 e k) (bO A k) else s.2 i k)
def edL (F : Flt) (B : Nat → Option Int64) (i : Nat) (j : Bool) : List NsT := apL true [] (egB (F.1 i) (F.2.1 i) (F.2.2.1 i) (F.2.2.2.1 i) j B)
def edA (F : Flt) (B : Nat → Option Int64) (i : Nat) (j : Bool) : Bool × MtT := fwX 100 0 (mnL (edL F B i j))
def enN (F : Flt) (i : Nat) (j : Bool) : Nat := if j = true then (F.2.2.2.2 i).toNatClampNeg else i + 1
def edS (F : Flt) (s : BdT) (i : Nat) (j : Bool) : BdT := if (edA F (s.2 i) i j).1 = true then joS s (enN F i j) (edA F (s.2 i) i j).2 else s
def ecC (o : Int32) : Nat := if o = 0 then 0 else if o < 14 then 1 else 2
def exS (F : Flt) (i : Nat) : Nat → Nat → BdT → BdT
  | 0, _, s => s
  | k + 1, e, s => exS F i k (e + 1) (edS F s i (jB (F.1 i) (Int32.ofNat e)))
def inB (F : Flt) (i : Nat) (s : BdT) : BdT := if s.1 i = true then exS F i (ecC (F.1 i)) 0 s else s
def bdS (F : Flt) : Nat → Nat → BdT → BdT
  | 0, _, s => s
  | k + 1, i, s => bdS F k (i + 1) (inB F i s)
def bdZ (least : Int32) : BdT := joS (fun _ => false, fun _ _ => none) 0 (fwX 100 0 (mnL (apL true [] (begL least)))).2
def bdE (F : Flt) (least : Int32) (n : Nat) : BdT := bdS F n 0 (bdZ least)
def bdOk (s : BdT) : Prop := ∀ i, s.1 i = true → boOk (s.2 i)
theorem bO_ok (A : MtT) : boOk (bO A) := by
 refine ⟨fun k c hk h => ?_, fun u hu => if_pos (by omega)⟩
 next =>
  unfold bO at h
  by_cases g : k / 10 = k % 10
  · rw [if_pos g] at h; cases h
  · rw [if_neg g] at h
    by_cases g2 : isB (A (k / 10) (k % 10)) = true
    · rw [if_pos g2] at h; cases h; exact g2
    · rw [if_neg g2] at h; cases h
theorem mx_ok {t : Bool} {B C : Nat → Option Int64} (hB : t = true → boOk B) (hC : boOk C) : boOk (fun k => mxO t (B k) (C k)) := by
  cases t with
  | false => exact hC
  | true =>
    have hB := hB rfl
    refine ⟨fun k c hk h => ?_, fun u hu => ?_⟩
    · have h : (match B k, C k with
        | some x, some c => some (if c ≤ x then x else c)
        | _, _ => none) = some c := h
      cases h1 : B k with
      | none => rw [h1] at h; cases h
      | some x =>
        cases h2 : C k with
        | none => rw [h1, h2] at h; cases h
        | some y =>
          rw [h1, h2] at h
          cases h
          show isB (if y ≤ x then x else y) = true
          by_cases g : y ≤ x
          · rw [if_pos g]; exact hB.1 k x hk h1
          · rw [if_neg g]; exact hC.1 k y hk h2
    · show (match B (11 * u), C (11 * u) with
        | some x, some c => some (if c ≤ x then x else c)
        | _, _ => none) = none
      rw [hB.2 u hu]
theorem jo_ok {s : BdT} {e : Nat} {A : MtT} (h : bdOk s) : bdOk (joS s e A) := fun i hi => by
  by_cases g : i = e
  · have : (joS s e A).2 i = fun k => mxO (s.1 e) (s.2 e k) (bO A k) := funext (fun k => if_pos g)
    rw [this]
    exact mx_ok (h e) (bO_ok A)
  · have : (joS s e A).2 i = s.2 i := funext (fun k => if_neg g)
    rw [this]
    exact h i (by rw [← hi]; exact (if_neg g).symm)
theorem jo_ne {s : BdT} {e i : Nat} {A : MtT} (h : ¬ i = e) : (joS s e A).1 i = s.1 i ∧ (joS s e A).2 i = s.2 i := ⟨if_neg h, funext (fun k => if_neg h)⟩
theorem ed_ok {F : Flt} {s : BdT} {i : Nat} {j : Bool} (h : bdOk s) : bdOk (edS F s i j) := by
  unfold edS
  by_cases g : (edA F (s.2 i) i j).1 = true
  · rw [if_pos g]; exact jo_ok h
  · rw [if_neg g]; exact h
/-- an edge goes forwards -/
theorem en_gt {F : Flt} {n i e : Nat} (hF : fOk F n) (hi : i < n) (he : e < ecC (F.1 i)) : i < enN F i (jB (F.1 i) (Int32.ofNat e)) ∧ enN F i (jB (F.1 i) (Int32.ofNat e)) < n ∧ (if jB (F.1 i) (Int32.ofNat e) = true then F.2.2.2.2 i else Int32.ofNat i + 1) = Int32.ofNat (enN F i (jB (F.1 i) (Int32.ofNat e))) := by
  have h0 : ¬ F.1 i = 0 := fun z => by
    unfold ecC at he
    rw [if_pos z] at he
    exact absurd he (Nat.not_lt_zero e)
  unfold enN
  cases hj : jB (F.1 i) (Int32.ofNat e) with
  | false =>
    rw [if_neg (by decide), if_neg (by decide)]
    exact ⟨Nat.lt_succ_self i, fOk_nx hF hi h0, ix1 i⟩
  | true =>
    rw [if_pos rfl, if_pos rfl]
    have h13 : ¬ F.1 i < 13 := fun z => by
      unfold jB at hj
      have n13 : ¬ F.1 i = 13 := fun y => by rw [y] at z; exact absurd z (by decide)
      have l14 : F.1 i < 14 := by
        rw [Int32.lt_iff_toInt_lt] at z ⊢
        rw [show (13 : Int32).toInt = 13 by decide] at z
        rw [show (14 : Int32).toInt = 14 by decide]
        omega
      rw [decide_eq_false n13, decide_eq_true l14] at hj
      cases hj
    have h1 := (hF.2.2.2 i hi).2.2.2 h13
    exact h1
theorem ed_keep {F : Flt} {n i e : Nat} {s : BdT} (hF : fOk F n) (hi : i < n) (he : e < ecC (F.1 i)) : ∀ x, x ≤ i → (edS F s i (jB (F.1 i) (Int32.ofNat e))).1 x = s.1 x ∧ (edS F s i (jB (F.1 i) (Int32.ofNat e))).2 x = s.2 x := fun x hx => by
  unfold edS
  by_cases g : (edA F (s.2 i) i (jB (F.1 i) (Int32.ofNat e))).1 = true
  · rw [if_pos g]
    have := (en_gt hF hi he).1
    exact jo_ne (by omega)
  · rw [if_neg g]; exact ⟨rfl, rfl⟩
theorem ex_ok {F : Flt} {i : Nat} : ∀ (k e : Nat) (s : BdT), bdOk s → bdOk (exS F i k e s)
  | 0, _, _, h => h
  | k + 1, e, s, h => ex_ok k (e + 1) _ (ed_ok h)
theorem ex_keep {F : Flt} {n i : Nat} (hF : fOk F n) (hi : i < n) : ∀ (k e : Nat) (s : BdT), e + k ≤ ecC (F.1 i) → ∀ x, x ≤ i → (exS F i k e s).1 x = s.1 x ∧ (exS F i k e s).2 x = s.2 x
  | 0, _, _, _, _, _ => ⟨rfl, rfl⟩
  | k + 1, e, s, h, x, hx => by
    have h1 := ex_keep hF hi k (e + 1) (edS F s i (jB (F.1 i) (Int32.ofNat e))) (by omega) x hx
    have h2 := ed_keep (s := s) hF hi (show e < ecC (F.1 i) by omega) x hx
    exact ⟨h1.1.trans h2.1, h1.2.trans h2.2⟩
theorem in_ok {F : Flt} {i : Nat} {s : BdT} (h : bdOk s) : bdOk (inB F i s) := by
  unfold inB
  by_cases g : s.1 i = true
  · rw [if_pos g]; exact ex_ok _ _ _ h
  · rw [if_neg g]; exact h
theorem in_keep {F : Flt} {n i : Nat} {s : BdT} (hF : fOk F n) (hi : i < n) : ∀ x, x ≤ i → (inB F i s).1 x = s.1 x ∧ (inB F i s).2 x = s.2 x := fun x hx => by
  unfold inB
  by_cases g : s.1 i = true
  · rw [if_pos g]; exact ex_keep hF hi _ _ _ (by omega) x hx
  · rw [if_neg g]; exact ⟨rfl, rfl⟩
theorem bs_ok {F : Flt} : ∀ (k i : Nat) (s : BdT), bdOk s → bdOk (bdS F k i s)
  | 0, _, _, h => h
  | k + 1, i, s, h => bs_ok k (i + 1) _ (in_ok h)
theorem bs_keep {F : Flt} {n : Nat} (hF : fOk F n) : ∀ (k i : Nat) (s : BdT), i + k ≤ n → ∀ x, x < i + 1 → 0 < k → (bdS F k i s).1 x = s.1 x ∧ (bdS F k i s).2 x = s.2 x
  | 0, _, _, _, _, _, h => absurd h (Nat.lt_irrefl 0)
  | k + 1, i, s, hk, x, hx, _ => by
    have h2 := in_keep (s := s) hF (show i < n by omega) x (by omega)
    by_cases e : k = 0
    · subst e; exact h2
    · have h1 := bs_keep hF k (i + 1) (inB F i s) (by omega) x (by omega) (by omega)
      exact ⟨h1.1.trans h2.1, h1.2.trans h2.2⟩
theorem bdZ_ok {least : Int32} : bdOk (bdZ least) := jo_ok (fun i h => by cases h)
theorem bdE_ok {F : Flt} {least : Int32} {n : Nat} : bdOk (bdE F least n) := bs_ok n 0 _ bdZ_ok
theorem bdE_0 {F : Flt} {least : Int32} {n : Nat} (hF : fOk F n) : (bdE F least n).1 0 = true ∧ (bdE F least n).2 0 = bO (fwX 100 0 (mnL (apL true [] (begL least)))).2 := by
  have h := bs_keep hF n 0 (bdZ least) (by omega) 0 (by omega) hF.2.1
  refine ⟨h.1.trans rfl, h.2.trans ?_⟩
  exact funext (fun k => rfl)
/-! the class -/
def bdX (b : Nat) (M : xm_M) (n : Nat) (s : BdT) : Prop := ∀ i, i < n → xm_gi M (b + 105) i = xz (s.1 i) ∧ (s.1 i = true → boX M (b + 57 + i) (s.2 i))
def imV (F : Flt) (s : BdT) (i e : Nat) : Bool := !(edA F (s.2 i) i (jB (F.1 i) (Int32.ofNat e))).1
def imP (b : Nat) (M : xm_M) (F : Flt) (s : BdT) (i e : Nat) : Prop := ∀ x, x < e → xm_gi M (b + 106) (2 * i + x) = xz (imV F s i x)
def imX (b : Nat) (M : xm_M) (F : Flt) (s : BdT) (m : Nat) : Prop := ∀ i, i < m → s.1 i = true → imP b M F s i (ecC (F.1 i))
theorem imV_cg {F : Flt} {s t : BdT} {i e : Nat} (h : t.2 i = s.2 i) : imV F t i e = imV F s i e := by unfold imV; rw [h]
/-- only bounds and what is reached -/
def smB (b : Nat) (M N : xm_M) : Prop := (∀ x k, ¬ x = b + 105 → xm_gi N x k = xm_gi M x k) ∧ ∀ x k, ¬ (b + 57 ≤ x ∧ x < b + 105) → xm_gl N x k = xm_gl M x k
/-- what finding bounds changes -/
def smY (b : Nat) (M N : xm_M) : Prop := (∀ x k, ¬ (x = b + 105 ∨ x = b + 106 ∨ (b + 110 ≤ x ∧ x ≤ b + 128)) → xm_gi N x k = xm_gi M x k) ∧ ∀ x k, ¬ ((b + 57 ≤ x ∧ x < b + 105) ∨ (b + 110 ≤ x ∧ x ≤ b + 128)) → xm_gl N x k = xm_gl M x k
theorem smY.rf {b : Nat} {M : xm_M} : smY b M M := ⟨fun _ _ _ => rfl, fun _ _ _ => rfl⟩
theorem smY.tr {b : Nat} {M N P : xm_M} (h : smY b M N) (g : smY b N P) : smY b M P := ⟨fun x k q => (g.1 x k q).trans (h.1 x k q), fun x k q => (g.2 x k q).trans (h.2 x k q)⟩
theorem smB.y {b : Nat} {M N : xm_M} (h : smB b M N) : smY b M N := ⟨fun x k q => h.1 x k (by omega), fun x k q => h.2 x k (by omega)⟩
theorem smX.y {b : Nat} {M N : xm_M} (h : smX b M N) : smY b M N := ⟨fun x k q => h.1 x k (by omega), fun x k q => h.2 x k (by omega)⟩
theorem bdX.x {b n : Nat} {M N : xm_M} {s : BdT} (h : bdX b M n s) (hn : n ≤ 48) (g : smX b M N) : bdX b N n s := fun i hi => ⟨by rw [g.1 _ _ (by omega)]; exact (h i hi).1, fun q k hk => by rw [g.2 _ _ (by omega)]; exact (h i hi).2 q k hk⟩
theorem sh_bo {b i : Nat} (hi : i < 48) : xS b (b + 57 + i) = some (.inl (100, .long)) := by
  rw [show b + 57 + i = b + (57 + i) by omega, xS_at]
  unfold xS_o
  rw [if_neg (by omega), if_neg (by omega), if_neg (by omega), if_neg (by omega), if_neg (by omega), if_neg (by omega), if_neg (by omega), if_neg (by omega), if_neg (by omega), if_neg (by omega), if_pos (by omega)]
theorem nX_mx {t : Bool} {B : Nat → Option Int64} {A : MtT} {k : Nat} (hB : t = true → boOk B) (hk : k < 100) : nX (mxO t (B k) (bO A k)) = if t = true then (if nX (bO A k) ≤ nX (B k) then nX (B k) else nX (bO A k)) else nX (bO A k) := by
  cases t with
  | false => rfl
  | true =>
    have hB := hB rfl
    rw [if_pos rfl]
    have bd : ∀ c, bO A k = some c → c.toInt ≤ 2147483647 := fun c h => (isB_iff.mp ((bO_ok A).1 k c hk h)).2
    generalize bO A k = o at bd
    cases h1 : B k with
    | none =>
      show N62 = if nX o ≤ N62 then N62 else nX o
      rw [if_pos]
      rw [Int64.le_iff_toInt_le, n62I]
      cases o with
      | none => show (N62 : Int64).toInt ≤ _; rw [n62I]; exact Int.le_refl _
      | some c => have := bd c rfl; show c.toInt ≤ _; omega
    | some x =>
      have bx := (isB_iff.mp (hB.1 k x hk h1)).2
      cases o with
      | none =>
        show N62 = if N62 ≤ x then x else N62
        rw [if_neg (fun z => by rw [Int64.le_iff_toInt_le, n62I] at z; omega)]
      | some c => rfl
section BX
variable {l : Launch} {E : xm_E} {b : Nat} {c p : Bool} {Q : Option Value → xm_M → Prop}
theorem lp_jb2 {A : MtT} {B : Nat → Option Int64} {e : Nat} {t : Bool} (he : e < 48) (hB : t = true → boOk B) : ∀ (k j : Nat) (M : xm_M), j + k = 100 → laX b M A → xm_gi M (b + 105) e = xz t → (t = true → ∀ i, j ≤ i → i < 100 → xm_gl M (b + 57 + e) i = nX (B i)) → (∀ i, i < j → xm_gl M (b + 57 + e) i = nX (mxO t (B i) (bO A i))) → RlD b M → xm_st b c true M →
    (∀ M1, (∀ x k, ¬ (x = b + 105 ∧ k = e) → xm_gi M1 x k = xm_gi M x k) → (∀ x k, ¬ x = b + 57 + e → xm_gl M1 x k = xm_gl M x k) → xm_gi M1 (b + 105) e = 1 → boX M1 (b + 57 + e) (fun i => mxO t (B i) (bO A i)) → RlD b M1 → xm_st b c true M1 → Q none M1) →
    xm_X l E y5_joinBounds rm5_joinBounds Q 2 [(0, .ref (b + 55)), (1, .int (Int32.ofNat e)), (2, .int (Int32.ofNat j))] [] 0 0 M := by
  intro k
  induction k with
  | zero =>
    intro j M hj hA ht hold hnew hD hS h
    refine t5_joinBounds_2 (p := true) M _ _ hS ⟨fun _ => ⟨xn_in he (by decide), ?_⟩, fun g => absurd (by rw [show j = 100 by omega]; decide) g⟩
    rw [xn_c (by omega)]
    exact fun hS => h _ (fun x k q => by rw [gi_pi, if_neg q]) (fun x k _ => rfl) (by rw [gi_pi, if_pos ⟨rfl, rfl⟩]) (fun i hi => hnew i (by omega)) (fun i u hi hu => hD i u hi hu) hS
  | succ k ih =>
    intro j M hj hA ht hold hnew hD hS h
    have ie : vp_in (Int32.ofNat e) 48 := xn_in he (by decide)
    have ij : vp_in (Int32.ofNat j) 100 := xn_in (by omega) (by decide)
    refine t5_joinBounds_2 (p := true) M _ _ hS ⟨fun g => ?_, fun _ => ?_⟩
    · have g := (xn_le (a := 100) (by decide) (by omega)).mp g
      omega
    rw [show (10 : Int32) = Int32.ofNat 10 from rfl, i32_mod (by omega) (by decide), i32_div (by omega) (by decide), xn_c (show e < 2 ^ 31 by omega), xn_c (show j < 2 ^ 31 by omega), xn_s]
    refine ⟨fun g hS => ?_, fun g => s6_bound (by omega) (by omega) hA hS (fun hS => ⟨_, rfl, hS, ie, ie, ?_⟩)⟩
    · have g := ofN_inj (by omega) (by omega) g
      refine ih (j + 1) M (by omega) hA ht (fun q i hi1 hi2 => hold q i (by omega) hi2) (fun i hi => ?_) hD hS h
      by_cases ei : i = j
      · rw [ei]
        have eo : bO A j = none := if_pos g
        have em : mxO t (B j) none = none := by
          unfold mxO
          cases t with
          | false => rfl
          | true =>
            cases B j with
            | none => rfl
            | some x => rfl
        rw [eo, em]
        have := hD e (j / 10) he (by omega)
        rw [show 11 * (j / 10) = j by omega] at this
        exact this
      · exact hnew i (by omega)
    have hne : ¬ j / 10 = j % 10 := fun z => g (by rw [z])
    have eb : bnX (A (j / 10) (j % 10)) = nX (bO A j) := by
      unfold bnX bO
      rw [if_neg hne]
      by_cases q : isB (A (j / 10) (j % 10)) = true
      · rw [if_pos q, if_pos q]; rfl
      · rw [if_neg q, if_neg q]; rfl
    have go : ∀ w : Int64, w = nX (mxO t (B j) (bO A j)) → xm_st b c true (xm_pl M (b + 57 + e) j w) → xm_X l E y5_joinBounds rm5_joinBounds Q 2 [(0, .ref (b + 55)), (1, .int (Int32.ofNat e)), (2, .int (Int32.ofNat (j + 1)))] [] 0 0 (xm_pl M (b + 57 + e) j w) := fun w hw hS => by
      refine ih (j + 1) _ (by omega) (fun u v hu hv => by rw [gl_pl, if_neg (by omega)]; exact hA u v hu hv) ht (fun q i hi1 hi2 => by rw [gl_pl, if_neg (by omega)]; exact hold q i (by omega) hi2) (fun i hi => ?_) (fun i u hi hu => by rw [gl_pl, if_neg (by omega)]; exact hD i u hi hu) hS (fun M1 f1 f2 f3 f4 f5 hS => h M1 f1 (fun x k q => by rw [f2 x k q, gl_pl, if_neg (fun z => q z.1)]) f3 f4 f5 hS)
      rw [gl_pl]
      by_cases ei : i = j
      · rw [if_pos ⟨rfl, ei⟩, ei]; exact hw
      · rw [if_neg (fun z => ei z.2)]; exact hnew i (by omega)
    have mx := nX_mx (t := t) (A := A) hB (show j < 100 by omega)
    rw [ht, eb]
    refine ⟨fun q => ⟨ij, go _ ?_⟩, fun q => ⟨ie, ij, s_max_J ⟨_, rfl, hS, ij, go _ ?_⟩⟩⟩
    · rw [mx, xz_0.mp q]; rfl
    · have tt := xz_ne q
      rw [mx, if_pos tt, hold tt j (Nat.le_refl j) (by omega)]
theorem s5_joinBounds {A : MtT} {s : BdT} {e n : Nat} {M : xm_M} (hn : n ≤ 48) (he : e < n) (hs : bdOk s) (hA : laX b M A) (hX : bdX b M n s) (hD : RlD b M) (hS : xm_st b c true M) (h : ∀ M1, smB b M M1 → bdX b M1 n (joS s e A) → RlD b M1 → xm_st b c true M1 → Q none M1) : xm_C l E y5_joinBounds rm5_joinBounds [.ref (b + 55), .int (Int32.ofNat e)] M Q := by
  refine xm_enter (by decide) (Nat.le_of_ble_eq_true rfl) (t5_joinBounds_0 (p := true) M _ hS (fun hS => lp_jb2 (A := A) (B := s.2 e) (t := s.1 e) (show e < 48 by omega) (hs e) 100 0 M rfl hA (hX e he).1 (fun q i _ hi => (hX e he).2 q i hi) (fun i hi => absurd hi (Nat.not_lt_zero i)) hD hS (fun M1 f1 f2 f3 f4 f5 hS => h M1 ⟨fun x k q => f1 x k (fun z => q z.1), fun x k q => f2 x k (by omega)⟩ (fun i hi => ?_) f5 hS)))
  by_cases g : i = e
  · have e1 : (joS s e A).1 i = true := if_pos g
    have e2 : (joS s e A).2 i = fun k => mxO (s.1 e) (s.2 e k) (bO A k) := funext (fun k => if_pos g)
    rw [e1, e2, g]
    exact ⟨f3, fun _ => f4⟩
  · obtain ⟨e1, e2⟩ := jo_ne (s := s) (A := A) g
    rw [e1, e2]
    exact ⟨by rw [f1 _ _ (fun z => g z.2)]; exact (hX i hi).1, fun q k hk => by rw [f2 _ _ (by omega)]; exact (hX i hi).2 q k hk⟩
end BX
