/-! the class's lists out of bounds -/
def nX : Option Int64 → Int64
  | none => N62
  | some c => c
def boOk (B : Nat → Option Int64) : Prop := (∀ k c, k < 100 → B k = some c → isB c = true) ∧ ∀ u, u < 10 → B (11 * u) = none
def boX (M : xm_M) (a : Nat) (B : Nat → Option Int64) : Prop := ∀ k, k < 100 → xm_gl M a k = nX (B k)
def ftB (B : Nat → Option Int64) (k : Nat) : Option StT := (B k).map (fun c => (Int32.ofNat (k / 10), Int32.ofNat (k % 10), c))
theorem ftB_ok {B : Nat → Option Int64} {k : Nat} {s : StT} (hB : boOk B) (hk : k < 100) (h : ftB B k = some s) : okP s := by
  unfold ftB at h
  cases hb : B k with
  | none => rw [hb] at h; cases h
  | some c =>
    rw [hb] at h
    cases h
    refine ⟨k / 10, k % 10, by omega, by omega, fun z => ?_, rfl, rfl⟩
    have : B (11 * (k / 10)) = none := hB.2 _ (by omega)
    rw [show 11 * (k / 10) = k by omega, hb] at this
    cases this
def plB (B : Nat → Option Int64) : List NsT := catL (fun k => onL (Int32.ofNat k) (ftB B k)) 100 0
def kpB (o a q k : Int32) (B : Nat → Option Int64) : List NsT := catL (fun j => onL (Int32.ofNat j) ((ftB B j).bind (caO o a q k))) 100 0
def smO (a q : Int32) (B : Nat → Option Int64) (x y : Nat) : Option StT := (ftB B x).bind (fun s => (ftB B y).bind (fun t => suO a q s t))
def suB (a q : Int32) (B : Nat → Option Int64) : List NsT := catL (fun x => onL (Int32.ofNat (100 + 100 * x + (10 + 10 * q.toNatClampNeg))) (smO a q B x (10 + 10 * q.toNatClampNeg)) ++ onL (Int32.ofNat (100 + 100 * x + (1 + q.toNatClampNeg))) (smO a q B x (1 + q.toNatClampNeg))) 100 0
def egB (o a q k : Int32) (jump : Bool) (B : Nat → Option Int64) : List NsT := kpB o a q k B ++ fuL o a q k jump 100 ++ (if o = 4 then suB a q B else [])
theorem bgB_eq (least : Int32) : catL (fun j => onL (Int32.ofNat j) (begO (Int32.ofNat j) least)) 18 0 = begL least := rfl
theorem begO_ok {j : Nat} {least : Int32} {r : StT} (hj : j < 18) (h : begO (Int32.ofNat j) least = some r) : okP r := by
  have : j = 0 ∨ j = 1 ∨ j = 2 ∨ j = 3 ∨ j = 4 ∨ j = 5 ∨ j = 6 ∨ j = 7 ∨ j = 8 ∨ j = 9 ∨ j = 10 ∨ j = 11 ∨ j = 12 ∨ j = 13 ∨ j = 14 ∨ j = 15 ∨ j = 16 ∨ j = 17 := by omega
  rcases this with rfl | rfl | rfl | rfl | rfl | rfl | rfl | rfl | rfl | rfl | rfl | rfl | rfl | rfl | rfl | rfl | rfl | rfl
  · have h : some (((2 : Int32), (9 : Int32), _) : StT) = some r := h
    cases h; exact ⟨2, 9, by decide, by decide, by decide, rfl, rfl⟩
  · have h : some (((9 : Int32), (2 : Int32), _) : StT) = some r := h
    cases h; exact ⟨9, 2, by decide, by decide, by decide, rfl, rfl⟩
  · have h : some (((1 : Int32), (0 : Int32), _) : StT) = some r := h
    cases h; exact ⟨1, 0, by decide, by decide, by decide, rfl, rfl⟩
  · have h : some (((0 : Int32), (1 : Int32), _) : StT) = some r := h
    cases h; exact ⟨0, 1, by decide, by decide, by decide, rfl, rfl⟩
  · have h : some (((3 : Int32), (0 : Int32), _) : StT) = some r := h
    cases h; exact ⟨3, 0, by decide, by decide, by decide, rfl, rfl⟩
  · have h : some (((0 : Int32), (3 : Int32), _) : StT) = some r := h
    cases h; exact ⟨0, 3, by decide, by decide, by decide, rfl, rfl⟩
  · have h : some (((4 : Int32), (0 : Int32), _) : StT) = some r := h
    cases h; exact ⟨4, 0, by decide, by decide, by decide, rfl, rfl⟩
  · have h : some (((0 : Int32), (4 : Int32), _) : StT) = some r := h
    cases h; exact ⟨0, 4, by decide, by decide, by decide, rfl, rfl⟩
  · have h : some (((5 : Int32), (0 : Int32), _) : StT) = some r := h
    cases h; exact ⟨5, 0, by decide, by decide, by decide, rfl, rfl⟩
  · have h : some (((0 : Int32), (5 : Int32), _) : StT) = some r := h
    cases h; exact ⟨0, 5, by decide, by decide, by decide, rfl, rfl⟩
  · have h : some (((6 : Int32), (0 : Int32), _) : StT) = some r := h
    cases h; exact ⟨6, 0, by decide, by decide, by decide, rfl, rfl⟩
  · have h : some (((0 : Int32), (6 : Int32), _) : StT) = some r := h
    cases h; exact ⟨0, 6, by decide, by decide, by decide, rfl, rfl⟩
  · have h : some (((7 : Int32), (0 : Int32), _) : StT) = some r := h
    cases h; exact ⟨7, 0, by decide, by decide, by decide, rfl, rfl⟩
  · have h : some (((0 : Int32), (7 : Int32), _) : StT) = some r := h
    cases h; exact ⟨0, 7, by decide, by decide, by decide, rfl, rfl⟩
  · have h : some (((8 : Int32), (0 : Int32), _) : StT) = some r := h
    cases h; exact ⟨8, 0, by decide, by decide, by decide, rfl, rfl⟩
  · have h : some (((0 : Int32), (8 : Int32), _) : StT) = some r := h
    cases h; exact ⟨0, 8, by decide, by decide, by decide, rfl, rfl⟩
  · have h : some (((0 : Int32), (9 : Int32), _) : StT) = some r := h
    cases h; exact ⟨0, 9, by decide, by decide, by decide, rfl, rfl⟩
  · have h : some (((9 : Int32), (0 : Int32), _) : StT) = some r := h
    cases h; exact ⟨9, 0, by decide, by decide, by decide, rfl, rfl⟩
theorem catL_len {g : Nat → List NsT} {w : Nat} (h : ∀ j, (g j).length ≤ w) : ∀ n j, (catL g n j).length ≤ w * n
  | 0, j => Nat.zero_le _
  | n + 1, j => by
    unfold catL
    rw [List.length_append, Nat.mul_succ]
    have := h j
    have := catL_len h n (j + 1)
    omega
section LY
variable {l : Launch} {E : xm_E} {b : Nat} {c p : Bool} {Q : Option Value → xm_M → Prop}
theorem px_no {M : xm_M} {L : List NsT} (hL : lsX b M L) (h : PxL b c p Q M L []) : xm_st b c p M → Q none M := fun hS => h M smX.rf (by rw [apL_nil]; exact hL) hS
/-- a step made, or not, then kept -/
theorem px_on {M M1 : xm_M} {L A : List NsT} (s : smX b M M1) (h : PxL b c p Q M L A) : PxL b c p Q M1 L A := fun M2 s2 l2 hS => h M2 (s.tr s2) l2 hS
theorem px_cons {M M1 : xm_M} {L A R : List NsT} (s : smX b M M1) (h : PxL b c p Q M L (A ++ R)) : PxL b c p Q M1 (apL true L A) R := fun M2 s2 l2 hS => h M2 (s.tr s2) (by rw [apL_app] at l2; exact l2) hS
theorem s6_findBound {a0 a1 k : Nat} {B : Nat → Option Int64} {M : xm_M} (ha0 : xS b a0 = some (.inr 7)) (ha1 : xS b a1 = some (.inl (100, .long))) (hk : k < 100) (hB : boX M a1 B) (hO : boOk B) (hS : xm_st b c p M) (h : PfS b c p Q M a0 (ftB B k)) : xm_C l E y6_findBound rm6_findBound [.ref a0, .ref a1, .int (Int32.ofNat k)] M Q := by
  have ii : vp_in (Int32.ofNat k) 100 := xn_in hk (by decide)
  refine xm_enter (by decide) (Nat.le_of_ble_eq_true rfl) (t6_findBound_0 M a0 a1 _ ha0 ha1 hS ⟨ii, ?_⟩)
  rw [xn_c (by omega), hB k hk, show (10 : Int32) = Int32.ofNat 10 from rfl, i32_mod (by omega) (by decide), i32_div (by omega) (by decide)]
  unfold ftB at h
  cases hb : B k with
  | none =>
    rw [hb] at h
    exact ⟨fun _ hS => h M smS.rf (fun s e => (by cases e)) hS, fun z => absurd rfl z⟩
  | some w =>
    rw [hb] at h
    have hne : ¬ w = N62 := fun z => by
      have := hO.1 k w hk hb
      rw [z] at this
      exact absurd this (by decide)
    exact ⟨fun z => absurd z hne, fun _ => ⟨ii, s7_become ha0 hS (pf_if h)⟩⟩
theorem lp_tb6 {least : Int32} : ∀ (k j : Nat) (L : List NsT) (M : xm_M), j + k = 18 → L.length + k ≤ 200 → lsX b M L → xm_st b c p M → PxL b c p Q M L (catL (fun j => onL (Int32.ofNat j) (begO (Int32.ofNat j) least)) k j) →
    xm_X l E y6_takeBeginning rm6_takeBeginning Q 6 [(0, .ref (b + 110)), (1, .int least), (2, .int (Int32.ofNat j))] [] 0 0 M := by
  intro k
  induction k with
  | zero =>
    intro j L M hj hlen hL hS h
    exact t6_takeBeginning_6 M _ _ hS ⟨fun _ => px_no hL h, fun g => absurd (by rw [show j = 18 by omega]; decide) g⟩
  | succ k ih =>
    intro j L M hj hlen hL hS h
    refine t6_takeBeginning_6 M _ _ hS ⟨fun g => ?_, fun _ => ?_⟩
    · have g := (xn_le (a := 18) (by decide) (by omega)).mp g
      omega
    rw [xn_s]
    have h : PxL b c p Q M L (onL (Int32.ofNat j) (begO (Int32.ofNat j) least) ++ catL (fun j => onL (Int32.ofNat j) (begO (Int32.ofNat j) least)) k (j + 1)) := h
    have hok := fun s => begO_ok (j := j) (least := least) (r := s) (by omega)
    refine s7_becomeBeginning (sh_126 b) hS ?_
    generalize begO (Int32.ofNat j) least = o at h hok
    intro M1 s1 e1 hS
    have sx : smX b M M1 := s1.x (by omega)
    have hL1 := hL.fs s1 (by omega)
    cases o with
    | none => exact ⟨false, rfl, hS, fun _ hS => ih (j + 1) L M1 (by omega) (by omega) hL1 hS (px_on sx h), fun z => absurd rfl z⟩
    | some s =>
      refine ⟨true, rfl, hS, fun z => absurd z (by decide), fun _ => s6_append hL1 (by omega) (e1 s rfl) (hok s rfl) hS (fun M2 s2 l2 hS => ⟨rfl, hS, fun hS => ?_⟩)⟩
      have := apL_len (st := true) (L := L) (A := [(Int32.ofNat j, s)])
      have : (apL true L [(Int32.ofNat j, s)]).length ≤ L.length + 1 := this
      exact ih (j + 1) _ M2 (by omega) (by omega) l2 hS (px_cons (sx.tr s2) h)
theorem s6_takeBeginning {least : Int32} {M : xm_M} (hS : xm_st b c p M) (h : ∀ M1, smX b M M1 → lsX b M1 (apL true [] (begL least)) → xm_st b c p M1 → Q none M1) : xm_C l E y6_takeBeginning rm6_takeBeginning [.ref (b + 110), .int least] M Q :=
  xm_enter (by decide) (Nat.le_of_ble_eq_true rfl) (t6_takeBeginning_0 M _ hS (s6_forget hS (fun M1 s1 l1 hS => ⟨rfl, hS, fun hS => lp_tb6 18 0 [] M1 rfl (by decide) l1 hS (fun M2 s2 l2 hS => h M2 (s1.tr s2) (by rw [bgB_eq] at l2; exact l2) hS)⟩)))
theorem lp_tf6 {a1 : Nat} {B : Nat → Option Int64} (ha1 : xS b a1 = some (.inl (100, .long))) (hout : ¬ (b + 110 ≤ a1 ∧ a1 ≤ b + 128)) (hO : boOk B) : ∀ (k j : Nat) (L : List NsT) (M : xm_M), j + k = 100 → L.length + k ≤ 200 → boX M a1 B → lsX b M L → xm_st b c p M → PxL b c p Q M L (catL (fun k => onL (Int32.ofNat k) (ftB B k)) k j) →
    xm_X l E y6_takeFacts rm6_takeFacts Q 6 [(0, .ref (b + 110)), (1, .ref a1), (2, .int (Int32.ofNat j))] [] 0 0 M := by
  intro k
  induction k with
  | zero =>
    intro j L M hj hlen hB hL hS h
    exact t6_takeFacts_6 M _ _ ha1 hS ⟨fun _ => px_no hL h, fun g => absurd (by rw [show j = 100 by omega]; decide) g⟩
  | succ k ih =>
    intro j L M hj hlen hB hL hS h
    refine t6_takeFacts_6 M _ _ ha1 hS ⟨fun g => ?_, fun _ => ?_⟩
    · have g := (xn_le (a := 100) (by decide) (by omega)).mp g
      omega
    rw [xn_s]
    have h : PxL b c p Q M L (onL (Int32.ofNat j) (ftB B j) ++ catL (fun k => onL (Int32.ofNat k) (ftB B k)) k (j + 1)) := h
    have hok := fun s => ftB_ok (s := s) hO (show j < 100 by omega)
    refine s6_findBound (sh_126 b) ha1 (by omega) hB hO hS ?_
    generalize ftB B j = o at h hok
    intro M1 s1 e1 hS
    have sx : smX b M M1 := s1.x (by omega)
    have hL1 := hL.fs s1 (by omega)
    have hB1 : boX M1 a1 B := fun k hk => by rw [sx.2 _ _ hout]; exact hB k hk
    cases o with
    | none => exact ⟨false, rfl, hS, fun _ hS => ih (j + 1) L M1 (by omega) (by omega) hB1 hL1 hS (px_on sx h), fun z => absurd rfl z⟩
    | some s =>
      refine ⟨true, rfl, hS, fun z => absurd z (by decide), fun _ => s6_append hL1 (by omega) (e1 s rfl) (hok s rfl) hS (fun M2 s2 l2 hS => ⟨rfl, hS, fun hS => ?_⟩)⟩
      have := apL_len (st := true) (L := L) (A := [(Int32.ofNat j, s)])
      have : (apL true L [(Int32.ofNat j, s)]).length ≤ L.length + 1 := this
      exact ih (j + 1) _ M2 (by omega) (by omega) (fun k hk => by rw [s2.2 _ _ hout]; exact hB1 k hk) l2 hS (px_cons (sx.tr s2) h)
theorem s6_takeFacts {a1 : Nat} {B : Nat → Option Int64} {M : xm_M} (ha1 : xS b a1 = some (.inl (100, .long))) (hout : ¬ (b + 110 ≤ a1 ∧ a1 ≤ b + 128)) (hO : boOk B) (hB : boX M a1 B) (hS : xm_st b c p M) (h : ∀ M1, smX b M M1 → lsX b M1 (apL true [] (plB B)) → xm_st b c p M1 → Q none M1) : xm_C l E y6_takeFacts rm6_takeFacts [.ref (b + 110), .ref a1] M Q :=
  xm_enter (by decide) (Nat.le_of_ble_eq_true rfl) (t6_takeFacts_0 M _ ha1 hS (s6_forget hS (fun M1 s1 l1 hS => ⟨rfl, hS, fun hS => lp_tf6 ha1 hout hO 100 0 [] M1 rfl (by decide) (fun k hk => by rw [s1.2 _ _ hout]; exact hB k hk) l1 hS (fun M2 s2 l2 hS => h M2 (s1.tr s2) l2 hS)⟩)))
end LY
