theorem smO_ok {a q : Int32} {B : Nat → Option Int64} {x y : Nat} {r : StT} (hO : boOk B) (hx : x < 100) (h : smO a q B x y = some r) : okP r := by
  unfold smO at h
  cases h1 : ftB B x with
  | none => rw [h1] at h; cases h
  | some s =>
    rw [h1] at h
    have h : (ftB B y).bind (fun t => suO a q s t) = some r := h
    cases h2 : ftB B y with
    | none => rw [h2] at h; cases h
    | some t => rw [h2] at h; exact suO_ok (ftB_ok hO hx h1) h
theorem ftB_at {B : Nat → Option Int64} {k : Nat} {s : StT} (h : ftB B k = some s) : s.1 = Int32.ofNat (k / 10) ∧ s.2.1 = Int32.ofNat (k % 10) := by
  unfold ftB at h
  cases hb : B k with
  | none => rw [hb] at h; cases h
  | some c => rw [hb] at h; cases h; exact ⟨rfl, rfl⟩
/-- which of the two second facts makes no sum -/
theorem smO_1 {a q : Int32} {B : Nat → Option Int64} {x : Nat} (ha : okR a) (hq : okR q) (hx : x < 100) (h : ¬ x / 10 = 1 + a.toNatClampNeg) : smO a q B x (10 + 10 * q.toNatClampNeg) = none := by
  obtain ⟨r, r1, r2⟩ := ha
  obtain ⟨t, t1, t2⟩ := hq
  rw [r2, xn_c (by omega)] at h
  unfold smO
  cases h1 : ftB B x with
  | none => rfl
  | some s =>
    show (ftB B (10 + 10 * q.toNatClampNeg)).bind (fun t => suO a q s t) = none
    cases h2 : ftB B (10 + 10 * q.toNatClampNeg) with
    | none => rfl
    | some z =>
      show suO a q s z = none
      obtain ⟨e1, e2⟩ := ftB_at h1
      obtain ⟨e3, e4⟩ := ftB_at h2
      rw [t2, xn_c (by omega), show (10 + 10 * t) / 10 = 1 + t by omega] at e3
      unfold suO
      by_cases g : 1 + a = 1 + q
      · rw [if_pos g]
      · rw [if_neg g, if_neg (fun w => h (ofN_inj (by omega) (by omega) (by rw [← e1, w.1, r2, one_add]))), if_neg (fun w => by
          have := e3.symm.trans w.2.2.1
          have := ofN_inj (c := 0) (by omega) (by decide) this
          omega)]
theorem smO_2 {a q : Int32} {B : Nat → Option Int64} {x : Nat} (hO : boOk B) (ha : okR a) (hq : okR q) (hx : x < 100) (h : x / 10 = 1 + a.toNatClampNeg) : smO a q B x (1 + q.toNatClampNeg) = none := by
  obtain ⟨r, r1, r2⟩ := ha
  obtain ⟨t, t1, t2⟩ := hq
  rw [r2, xn_c (by omega)] at h
  unfold smO
  cases h1 : ftB B x with
  | none => rfl
  | some s =>
    show (ftB B (1 + q.toNatClampNeg)).bind (fun t => suO a q s t) = none
    cases h2 : ftB B (1 + q.toNatClampNeg) with
    | none => rfl
    | some z =>
      show suO a q s z = none
      obtain ⟨u, v, p1, p2, p3, p4, p5⟩ := ftB_ok hO hx h1
      obtain ⟨e1, e2⟩ := ftB_at h1
      obtain ⟨e3, e4⟩ := ftB_at h2
      rw [t2, xn_c (by omega), show (1 + t) / 10 = 0 by omega] at e3
      have hu : u = 1 + r := (ofN_inj (by omega) (by omega) (p4.symm.trans e1)).trans h
      unfold suO
      by_cases g : 1 + a = 1 + q
      · rw [if_pos g]
      · rw [if_neg g, if_neg (fun w => by
          have := w.2.2.1.symm.trans e3
          rw [t2, one_add] at this
          have := ofN_inj (c := 0) (by omega) (by decide) this
          omega), if_neg (fun w => p3 (by
          have := ofN_inj (c := 1 + r) (by omega) (by omega) (p5.symm.trans (w.1.trans (by rw [r2, one_add])))
          omega))]
section LZ
variable {l : Launch} {E : xm_E} {b : Nat} {c p : Bool} {Q : Option Value → xm_M → Prop}
theorem lp_ts23 {a1 a2 : Nat} {B : Nat → Option Int64} {a q : Int32} (ha1 : xS b a1 = some (.inr 2)) (ho1 : ¬ (b + 110 ≤ a1 ∧ a1 ≤ b + 128)) (ha2 : xS b a2 = some (.inl (100, .long))) (hout : ¬ (b + 110 ≤ a2 ∧ a2 ≤ b + 128)) (hO : boOk B) (hra : okR a) (hrq : okR q) : ∀ (k j : Nat) (L : List NsT) (M : xm_M), j + k = 100 → L.length + k ≤ 200 → boX M a2 B → xm_gi M a1 1 = a → xm_gi M a1 2 = q → lsX b M L → xm_st b c p M → PxL b c p Q M L (catL (fun x => onL (Int32.ofNat (100 + 100 * x + (10 + 10 * q.toNatClampNeg))) (smO a q B x (10 + 10 * q.toNatClampNeg)) ++ onL (Int32.ofNat (100 + 100 * x + (1 + q.toNatClampNeg))) (smO a q B x (1 + q.toNatClampNeg))) k j) →
    xm_X l E y6_takeSums rm6_takeSums Q 23 [(0, .ref (b + 110)), (1, .ref a1), (2, .ref a2), (3, .int (Int32.ofNat (10 + 10 * q.toNatClampNeg))), (4, .int (Int32.ofNat (1 + q.toNatClampNeg))), (5, .int (Int32.ofNat j))] [] 0 0 M := by
  have hq8 : q.toNatClampNeg < 8 := by obtain ⟨t, t1, t2⟩ := hrq; rw [t2, xn_c (by omega)]; exact t1
  have ha8 : a.toNatClampNeg < 8 ∧ a = Int32.ofNat a.toNatClampNeg := by obtain ⟨t, t1, t2⟩ := hra; rw [t2, xn_c (by omega)]; exact ⟨t1, rfl⟩
  intro k
  induction k with
  | zero =>
    intro j L M hj hlen hB e1 e2 hL hS h
    exact t6_takeSums_23 M _ _ _ _ _ ha1 ha2 hS ⟨fun _ => px_no hL h, fun g => absurd (by rw [show j = 100 by omega]; decide) g⟩
  | succ k ih =>
    intro j L M hj hlen hB e1 e2 hL hS h
    have en : ∀ y, (100 : Int32) + (100 : Int32) * Int32.ofNat j + Int32.ofNat y = Int32.ofNat (100 + 100 * j + y) := fun y => by rw [Int32.ofNat_add, Int32.ofNat_add, Int32.ofNat_mul]; rfl
    refine t6_takeSums_23 M _ _ _ _ _ ha1 ha2 hS ⟨fun g => ?_, fun _ => ?_⟩
    · have g := (xn_le (a := 100) (by decide) (by omega)).mp g
      omega
    rw [show (10 : Int32) = Int32.ofNat 10 from rfl, i32_div (by omega) (by decide), e1, en, en, xn_s]
    have h : PxL b c p Q M L ((onL (Int32.ofNat (100 + 100 * j + (10 + 10 * q.toNatClampNeg))) (smO a q B j (10 + 10 * q.toNatClampNeg)) ++ onL (Int32.ofNat (100 + 100 * j + (1 + q.toNatClampNeg))) (smO a q B j (1 + q.toNatClampNeg))) ++ catL (fun x => onL (Int32.ofNat (100 + 100 * x + (10 + 10 * q.toNatClampNeg))) (smO a q B x (10 + 10 * q.toNatClampNeg)) ++ onL (Int32.ofNat (100 + 100 * x + (1 + q.toNatClampNeg))) (smO a q B x (1 + q.toNatClampNeg))) k (j + 1)) := h
    have ja : Int32.ofNat (j / 10) = 1 + a ↔ j / 10 = 1 + a.toNatClampNeg := by
      refine ⟨fun z => ofN_inj (by omega) (by omega) (z.trans ?_), fun z => ?_⟩
      · rw [ha8.2, xn_c (by omega), one_add]
      · rw [z, ← one_add, ← ha8.2]
    -- one second fact y, the other makes none
    have core : ∀ y, y < 100 → (onL (Int32.ofNat (100 + 100 * j + (10 + 10 * q.toNatClampNeg))) (smO a q B j (10 + 10 * q.toNatClampNeg)) ++ onL (Int32.ofNat (100 + 100 * j + (1 + q.toNatClampNeg))) (smO a q B j (1 + q.toNatClampNeg))) = onL (Int32.ofNat (100 + 100 * j + y)) (smO a q B j y) →
        xm_C l E y6_findBound rm6_findBound [.ref (b + 127), .ref a2, .int (Int32.ofNat j)] M (fun r M1 => ∃ r2 : Bool, r = some (.int (xz r2)) ∧ xm_st b c p M1 ∧ (((xz r2) = 0 → (xm_st b c p M1 → xm_X l E y6_takeSums rm6_takeSums Q 23 [(0, .ref (b + 110)), (1, .ref a1), (2, .ref a2), (3, .int (Int32.ofNat (10 + 10 * q.toNatClampNeg))), (4, .int (Int32.ofNat (1 + q.toNatClampNeg))), (5, .int (Int32.ofNat (j + 1)))] [] 0 0 M1)) ∧ (¬ (xz r2) = 0 → xm_C l E y6_findBound rm6_findBound [.ref (b + 128), .ref a2, .int (Int32.ofNat y)] M1 (fun r M3 => ∃ r4 : Bool, r = some (.int (xz r4)) ∧ xm_st b c p M3 ∧ (((xz r4) = 0 → (xm_st b c p M3 → xm_X l E y6_takeSums rm6_takeSums Q 23 [(0, .ref (b + 110)), (1, .ref a1), (2, .ref a2), (3, .int (Int32.ofNat (10 + 10 * q.toNatClampNeg))), (4, .int (Int32.ofNat (1 + q.toNatClampNeg))), (5, .int (Int32.ofNat (j + 1)))] [] 0 0 M3)) ∧ (¬ (xz r4) = 0 → xm_C l E y7_becomeSum rm7_becomeSum [.ref (b + 126), .ref a1, .ref (b + 127), .ref (b + 128)] M3 (fun r M5 => ∃ r6 : Bool, r = some (.int (xz r6)) ∧ xm_st b c p M5 ∧ (((xz r6) = 0 → (xm_st b c p M5 → xm_X l E y6_takeSums rm6_takeSums Q 23 [(0, .ref (b + 110)), (1, .ref a1), (2, .ref a2), (3, .int (Int32.ofNat (10 + 10 * q.toNatClampNeg))), (4, .int (Int32.ofNat (1 + q.toNatClampNeg))), (5, .int (Int32.ofNat (j + 1)))] [] 0 0 M5)) ∧ (¬ (xz r6) = 0 → xm_C l E y6_append rm6_append [.ref (b + 110), .int (Int32.ofNat (100 + 100 * j + y))] M5 (fun r M7 => r = none ∧ xm_st b c p M7 ∧ (xm_st b c p M7 → xm_X l E y6_takeSums rm6_takeSums Q 23 [(0, .ref (b + 110)), (1, .ref a1), (2, .ref a2), (3, .int (Int32.ofNat (10 + 10 * q.toNatClampNeg))), (4, .int (Int32.ofNat (1 + q.toNatClampNeg))), (5, .int (Int32.ofNat (j + 1)))] [] 0 0 M7))))))))))) := by
      intro y hy ey
      rw [ey] at h
      have nx : ∀ M1, smX b M M1 → lsX b M1 L → smO a q B j y = none → xm_st b c p M1 → xm_X l E y6_takeSums rm6_takeSums Q 23 [(0, .ref (b + 110)), (1, .ref a1), (2, .ref a2), (3, .int (Int32.ofNat (10 + 10 * q.toNatClampNeg))), (4, .int (Int32.ofNat (1 + q.toNatClampNeg))), (5, .int (Int32.ofNat (j + 1)))] [] 0 0 M1 := fun M1 s1 l1 en hS => by
        rw [en] at h
        exact ih (j + 1) L M1 (by omega) (by omega) (fun k hk => by rw [s1.2 _ _ hout]; exact hB k hk) (by rw [s1.1 _ _ ho1]; exact e1) (by rw [s1.1 _ _ ho1]; exact e2) l1 hS (px_on s1 h)
      refine s6_findBound (sh_127 b) ha2 (by omega) hB hO hS (fun M1 s1 f1 hS => ⟨_, rfl, hS, fun z hS => ?_, fun z => ?_⟩)
      · have z := xz_0.mp z
        refine nx M1 (s1.x (by omega)) (hL.fs s1 (by omega)) ?_ hS
        unfold smO
        cases ht : ftB B j with
        | none => rfl
        | some t => rw [ht] at z; cases z
      · have z := xz_ne z
        cases ht : ftB B j with
        | none => rw [ht] at z; cases z
        | some t =>
          have f1 := f1 t ht
          have sx1 : smX b M M1 := s1.x (by omega)
          have hL1 := hL.fs s1 (by omega)
          have hB1 : boX M1 a2 B := fun k hk => by rw [sx1.2 _ _ hout]; exact hB k hk
          refine s6_findBound (sh_128 b) ha2 hy hB1 hO hS (fun M2 s2 f2 hS => ⟨_, rfl, hS, fun z hS => ?_, fun z => ?_⟩)
          · have z := xz_0.mp z
            refine nx M2 (sx1.tr (s2.x (by omega))) (hL1.fs s2 (by omega)) ?_ hS
            unfold smO
            rw [ht]
            show (ftB B y).bind (fun z => suO a q t z) = none
            cases hw : ftB B y with
            | none => rfl
            | some w => rw [hw] at z; cases z
          · have z := xz_ne z
            cases hw : ftB B y with
            | none => rw [hw] at z; cases z
            | some w =>
              have f2 := f2 w hw
              have sx2 : smX b M M2 := sx1.tr (s2.x (by omega))
              have hL2 := hL1.fs s2 (by omega)
              have eS : smO a q B j y = suO a q t w := by unfold smO; rw [ht]; show (ftB B y).bind (fun z => suO a q t z) = _; rw [hw]; rfl
              have g7 : stAt M2 (b + 127) = t := by
                rw [← f1]; unfold stAt
                rw [s2.1 _ _ (by omega), s2.1 _ _ (by omega), s2.2 _ _ (by omega)]
              refine s7_becomeSum (sh_126 b) ha1 (sh_127 b) (sh_128 b) hS ?_
              rw [g7, f2, sx2.1 _ _ ho1, sx2.1 _ _ ho1, e1, e2, ← eS]
              have hok := fun s => smO_ok (a := a) (q := q) (y := y) (r := s) hO (show j < 100 by omega)
              have nx2 := fun M1 s1 l1 => nx M1 s1 l1
              generalize smO a q B j y = o at h hok nx2
              intro M3 s3 f3 hS
              have sx3 : smX b M M3 := sx2.tr (s3.x (by omega))
              have hL3 := hL2.fs s3 (by omega)
              cases o with
              | none => exact ⟨false, rfl, hS, fun _ hS => nx2 M3 sx3 hL3 rfl hS, fun z => absurd rfl z⟩
              | some s =>
                refine ⟨true, rfl, hS, fun z => absurd z (by decide), fun _ => s6_append hL3 (by omega) (f3 s rfl) (hok s rfl) hS (fun M4 s4 l4 hS => ⟨rfl, hS, fun hS => ?_⟩)⟩
                have := apL_len (st := true) (L := L) (A := [(Int32.ofNat (100 + 100 * j + y), s)])
                have : (apL true L [(Int32.ofNat (100 + 100 * j + y), s)]).length ≤ L.length + 1 := this
                have sx4 := sx3.tr s4
                exact ih (j + 1) _ M4 (by omega) (by omega) (fun k hk => by rw [sx4.2 _ _ hout]; exact hB k hk) (by rw [sx4.1 _ _ ho1]; exact e1) (by rw [sx4.1 _ _ ho1]; exact e2) l4 hS (px_cons sx4 h)
    refine ⟨fun g => core _ (by omega) ?_, fun g => core _ (by omega) ?_⟩
    · rw [smO_1 hra hrq (by omega) (fun z => g (ja.mpr z))]; rfl
    · rw [smO_2 hO hra hrq (by omega) (ja.mp g)]; exact List.append_nil _
theorem lp_te68 {a1 : Nat} {e o a q k' : Int32} (ha1 : xS b a1 = some (.inr 2)) (ho1 : ¬ (b + 110 ≤ a1 ∧ a1 ≤ b + 128)) (hra : okR a) (hrq : okR q) : ∀ (k j : Nat) (L : List NsT) (M : xm_M), j + k = 2 → L.length + k ≤ 200 → xm_gi M a1 0 = o → xm_gi M a1 1 = a → xm_gi M a1 2 = q → xm_gi M a1 3 = k' → lsX b M L → xm_st b c p M → PxL b c p Q M L (catL (fun j => onL (100 + Int32.ofNat j) (fuO o a q k' (jB o e) (Int32.ofNat j))) k j) →
    xm_X l E y6_takeEdge rm6_takeEdge Q 68 [(0, .ref (b + 110)), (1, .ref a1), (2, .int e), (4, .int (Int32.ofNat j))] [] 0 0 M := by
  intro k
  induction k with
  | zero =>
    intro j L M hj hlen e0 e1 e2 e3 hL hS h
    exact t6_takeEdge_68 M _ _ _ ha1 hS ⟨fun _ => px_no hL h, fun g => absurd (by rw [show j = 2 by omega]; decide) g⟩
  | succ k ih =>
    intro j L M hj hlen e0 e1 e2 e3 hL hS h
    refine t6_takeEdge_68 M _ _ _ ha1 hS ⟨fun g => ?_, fun _ => ?_⟩
    · have g := (xn_le (a := 2) (by decide) (by omega)).mp g
      omega
    rw [xn_s]
    have h : PxL b c p Q M L (onL (100 + Int32.ofNat j) (fuO o a q k' (jB o e) (Int32.ofNat j)) ++ catL (fun j => onL (100 + Int32.ofNat j) (fuO o a q k' (jB o e) (Int32.ofNat j))) k (j + 1)) := h
    refine s2_jumpsBy ha1 hS (fun hS => ⟨_, rfl, hS, ?_⟩)
    refine s7_becomeFurther (sh_126 b) ha1 hS ?_
    rw [e0, e1, e2, e3]
    have hok := fun s => fuO_ok (o := o) (k := k') (n := Int32.ofNat j) (j := jB o e) (r := s) hra hrq
    generalize fuO o a q k' (jB o e) (Int32.ofNat j) = z at h hok
    intro M1 s1 f1 hS
    have sx : smX b M M1 := s1.x (by omega)
    have hL1 := hL.fs s1 (by omega)
    have fr : ∀ M1, smX b M M1 → xm_gi M1 a1 0 = o ∧ xm_gi M1 a1 1 = a ∧ xm_gi M1 a1 2 = q ∧ xm_gi M1 a1 3 = k' := fun M1 s => by
      rw [s.1 _ _ ho1, s.1 _ _ ho1, s.1 _ _ ho1, s.1 _ _ ho1]; exact ⟨e0, e1, e2, e3⟩
    cases z with
    | none =>
      obtain ⟨w0, w1, w2, w3⟩ := fr M1 sx
      exact ⟨false, rfl, hS, fun _ hS => ih (j + 1) L M1 (by omega) (by omega) w0 w1 w2 w3 hL1 hS (px_on sx h), fun z => absurd rfl z⟩
    | some s =>
      refine ⟨true, rfl, hS, fun z => absurd z (by decide), fun _ => s6_append hL1 (by omega) (f1 s rfl) (hok s rfl) hS (fun M2 s2 l2 hS => ⟨rfl, hS, fun hS => ?_⟩)⟩
      have := apL_len (st := true) (L := L) (A := [(100 + Int32.ofNat j, s)])
      have : (apL true L [(100 + Int32.ofNat j, s)]).length ≤ L.length + 1 := this
      obtain ⟨w0, w1, w2, w3⟩ := fr M2 (sx.tr s2)
      exact ih (j + 1) _ M2 (by omega) (by omega) w0 w1 w2 w3 l2 hS (px_cons (sx.tr s2) h)
theorem lp_te7 {a1 a3 : Nat} {B : Nat → Option Int64} {e o a q k' : Int32} (ha1 : xS b a1 = some (.inr 2)) (ho1 : ¬ (b + 110 ≤ a1 ∧ a1 ≤ b + 128)) (ha3 : xS b a3 = some (.inl (100, .long))) (hout : ¬ (b + 110 ≤ a3 ∧ a3 ≤ b + 128)) (hO : boOk B) (hra : okR a) (hrq : okR q) : ∀ (k j : Nat) (L : List NsT) (M : xm_M), j + k = 100 → L.length + k ≤ 100 → boX M a3 B → xm_gi M a1 0 = o → xm_gi M a1 1 = a → xm_gi M a1 2 = q → xm_gi M a1 3 = k' → lsX b M L → xm_st b c p M → PxL b c p Q M L (catL (fun j => onL (Int32.ofNat j) ((ftB B j).bind (caO o a q k'))) k j ++ fuL o a q k' (jB o e) 100 ++ (if o = 4 then suB a q B else [])) →
    xm_X l E y6_takeEdge rm6_takeEdge Q 7 [(0, .ref (b + 110)), (1, .ref a1), (2, .int e), (3, .ref a3), (4, .int (Int32.ofNat j))] [] 0 0 M := by
  intro k
  induction k with
  | zero =>
    intro j L M hj hlen hB e0 e1 e2 e3 hL hS h
    refine t6_takeEdge_7 M _ _ _ _ ha1 ha3 hS ⟨fun _ => ?_, fun g => absurd (by rw [show j = 100 by omega]; decide) g⟩
    rw [e0]
    refine ⟨fun g hS => ?_, fun g => ?_⟩
    · rw [if_neg g] at h
      have h : PxL b c p Q M L (fuL o a q k' (jB o e) 100 ++ []) := h
      rw [List.append_nil] at h
      exact lp_te68 ha1 ho1 hra hrq 2 0 L M rfl (by omega) e0 e1 e2 e3 hL hS (by
        have : catL (fun j => onL (100 + Int32.ofNat j) (fuO o a q k' (jB o e) (Int32.ofNat j))) 2 0 = fuL o a q k' (jB o e) 100 := by
          show onL (100 + 0) (fuO o a q k' (jB o e) 0) ++ (onL (100 + 1) (fuO o a q k' (jB o e) 1) ++ []) = _
          rw [List.append_nil]; rfl
        rw [this]; exact h)
    · subst g
      have h : PxL b c p Q M L (fuL 4 a q k' (jB 4 e) 100 ++ (if (4 : Int32) = 4 then suB a q B else [])) := h
      rw [if_pos rfl, show fuL 4 a q k' (jB 4 e) 100 = [] by unfold fuL; rw [fuO_4, fuO_4]; rfl] at h
      refine xm_enter (by decide) (Nat.le_of_ble_eq_true rfl) (t6_takeSums_0 M _ _ ha1 ha3 hS (fun hS => ?_))
      obtain ⟨t, t1, t2⟩ := hrq
      have hrq : okR q := ⟨t, t1, t2⟩
      have ct : q.toNatClampNeg = t := by rw [t2, xn_c (by omega)]
      have ea : (10 : Int32) * (1 + xm_gi M a1 2) + 0 = Int32.ofNat (10 + 10 * q.toNatClampNeg) := by
        rw [e2, ct, t2, one_add, Int32.add_zero, show (10 : Int32) = Int32.ofNat 10 from rfl, ← Int32.ofNat_mul]
        exact congrArg Int32.ofNat (by omega)
      have eb : (1 : Int32) + xm_gi M a1 2 = Int32.ofNat (1 + q.toNatClampNeg) := by rw [e2, ct, t2, one_add]
      rw [ea, eb]
      exact lp_ts23 ha1 ho1 ha3 hout hO hra hrq 100 0 L M rfl (by omega) hB e1 e2 hL hS (fun M1 s1 l1 hS => ⟨rfl, hS, fun hS => h M1 s1 l1 hS⟩)
  | succ k ih =>
    intro j L M hj hlen hB e0 e1 e2 e3 hL hS h
    refine t6_takeEdge_7 M _ _ _ _ ha1 ha3 hS ⟨fun g => ?_, fun _ => ?_⟩
    · have g := (xn_le (a := 100) (by decide) (by omega)).mp g
      omega
    rw [xn_s]
    have h : PxL b c p Q M L (onL (Int32.ofNat j) ((ftB B j).bind (caO o a q k')) ++ catL (fun j => onL (Int32.ofNat j) ((ftB B j).bind (caO o a q k'))) k (j + 1) ++ fuL o a q k' (jB o e) 100 ++ (if o = 4 then suB a q B else [])) := h
    rw [List.append_assoc, List.append_assoc, ← List.append_assoc (catL _ k (j + 1))] at h
    have fr : ∀ M1, smX b M M1 → boX M1 a3 B ∧ xm_gi M1 a1 0 = o ∧ xm_gi M1 a1 1 = a ∧ xm_gi M1 a1 2 = q ∧ xm_gi M1 a1 3 = k' := fun M1 s => by
      rw [s.1 _ _ ho1, s.1 _ _ ho1, s.1 _ _ ho1, s.1 _ _ ho1]; exact ⟨fun k hk => by rw [s.2 _ _ hout]; exact hB k hk, e0, e1, e2, e3⟩
    have nx : ∀ M1, smX b M M1 → lsX b M1 L → (ftB B j).bind (caO o a q k') = none → xm_st b c p M1 → xm_X l E y6_takeEdge rm6_takeEdge Q 7 [(0, .ref (b + 110)), (1, .ref a1), (2, .int e), (3, .ref a3), (4, .int (Int32.ofNat (j + 1)))] [] 0 0 M1 := fun M1 s1 l1 en hS => by
      rw [en] at h
      obtain ⟨wb, w0, w1, w2, w3⟩ := fr M1 s1
      exact ih (j + 1) L M1 (by omega) (by omega) wb w0 w1 w2 w3 l1 hS (px_on s1 h)
    refine s6_findBound (sh_126 b) ha3 (by omega) hB hO hS (fun M1 s1 f1 hS => ⟨_, rfl, hS, fun z hS => ?_, fun z => ?_⟩)
    · have z := xz_0.mp z
      refine nx M1 (s1.x (by omega)) (hL.fs s1 (by omega)) ?_ hS
      cases ht : ftB B j with
      | none => rfl
      | some t => rw [ht] at z; cases z
    · have z := xz_ne z
      cases ht : ftB B j with
      | none => rw [ht] at z; cases z
      | some t =>
        have f1 := f1 t ht
        have sx1 : smX b M M1 := s1.x (by omega)
        have hL1 := hL.fs s1 (by omega)
        obtain ⟨wb, w0, w1, w2, w3⟩ := fr M1 sx1
        refine s7_carryOver (sh_126 b) ha1 hS ?_
        rw [f1, w0, w1, w2, w3]
        rw [ht] at h nx
        have hok := fun s => caO_ok (o := o) (q := q) (k := k') (r := s) hra (ftB_ok hO (show j < 100 by omega) ht)
        have h : PxL b c p Q M L (onL (Int32.ofNat j) (caO o a q k' t) ++ (catL (fun j => onL (Int32.ofNat j) ((ftB B j).bind (caO o a q k'))) k (j + 1) ++ fuL o a q k' (jB o e) 100 ++ (if o = 4 then suB a q B else []))) := h
        have nx : ∀ M1, smX b M M1 → lsX b M1 L → caO o a q k' t = none → xm_st b c p M1 → xm_X l E y6_takeEdge rm6_takeEdge Q 7 [(0, .ref (b + 110)), (1, .ref a1), (2, .int e), (3, .ref a3), (4, .int (Int32.ofNat (j + 1)))] [] 0 0 M1 := nx
        generalize caO o a q k' t = z at h hok nx
        intro M2 s2 f2 hS
        have sx2 : smX b M M2 := sx1.tr (s2.x (by omega))
        have hL2 := hL1.fs s2 (by omega)
        cases z with
        | none => exact ⟨false, rfl, hS, fun _ hS => nx M2 sx2 hL2 rfl hS, fun z => absurd rfl z⟩
        | some s =>
          refine ⟨true, rfl, hS, fun z => absurd z (by decide), fun _ => s6_append hL2 (by omega) (f2 s rfl) (hok s rfl) hS (fun M3 s3 l3 hS => ⟨rfl, hS, fun hS => ?_⟩)⟩
          have := apL_len (st := true) (L := L) (A := [(Int32.ofNat j, s)])
          have : (apL true L [(Int32.ofNat j, s)]).length ≤ L.length + 1 := this
          obtain ⟨wb, w0, w1, w2, w3⟩ := fr M3 (sx2.tr s3)
          exact ih (j + 1) _ M3 (by omega) (by omega) wb w0 w1 w2 w3 l3 hS (px_cons (sx2.tr s3) h)
theorem s6_takeEdge {a1 a3 : Nat} {B : Nat → Option Int64} {e : Int32} {M : xm_M} (ha1 : xS b a1 = some (.inr 2)) (ho1 : ¬ (b + 110 ≤ a1 ∧ a1 ≤ b + 128)) (ha3 : xS b a3 = some (.inl (100, .long))) (hout : ¬ (b + 110 ≤ a3 ∧ a3 ≤ b + 128)) (hO : boOk B) (hB : boX M a3 B) (hra : okR (xm_gi M a1 1)) (hrq : okR (xm_gi M a1 2)) (hS : xm_st b c p M) (h : ∀ M1, smX b M M1 → lsX b M1 (apL true [] (egB (xm_gi M a1 0) (xm_gi M a1 1) (xm_gi M a1 2) (xm_gi M a1 3) (jB (xm_gi M a1 0) e) B)) → xm_st b c p M1 → Q none M1) : xm_C l E y6_takeEdge rm6_takeEdge [.ref (b + 110), .ref a1, .int e, .ref a3] M Q :=
  xm_enter (by decide) (Nat.le_of_ble_eq_true rfl) (t6_takeEdge_0 M _ _ _ ha1 ha3 hS (s6_forget hS (fun M1 s1 l1 hS => ⟨rfl, hS, fun hS => lp_te7 ha1 ho1 ha3 hout hO hra hrq 100 0 [] M1 rfl (by decide) (fun k hk => by rw [s1.2 _ _ hout]; exact hB k hk) (s1.1 _ _ ho1) (s1.1 _ _ ho1) (s1.1 _ _ ho1) (s1.1 _ _ ho1) l1 hS (fun M2 s2 l2 hS => h M2 (s1.tr s2) l2 hS)⟩)))
end LZ
