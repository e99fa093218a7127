/-! the lists are in order; the reference's list of an edge -/
theorem catL_mem {g : Nat → List NsT} {s : NsT} : ∀ n j, s ∈ catL g n j → ∃ i, j ≤ i ∧ i < j + n ∧ s ∈ g i
  | 0, j, h => absurd h List.not_mem_nil
  | n + 1, j, h => by
    have h : s ∈ g j ++ catL g n (j + 1) := h
    rcases List.mem_append.mp h with h | h
    · exact ⟨j, Nat.le_refl j, by omega, h⟩
    · obtain ⟨i, h1, h2, h3⟩ := catL_mem n (j + 1) h
      exact ⟨i, by omega, by omega, h3⟩
theorem onL_mem {n : Int32} {o : Option StT} {s : NsT} (h : s ∈ onL n o) : s.1 = n ∧ o = some s.2 := by
  cases o with
  | none => exact absurd h List.not_mem_nil
  | some t =>
    have h : s ∈ [(n, t)] := h
    rw [List.mem_singleton] at h
    rw [h]
    exact ⟨rfl, rfl⟩
def sqL (L : List NsT) : Prop := L.Pairwise (fun s t => s.1 ≤ t.1)
theorem sq_1 {L : List NsT} (h : L.length ≤ 1) : sqL L := by
  cases L with
  | nil => exact List.Pairwise.nil
  | cons s L =>
    cases L with
    | nil => exact List.pairwise_singleton _ _
    | cons t L => exact absurd h (by show ¬ L.length + 1 + 1 ≤ 1; omega)
theorem catL_sq {g : Nat → List NsT} {f : Nat → Nat} {T : Nat} (hf : ∀ i j, i ≤ j → f i ≤ f j) (hT : f T < 2 ^ 31) (h1 : ∀ i, i < T → (g i).length ≤ 1) (h2 : ∀ i s, i < T → s ∈ g i → ∃ m, s.1 = Int32.ofNat m ∧ f i ≤ m ∧ m < f (i + 1)) : ∀ n j, j + n ≤ T → sqL (catL g n j)
  | 0, _, _ => List.Pairwise.nil
  | n + 1, j, hj => by
    show List.Pairwise _ (g j ++ catL g n (j + 1))
    refine List.pairwise_append.mpr ⟨sq_1 (h1 j (by omega)), catL_sq hf hT h1 h2 n (j + 1) (by omega), fun s hs t ht => ?_⟩
    obtain ⟨i, i1, i2, i3⟩ := catL_mem n (j + 1) ht
    obtain ⟨m, m1, m2, m3⟩ := h2 j s (by omega) hs
    obtain ⟨m', n1, n2, n3⟩ := h2 i t (by omega) i3
    have a1 := hf (j + 1) i i1
    have a2 := hf (i + 1) T (by omega)
    rw [m1, n1]
    exact (xn_le (by omega) (by omega)).mpr (by omega)
theorem sq_sr {L : List NsT} (h : sqL L) : srL L := fun i j s t hij hs ht => by
  obtain ⟨h1, h2⟩ := List.getElem?_eq_some_iff.mp hs
  obtain ⟨h3, h4⟩ := List.getElem?_eq_some_iff.mp ht
  have := List.pairwise_iff_getElem.mp h i j h1 h3 hij
  rw [h2, h4] at this
  exact this
def goodL (L : List NsT) : Prop := okL L ∧ L.length ≤ 200 ∧ srL L
theorem good_ap {A : List NsT} (h1 : ∀ s, s ∈ A → okP s.2) (h2 : A.length ≤ 200) (h3 : sqL A) : goodL (apL true [] A) := by
  have e : apL true [] A = A.filter (fun s => !true || isB s.2.2.2) := List.nil_append _
  rw [e]
  refine ⟨fun s hs => ?_, Nat.le_trans (List.length_filter_le _ _) h2, sq_sr (List.Pairwise.filter _ h3)⟩
  rw [List.mem_filter] at hs
  exact ⟨h1 s hs.1, hs.2⟩
theorem good_pl {B : Nat → Option Int64} (hB : boOk B) : goodL (apL true [] (plB B)) := by
  refine good_ap (fun s hs => ?_) ?_ (catL_sq (f := fun i => i) (T := 100) (fun _ _ h => h) (by decide) (fun i _ => onL_len) (fun i s hi hs => ⟨i, (onL_mem hs).1, Nat.le_refl i, Nat.lt_succ_self i⟩) 100 0 (by decide))
  · obtain ⟨i, _, h2, h3⟩ := catL_mem 100 0 hs
    exact ftB_ok hB (by omega) (onL_mem h3).2
  · have := catL_len (g := fun k => onL (Int32.ofNat k) (ftB B k)) (w := 1) (fun j => onL_len) 100 0
    show (catL _ 100 0).length ≤ 200
    omega
theorem good_bg {least : Int32} : goodL (apL true [] (begL least)) := by
  rw [← bgB_eq]
  refine good_ap (fun s hs => ?_) ?_ (catL_sq (f := fun i => i) (T := 18) (fun _ _ h => h) (by decide) (fun i _ => onL_len) (fun i s hi hs => ⟨i, (onL_mem hs).1, Nat.le_refl i, Nat.lt_succ_self i⟩) 18 0 (by decide))
  · obtain ⟨i, _, h2, h3⟩ := catL_mem 18 0 hs
    exact begO_ok (by omega) (onL_mem h3).2
  · have := catL_len (g := fun j => onL (Int32.ofNat j) (begO (Int32.ofNat j) least)) (w := 1) (fun j => onL_len) 18 0
    omega
/-- one sum at most for each first fact -/
def suG (a q : Int32) (B : Nat → Option Int64) (x : Nat) : List NsT := onL (Int32.ofNat (100 + 100 * x + (10 + 10 * q.toNatClampNeg))) (smO a q B x (10 + 10 * q.toNatClampNeg)) ++ onL (Int32.ofNat (100 + 100 * x + (1 + q.toNatClampNeg))) (smO a q B x (1 + q.toNatClampNeg))
theorem suG_len {a q : Int32} {B : Nat → Option Int64} {x : Nat} (hB : boOk B) (ha : okR a) (hq : okR q) (hx : x < 100) : (suG a q B x).length ≤ 1 := by
  unfold suG
  by_cases g : x / 10 = 1 + a.toNatClampNeg
  · rw [smO_2 hB ha hq hx g]
    rw [List.length_append]
    exact onL_len (n := Int32.ofNat (100 + 100 * x + (10 + 10 * q.toNatClampNeg))) (o := smO a q B x (10 + 10 * q.toNatClampNeg))
  · rw [smO_1 ha hq hx g]
    rw [List.length_append]
    have := onL_len (n := Int32.ofNat (100 + 100 * x + (1 + q.toNatClampNeg))) (o := smO a q B x (1 + q.toNatClampNeg))
    show 0 + _ ≤ 1
    omega
theorem catL_le {g : Nat → List NsT} {w T : Nat} (h : ∀ j, j < T → (g j).length ≤ w) : ∀ n j, j + n ≤ T → (catL g n j).length ≤ w * n
  | 0, j, _ => Nat.zero_le _
  | n + 1, j, hj => by
    unfold catL
    rw [List.length_append, Nat.mul_succ]
    have := h j (by omega)
    have := catL_le h n (j + 1) (by omega)
    omega
theorem fuL_4 {a q k n : Int32} {j : Bool} : fuL 4 a q k j n = [] := rfl
theorem good_eg {o a q k : Int32} {j : Bool} {B : Nat → Option Int64} (hB : boOk B) (ha : okR a) (hq : okR q) : goodL (apL true [] (egB o a q k j B)) := by
  have hq8 : q.toNatClampNeg < 8 := by obtain ⟨t, t1, t2⟩ := hq; rw [t2, xn_c (by omega)]; exact t1
  have k1 : ∀ s, s ∈ kpB o a q k B → okP s.2 ∧ ∃ i, i < 100 ∧ s.1 = Int32.ofNat i := fun s hs => by
    obtain ⟨i, _, h2, h3⟩ := catL_mem 100 0 hs
    refine ⟨?_, i, by omega, (onL_mem h3).1⟩
    have h4 := (onL_mem h3).2
    cases hf : ftB B i with
    | none => rw [hf] at h4; cases h4
    | some t =>
      rw [hf] at h4
      exact caO_ok ha (ftB_ok hB (by omega) hf) h4
  have k2 : (kpB o a q k B).length ≤ 1 * 100 := catL_len (g := fun j => onL (Int32.ofNat j) ((ftB B j).bind (caO o a q k))) (w := 1) (fun j => onL_len) 100 0
  have k3 : sqL (kpB o a q k B) := catL_sq (f := fun i => i) (T := 100) (fun _ _ h => h) (by decide) (fun i _ => onL_len) (fun i s hi hs => ⟨i, (onL_mem hs).1, Nat.le_refl i, Nat.lt_succ_self i⟩) 100 0 (by decide)
  by_cases g : o = 4
  · have e : egB o a q k j B = kpB o a q k B ++ suB a q B := by
      unfold egB
      rw [g, fuL_4, if_pos rfl, List.append_nil]
    have s1 : ∀ s, s ∈ suB a q B → okP s.2 ∧ ∃ i, 100 ≤ i ∧ i < 2 ^ 31 ∧ s.1 = Int32.ofNat i := fun s hs => by
      obtain ⟨i, _, h2, h3⟩ := catL_mem 100 0 hs
      rcases List.mem_append.mp h3 with h3 | h3
      · exact ⟨smO_ok hB (by omega) (onL_mem h3).2, _, by omega, by omega, (onL_mem h3).1⟩
      · exact ⟨smO_ok hB (by omega) (onL_mem h3).2, _, by omega, by omega, (onL_mem h3).1⟩
    have s2 : (suB a q B).length ≤ 1 * 100 := catL_le (g := suG a q B) (T := 100) (fun x hx => suG_len hB ha hq hx) 100 0 (by decide)
    have s3 : sqL (suB a q B) := catL_sq (g := suG a q B) (f := fun i => 100 + 100 * i) (T := 100) (fun i j h => by omega) (by decide) (fun x hx => suG_len hB ha hq hx) (fun i s hi hs => by
      rcases List.mem_append.mp hs with h3 | h3
      · exact ⟨_, (onL_mem h3).1, by omega, by omega⟩
      · exact ⟨_, (onL_mem h3).1, by omega, by omega⟩) 100 0 (by decide)
    rw [e]
    refine good_ap (fun s hs => (List.mem_append.mp hs).elim (fun h => (k1 s h).1) (fun h => (s1 s h).1)) (by rw [List.length_append]; omega) (List.pairwise_append.mpr ⟨k3, s3, fun s hs t ht => ?_⟩)
    obtain ⟨_, i, i1, i2⟩ := k1 s hs
    obtain ⟨_, i', j1, j2, j3⟩ := s1 t ht
    rw [i2, j3]
    exact (xn_le (by omega) j2).mpr (by omega)
  · have e : egB o a q k j B = kpB o a q k B ++ fuL o a q k j 100 := by
      unfold egB
      rw [if_neg g, List.append_nil]
    have f1 : ∀ s, s ∈ fuL o a q k j 100 → okP s.2 ∧ ∃ i, 100 ≤ i ∧ i < 2 ^ 31 ∧ s.1 = Int32.ofNat i := fun s hs => by
      rcases List.mem_append.mp hs with h3 | h3
      · exact ⟨fuO_ok ha hq (onL_mem h3).2, 100, by decide, by decide, (onL_mem h3).1⟩
      · exact ⟨fuO_ok ha hq (onL_mem h3).2, 101, by decide, by decide, (onL_mem h3).1⟩
    have f2 := fuL_len (o := o) (a := a) (q := q) (k := k) (n := 100) (jump := j)
    have f3 : sqL (fuL o a q k j 100) := List.pairwise_append.mpr ⟨sq_1 onL_len, sq_1 onL_len, fun s hs t ht => by rw [(onL_mem hs).1, (onL_mem ht).1]; decide⟩
    rw [e]
    refine good_ap (fun s hs => (List.mem_append.mp hs).elim (fun h => (k1 s h).1) (fun h => (f1 s h).1)) (by rw [List.length_append]; omega) (List.pairwise_append.mpr ⟨k3, f3, fun s hs t ht => ?_⟩)
    obtain ⟨_, i, i1, i2⟩ := k1 s hs
    obtain ⟨_, i', j1, j2, j3⟩ := f1 t ht
    rw [i2, j3]
    exact (xn_le (by omega) j2).mpr (by omega)
/-- the reference's bounds -/
def nM : Option Int64 → Int64
  | none => 1125899906842624
  | some c => c
def boM (b : Nat) (M : xm_M) (i : Nat) (B : Nat → Option Int64) : Prop := ∀ k, k < 100 → xm_gl M (b + 166) (100 * i + k) = nM (B k)
theorem nM_n {B : Nat → Option Int64} {k : Nat} (hB : boOk B) (hk : k < 100) : (1125899906842624 : Int64) ≤ nM (B k) ↔ B k = none := by
  rw [Int64.le_iff_toInt_le, c50I]
  cases h : B k with
  | none => exact ⟨fun _ => rfl, fun _ => by show _ ≤ (1125899906842624 : Int64).toInt; rw [c50I]; exact Int.le_refl _⟩
  | some c =>
    have := isB_iff.mp (hB.1 k c hk h)
    exact ⟨fun z => by have z : (1125899906842624 : Int) ≤ c.toInt := z; omega, fun z => by cases z⟩
theorem ixH (i k : Nat) : (100 : Int32) * Int32.ofNat i + Int32.ofNat k = Int32.ofNat (100 * i + k) := by rw [Int32.ofNat_add, Int32.ofNat_mul]; rfl
theorem boM.g {b i : Nat} {M N : xm_M} {B : Nat → Option Int64} (h : boM b M i B) (s : smG b M N) : boM b N i B := fun k hk => by rw [s.2 _ _ (by omega)]; exact h k hk
section SO
variable {l : Launch} {E : xm_E} {b : Nat} {c p : Bool} {Q : Option Value → xm_M → Prop}
theorem s11_sumOf {i x y : Nat} {B : Nat → Option Int64} {a q : Int32} {L : List NsT} {M : xm_M} (hi : i < 48) (hx : x < 100) (hy : y < 100) (hB : boM b M i B) (hO : boOk B) (e1 : xm_gi M (b + 156) i = a) (e2 : xm_gi M (b + 157) i = q) (hL : lsM b M L) (hlen : L.length < 1200) (hs : xm_gi M (b + 154) 19 = xz true) (hS : xm_st b c p M) (h : PlL b c p Q M true L (onL (Int32.ofNat (100 + 100 * x + y)) (smO a q B x y))) : xm_C l E y11_sumOf rm11_sumOf [.ref (b + 154), .int (Int32.ofNat i), .int (Int32.ofNat x), .int (Int32.ofNat y)] M Q := by
  have en : (100 : Int32) + (100 : Int32) * Int32.ofNat x + Int32.ofNat y = Int32.ofNat (100 + 100 * x + y) := by rw [Int32.ofNat_add, Int32.ofNat_add, Int32.ofNat_mul]; rfl
  refine xm_enter (by decide) (Nat.le_of_ble_eq_true rfl) (t11_sumOf_0 M _ _ _ hS ?_)
  rw [ixH, ixH, en, xn_c (by omega), xn_c (by omega), hB x hx, hB y hy, show (10 : Int32) = Int32.ofNat 10 from rfl, i32_mod (by omega) (by decide), i32_mod (by omega) (by decide), i32_div (by omega) (by decide), i32_div (by omega) (by decide), nM_n hO hx, nM_n hO hy]
  refine ⟨xn_in (by omega) (by decide), xn_in (by omega) (by decide), fun g => ?_, fun g => ⟨fun g2 => ?_, fun g2 => ?_⟩⟩
  · have e : smO a q B x y = none := by unfold smO ftB; rw [g]; rfl
    rw [e] at h
    exact pl_no hL h
  · have e : smO a q B x y = none := by
      unfold smO ftB; rw [g2]
      cases B x with
      | none => rfl
      | some w => rfl
    rw [e] at h
    exact pl_no hL h
  · cases h1 : B x with
    | none => exact absurd h1 g
    | some w =>
      cases h2 : B y with
      | none => exact absurd h2 g2
      | some z =>
        have e : smO a q B x y = suO a q (Int32.ofNat (x / 10), Int32.ofNat (x % 10), w) (Int32.ofNat (y / 10), Int32.ofNat (y % 10), z) := by unfold smO ftB; rw [h1, h2]; rfl
        have e' := suO_eq (a := a) (q := q) (x := (Int32.ofNat (x / 10), Int32.ofNat (x % 10), w)) (y := (Int32.ofNat (y / 10), Int32.ofNat (y % 10), z))
        rw [e] at h
        refine s11_isSum (y := w) (z := z) hi hS (fun hS => ⟨_, rfl, hS, ?_⟩)
        rw [e1, e2]
        refine ⟨fun g3 => ?_, fun g3 => ?_⟩
        · rw [e', xz_0.mp g3] at h
          exact pl_no hL h
        · rw [e', xz_ne g3] at h
          exact s11_step hL hlen hs hS (pl_on h)
theorem lp_so88 {i : Nat} {B : Nat → Option Int64} {a q : Int32} (hi : i < 48) (hO : boOk B) (hq : okR q) : ∀ (k j : Nat) (L : List NsT) (M : xm_M), j + k = 100 → L.length + 2 * k ≤ 1200 → boM b M i B → xm_gi M (b + 156) i = a → xm_gi M (b + 157) i = q → lsM b M L → xm_gi M (b + 154) 19 = xz true → xm_st b c p M → PlL b c p Q M true L (catL (suG a q B) k j) →
    xm_X l E y11_stepsOf rm11_stepsOf Q 88 [(0, .ref (b + 154)), (1, .int (Int32.ofNat i)), (3, .int (Int32.ofNat j))] [] 0 0 M := by
  have hq8 : q.toNatClampNeg < 8 ∧ q = Int32.ofNat q.toNatClampNeg := by obtain ⟨t, t1, t2⟩ := hq; rw [t2, xn_c (by omega)]; exact ⟨t1, rfl⟩
  intro k
  induction k with
  | zero =>
    intro j L M hj hlen hB e1 e2 hL hs hS h
    exact t11_stepsOf_88 M _ _ hS ⟨fun _ => pl_no hL h, fun g => absurd (by rw [show j = 100 by omega]; decide) g⟩
  | succ k ih =>
    intro j L M hj hlen hB e1 e2 hL hs hS h
    have h : PlL b c p Q M true L (onL (Int32.ofNat (100 + 100 * j + (10 + 10 * q.toNatClampNeg))) (smO a q B j (10 + 10 * q.toNatClampNeg)) ++ onL (Int32.ofNat (100 + 100 * j + (1 + q.toNatClampNeg))) (smO a q B j (1 + q.toNatClampNeg)) ++ catL (suG a q B) k (j + 1)) := h
    rw [List.append_assoc] at h
    refine t11_stepsOf_88 M _ _ hS ⟨fun g => ?_, fun _ => ⟨xn_in hi (by decide), ?_⟩⟩
    · have g := (xn_le (a := 100) (by decide) (by omega)).mp g
      omega
    have f1 : (10 : Int32) + (10 : Int32) * q = Int32.ofNat (10 + 10 * q.toNatClampNeg) := by rw [Int32.ofNat_add, Int32.ofNat_mul, ← hq8.2]; rfl
    have f2 : (1 : Int32) + q = Int32.ofNat (1 + q.toNatClampNeg) := by rw [Int32.ofNat_add, ← hq8.2]; rfl
    rw [xn_c (show i < 2 ^ 31 by omega), e2, f1, xn_s]
    refine s11_sumOf hi (by omega) (by omega) hB hO e1 e2 hL (by omega) hs hS (fun M1 s1 l1 hS => ⟨rfl, hS, xn_in hi (by decide), ?_⟩)
    have hn1 := apL_len (st := true) (L := L) (A := onL (Int32.ofNat (100 + 100 * j + (10 + 10 * q.toNatClampNeg))) (smO a q B j (10 + 10 * q.toNatClampNeg)))
    have ho1 := onL_len (n := Int32.ofNat (100 + 100 * j + (10 + 10 * q.toNatClampNeg))) (o := smO a q B j (10 + 10 * q.toNatClampNeg))
    have e21 : xm_gi M1 (b + 157) i = q := by rw [s1.1 _ _ (by omega)]; exact e2
    have e11 : xm_gi M1 (b + 156) i = a := by rw [s1.1 _ _ (by omega)]; exact e1
    have hs1 : xm_gi M1 (b + 154) 19 = xz true := by rw [s1.1 _ _ (by omega)]; exact hs
    rw [e21, f2]
    refine s11_sumOf hi (by omega) (by omega) (hB.g s1.g) hO e11 e21 l1 (by omega) hs1 hS (fun M2 s2 l2 hS => ⟨rfl, hS, fun hS => ?_⟩)
    have hn2 := apL_len (st := true) (L := apL true L (onL (Int32.ofNat (100 + 100 * j + (10 + 10 * q.toNatClampNeg))) (smO a q B j (10 + 10 * q.toNatClampNeg)))) (A := onL (Int32.ofNat (100 + 100 * j + (1 + q.toNatClampNeg))) (smO a q B j (1 + q.toNatClampNeg)))
    have ho2 := onL_len (n := Int32.ofNat (100 + 100 * j + (1 + q.toNatClampNeg))) (o := smO a q B j (1 + q.toNatClampNeg))
    exact ih (j + 1) _ M2 (by omega) (by omega) ((hB.g s1.g).g s2.g) (by rw [s2.1 _ _ (by omega)]; exact e11) (by rw [s2.1 _ _ (by omega)]; exact e21) l2 (by rw [s2.1 _ _ (by omega)]; exact hs1) hS (fun M3 s3 l3 hS => h M3 (s1.tr (s2.tr s3)) (by rw [apL_app, apL_app] at l3; exact l3) hS)
theorem lp_so12 {i : Nat} {B : Nat → Option Int64} {o a q w : Int32} {jm : Bool} (hi : i < 48) (hO : boOk B) (hq : okR q) : ∀ (k j : Nat) (L : List NsT) (M : xm_M), j + k = 100 → L.length + k ≤ 100 → boM b M i B → xm_gi M (b + 155) i = o → xm_gi M (b + 156) i = a → xm_gi M (b + 157) i = q → xm_gi M (b + 158) i = w → lsM b M L → xm_gi M (b + 154) 19 = xz true → xm_st b c p M → PlL b c p Q M true L (catL (fun j => onL (Int32.ofNat j) ((ftB B j).bind (caO o a q w))) k j ++ (fuL o a q w jm 100 ++ (if o = 4 then suB a q B else []))) →
    xm_X l E y11_stepsOf rm11_stepsOf Q 12 [(0, .ref (b + 154)), (1, .int (Int32.ofNat i)), (2, .int (xz jm)), (3, .int (Int32.ofNat j))] [] 0 0 M := by
  intro k
  induction k with
  | zero =>
    intro j L M hj hlen hB e0 e1 e2 e3 hL hs hS h
    have h : PlL b c p Q M true L (fuL o a q w jm 100 ++ (if o = 4 then suB a q B else [])) := h
    refine t11_stepsOf_12 M _ _ _ hS ⟨fun _ => s11_further hi hL (by omega) hs hS ?_, fun g => absurd (by rw [show j = 100 by omega]; decide) g⟩
    rw [e0, e1, e2, e3]
    intro M1 s1 l1 hS
    have hn1 := apL_len (st := true) (L := L) (A := fuL o a q w jm 100)
    have f2 := fuL_len (o := o) (a := a) (q := q) (k := w) (n := 100) (jump := jm)
    refine ⟨rfl, hS, xn_in hi (by decide), ?_⟩
    rw [xn_c (show i < 2 ^ 31 by omega), s1.1 _ _ (by omega), e0]
    refine ⟨fun g hS => ?_, fun g hS => ?_⟩
    · rw [if_pos g] at h
      exact lp_so88 (a := a) (q := q) hi hO hq 100 0 _ M1 rfl (by omega) (hB.g s1.g) (by rw [s1.1 _ _ (by omega)]; exact e1) (by rw [s1.1 _ _ (by omega)]; exact e2) l1 (by rw [s1.1 _ _ (by omega)]; exact hs) hS (fun M2 s2 l2 hS => h M2 (s1.tr s2) (by rw [apL_app] at l2; exact l2) hS)
    · rw [if_neg g, List.append_nil] at h
      exact h M1 s1 l1 hS
  | succ k ih =>
    intro j L M hj hlen hB e0 e1 e2 e3 hL hs hS h
    have h : PlL b c p Q M true L (onL (Int32.ofNat j) ((ftB B j).bind (caO o a q w)) ++ catL (fun j => onL (Int32.ofNat j) ((ftB B j).bind (caO o a q w))) k (j + 1) ++ (fuL o a q w jm 100 ++ (if o = 4 then suB a q B else []))) := h
    rw [List.append_assoc] at h
    refine t11_stepsOf_12 M _ _ _ hS ⟨fun g => ?_, fun _ => ?_⟩
    · have g := (xn_le (a := 100) (by decide) (by omega)).mp g
      omega
    rw [ixH, xn_c (by omega), hB j (by omega), show (10 : Int32) = Int32.ofNat 10 from rfl, i32_mod (by omega) (by decide), i32_div (by omega) (by decide), nM_n hO (by omega), xn_s]
    have ii : vp_in (Int32.ofNat (100 * i + j)) 4800 := xn_in (by omega) (by decide)
    refine ⟨ii, fun g hS => ?_, fun g => ⟨ii, ?_⟩⟩
    · have en : (ftB B j).bind (caO o a q w) = none := by unfold ftB; rw [g]; rfl
      rw [en] at h
      exact ih (j + 1) L M (by omega) (by omega) hB e0 e1 e2 e3 hL hs hS h
    · cases hb : B j with
      | none => exact absurd hb g
      | some w' =>
        have en : (ftB B j).bind (caO o a q w) = caO o a q w (Int32.ofNat (j / 10), Int32.ofNat (j % 10), w') := by unfold ftB; rw [hb]; rfl
        rw [en] at h
        refine s11_keep hi hL (by omega) hs hS ?_
        rw [e0, e1, e2, e3, show nM (some w') = w' from rfl]
        intro M1 s1 l1 hS
        have hn1 := apL_len (st := true) (L := L) (A := onL (Int32.ofNat j) (caO o a q w (Int32.ofNat (j / 10), Int32.ofNat (j % 10), w')))
        have ho1 := onL_len (n := Int32.ofNat j) (o := caO o a q w (Int32.ofNat (j / 10), Int32.ofNat (j % 10), w'))
        exact ⟨rfl, hS, fun hS => ih (j + 1) _ M1 (by omega) (by omega) (hB.g s1.g) (by rw [s1.1 _ _ (by omega)]; exact e0) (by rw [s1.1 _ _ (by omega)]; exact e1) (by rw [s1.1 _ _ (by omega)]; exact e2) (by rw [s1.1 _ _ (by omega)]; exact e3) l1 (by rw [s1.1 _ _ (by omega)]; exact hs) hS (fun M2 s2 l2 hS => h M2 (s1.tr s2) (by rw [apL_app] at l2; exact l2) hS)⟩
theorem s11_stepsOf {i : Nat} {B : Nat → Option Int64} {o a q w : Int32} {jm : Bool} {M : xm_M} (hi : i < 48) (hO : boOk B) (hq : okR q) (hB : boM b M i B) (e0 : xm_gi M (b + 155) i = o) (e1 : xm_gi M (b + 156) i = a) (e2 : xm_gi M (b + 157) i = q) (e3 : xm_gi M (b + 158) i = w) (hS : xm_st b c p M) (h : ∀ M1, smG b M M1 → lsM b M1 (apL true [] (egB o a q w jm B)) → xm_st b c p M1 → Q none M1) : xm_C l E y11_stepsOf rm11_stepsOf [.ref (b + 154), .int (Int32.ofNat i), .int (xz jm)] M Q := by
  have s0 := smG_0 (b := b) (M := M) (v := 1) (w := 0)
  have l0 := lsM_0 (b := b) (M := M) (v := 1)
  have g0 := g19_0 (b := b) (M := M) (v := 1)
  refine xm_enter (by decide) (Nat.le_of_ble_eq_true rfl) (t11_stepsOf_0 M _ _ hS (fun hS => ?_))
  generalize xm_pi (xm_pi M (b + 154) 19 1) (b + 154) 14 0 = N at s0 l0 g0 hS
  exact lp_so12 (o := o) (a := a) (q := q) (w := w) hi hO hq 100 0 [] N rfl (by decide) (hB.g s0) (by rw [s0.1 _ _ (by omega)]; exact e0) (by rw [s0.1 _ _ (by omega)]; exact e1) (by rw [s0.1 _ _ (by omega)]; exact e2) (by rw [s0.1 _ _ (by omega)]; exact e3) l0 g0 hS (fun M1 s1 l1 hS => h M1 (s0.tr s1.g) (by rw [← List.append_assoc] at l1; exact l1) hS)
end SO
