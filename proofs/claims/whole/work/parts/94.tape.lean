/-! the reference's steps of a beginning, of facts, of an edge -/
theorem apL_false {L A : List NsT} : apL false L A = L ++ A := congrArg (L ++ ·) (List.filter_eq_self.mpr (fun _ _ => rfl))
def bgF (least : Int32) : Nat → Nat → Nat → List NsT
  | 0, _, n => [(Int32.ofNat n, 0, 9, -(Int32.toInt64 least)), (Int32.ofNat n + 1, 9, 0, 1024)]
  | k + 1, r, n => if r = 1 then bgF least k (r + 1) n else [(Int32.ofNat n, 1 + Int32.ofNat r, 0, 0), (Int32.ofNat n + 1, 0, 1 + Int32.ofNat r, 0)] ++ bgF least k (r + 1) (n + 2)
def begL (least : Int32) : List NsT := [((0 : Int32), (2 : Int32), (9 : Int32), (0 : Int64)), ((1 : Int32), (9 : Int32), (2 : Int32), (0 : Int64))] ++ bgF least 8 0 2
def kpL (o a q k : Int32) (T : Nat → Int32) (f : Nat) : Nat → Nat → List NsT
  | 0, _ => []
  | n + 1, j => onL (Int32.ofNat j) (caO o a q k (ftT T f j)) ++ kpL o a q k T f n (j + 1)
def suR (a q : Int32) (T : Nat → Int32) (f m x : Nat) : Nat → Nat → List NsT
  | 0, _ => []
  | n + 1, y => onL (Int32.ofNat (m + m * x + y)) (suO a q (ftT T f x) (ftT T f y)) ++ suR a q T f m x n (y + 1)
def suL (a q : Int32) (T : Nat → Int32) (f m : Nat) : Nat → Nat → List NsT
  | 0, _ => []
  | n + 1, x => suR a q T f m x m 0 ++ suL a q T f m n (x + 1)
def tsL (o a q k : Int32) (jump : Bool) (T : Nat → Int32) (f m : Nat) : List NsT := kpL o a q k T f m 0 ++ fuL o a q k jump (Int32.ofNat m) ++ (if o = 4 then suL a q T f m m 0 else [])
def plL (T : Nat → Int32) (f : Nat) : Nat → Nat → List NsT
  | 0, _ => []
  | n + 1, j => (Int32.ofNat j, ftT T f j) :: plL T f n (j + 1)
theorem kpL_len {o a q k : Int32} {T : Nat → Int32} {f : Nat} : ∀ n j, (kpL o a q k T f n j).length ≤ n
  | 0, j => Nat.le_refl 0
  | n + 1, j => by
    unfold kpL
    rw [List.length_append]
    have h1 := onL_len (n := Int32.ofNat j) (o := caO o a q k (ftT T f j))
    have h2 := kpL_len (o := o) (a := a) (q := q) (k := k) (T := T) (f := f) n (j + 1)
    omega
theorem suR_len {a q : Int32} {T : Nat → Int32} {f m x : Nat} : ∀ n y, (suR a q T f m x n y).length ≤ n
  | 0, y => Nat.le_refl 0
  | n + 1, y => by
    unfold suR
    rw [List.length_append]
    have h1 := onL_len (n := Int32.ofNat (m + m * x + y)) (o := suO a q (ftT T f x) (ftT T f y))
    have h2 := suR_len (a := a) (q := q) (T := T) (f := f) (m := m) (x := x) n (y + 1)
    omega
theorem plL_len {T : Nat → Int32} {f : Nat} : ∀ n j, (plL T f n j).length = n
  | 0, j => rfl
  | n + 1, j => congrArg (· + 1) (plL_len n (j + 1))
def smG (b : Nat) (M N : xm_M) : Prop := (∀ x k, ¬ ((x = b + 154 ∧ (k = 14 ∨ k = 19)) ∨ (b + 162 ≤ x ∧ x ≤ b + 164)) → xm_gi N x k = xm_gi M x k) ∧ ∀ x k, ¬ x = b + 165 → xm_gl N x k = xm_gl M x k
theorem smL.g {b : Nat} {M N : xm_M} (h : smL b M N) : smG b M N := ⟨fun x k q => h.1 x k (by omega), h.2⟩
theorem smG.tr {b : Nat} {M N P : xm_M} (h : smG b M N) (g : smG b N P) : smG b M P := ⟨fun x k q => (g.1 x k q).trans (h.1 x k q), fun x k q => (g.2 x k q).trans (h.2 x k q)⟩
theorem smG_0 {b : Nat} {M : xm_M} {v w : Int32} : smG b M (xm_pi (xm_pi M (b + 154) 19 v) (b + 154) 14 w) := ⟨fun x k q => by rw [gi_pi, if_neg (by omega), gi_pi, if_neg (by omega)], fun x k q => rfl⟩
theorem lsM_0 {b : Nat} {M : xm_M} {v : Int32} : lsM b (xm_pi (xm_pi M (b + 154) 19 v) (b + 154) 14 0) [] := ⟨by rw [gi_pi, if_pos ⟨rfl, rfl⟩]; rfl, fun j s h => by cases h⟩
theorem g19_0 {b : Nat} {M : xm_M} {v : Int32} : xm_gi (xm_pi (xm_pi M (b + 154) 19 v) (b + 154) 14 0) (b + 154) 19 = v := by rw [gi_pi, if_neg (by omega), gi_pi, if_pos ⟨rfl, rfl⟩]
def tpM (b : Nat) (M : xm_M) (T : Nat → Int32) (sz : Nat) : Prop := sz ≤ 20000 ∧ xm_gi M (b + 154) 8 = Int32.ofNat sz ∧ ∀ j, j < sz → xm_gi M (b + 160) j = T j
def flM (b : Nat) (M : xm_M) (F : Flt) : Prop := ∀ i, i < 48 → xm_gi M (b + 155) i = F.1 i ∧ xm_gi M (b + 156) i = F.2.1 i ∧ xm_gi M (b + 157) i = F.2.2.1 i ∧ xm_gi M (b + 158) i = F.2.2.2.1 i ∧ xm_gi M (b + 159) i = F.2.2.2.2 i
section TP
variable {l : Launch} {E : xm_E} {b : Nat} {c p : Bool} {Q : Option Value → xm_M → Prop} {T : Nat → Int32} {sz : Nat}
theorem lp_bg24 {least : Int32} : ∀ (k r n : Nat) (L : List NsT) (M : xm_M), r + k = 8 → n + 2 * k ≤ 18 → L.length + 2 * k + 2 ≤ 1200 → xm_gi M (b + 154) 0 = least → lsM b M L → xm_gi M (b + 154) 19 = xz false → xm_st b c p M → PlL b c p Q M false L (bgF least k r n) →
    xm_X l E y11_beginning rm11_beginning Q 24 [(0, .ref (b + 154)), (1, .int (Int32.ofNat n)), (2, .int (Int32.ofNat r))] [] 0 0 M := by
  intro k
  induction k with
  | zero =>
    intro r n L M hr hn hlen h0 hL hs hS h
    refine t11_beginning_24 M _ _ hS ⟨fun _ => ?_, fun g => absurd (by rw [show r = 8 by omega]; decide) g⟩
    rw [h0]
    refine s11_step hL (by omega) hs hS (fun M1 s1 l1 hS => ⟨rfl, hS, ?_⟩)
    have hl1 := apL_len (st := false) (L := L) (A := [(Int32.ofNat n, (0 : Int32), (9 : Int32), -(Int32.toInt64 least))])
    have hl1 : (apL false L [(Int32.ofNat n, (0 : Int32), (9 : Int32), -(Int32.toInt64 least))]).length ≤ L.length + 1 := hl1
    refine s11_step l1 (by omega) (by rw [s1.1 _ _ (by omega)]; exact hs) hS (pl_on (fun M2 s2 l2 hS => h M2 (s1.tr s2) ?_ hS))
    rw [apL_app] at l2; exact l2
  | succ k ih =>
    intro r n L M hr hn hlen h0 hL hs hS h
    refine t11_beginning_24 M _ _ hS ⟨fun g => ?_, fun _ => ?_⟩
    · have g := (xn_le (a := 8) (by decide) (by omega)).mp g
      omega
    · have r1 : Int32.ofNat r = 1 ↔ r = 1 := by
        refine ⟨fun q => ?_, fun q => by rw [q]; rfl⟩
        have := congrArg Int32.toInt q
        rw [toInt_of rfl (by omega), show (1 : Int32).toInt = 1 by decide] at this
        omega
      rw [xn_s]
      refine ⟨fun g => ?_, fun g hS => ?_⟩
      · have g : ¬ r = 1 := fun q => g (r1.mpr q)
        rw [show bgF least (k + 1) r n = [(Int32.ofNat n, 1 + Int32.ofNat r, 0, 0), (Int32.ofNat n + 1, 0, 1 + Int32.ofNat r, 0)] ++ bgF least k (r + 1) (n + 2) from if_neg g] at h
        refine s11_both hL (by omega) hs hS (fun M1 s1 l1 hS => ⟨rfl, hS, fun hS => ?_⟩)
        have hl1 := apL_len (st := false) (L := L) (A := [(Int32.ofNat n, 1 + Int32.ofNat r, (0 : Int32), (0 : Int64)), (Int32.ofNat n + 1, (0 : Int32), 1 + Int32.ofNat r, (0 : Int64))])
        have hl1 : (apL false L [(Int32.ofNat n, 1 + Int32.ofNat r, (0 : Int32), (0 : Int64)), (Int32.ofNat n + 1, (0 : Int32), 1 + Int32.ofNat r, (0 : Int64))]).length ≤ L.length + 2 := hl1
        rw [show Int32.ofNat n + Int32.ofInt 2 = Int32.ofNat (n + 2) from ix2 n]
        refine ih (r + 1) (n + 2) _ M1 (by omega) (by omega) (by omega) (by rw [s1.1 _ _ (by omega)]; exact h0) l1 (by rw [s1.1 _ _ (by omega)]; exact hs) hS (fun M2 s2 l2 hS => h M2 (s1.tr s2) ?_ hS)
        rw [apL_app] at l2; exact l2
      · have g := r1.mp g
        rw [show bgF least (k + 1) r n = bgF least k (r + 1) n from if_pos g] at h
        exact ih (r + 1) n L M (by omega) (by omega) (by omega) h0 hL hs hS h
theorem s11_beginning {M : xm_M} (hS : xm_st b c p M) (h : ∀ M1, smG b M M1 → lsM b M1 (begL (xm_gi M (b + 154) 0)) → xm_gi M1 (b + 154) 19 = 0 → xm_st b c p M1 → Q none M1) : xm_C l E y11_beginning rm11_beginning [.ref (b + 154)] M Q := by
  refine xm_enter (by decide) (Nat.le_of_ble_eq_true rfl) (t11_beginning_0 M hS ?_)
  have s0 := smG_0 (b := b) (M := M) (v := 0) (w := 0)
  have l0 := lsM_0 (b := b) (M := M) (v := 0)
  have f0 := g19_0 (b := b) (M := M) (v := 0)
  have e0 : xm_gi (xm_pi (xm_pi M (b + 154) 19 0) (b + 154) 14 0) (b + 154) 0 = xm_gi M (b + 154) 0 := s0.1 _ _ (by omega)
  have hS1 : xm_st b c p (xm_pi (xm_pi M (b + 154) 19 0) (b + 154) 14 0) := hS.pi.pi
  generalize xm_pi (xm_pi M (b + 154) 19 0) (b + 154) 14 0 = M0 at s0 l0 f0 e0 hS1 ⊢
  refine s11_both (st := false) l0 (by decide) f0 hS1 (fun M1 s1 l1 hS => ⟨rfl, hS, fun hS => ?_⟩)
  refine lp_bg24 (least := xm_gi M (b + 154) 0) 8 0 2 _ M1 rfl (by decide) (by rw [apL_false]; decide) (by rw [s1.1 _ _ (by omega)]; exact e0) l1 (by rw [s1.1 _ _ (by omega)]; exact f0) hS (fun M2 s2 l2 hS => h M2 (s0.tr (s1.tr s2).g) ?_ (by rw [(s1.tr s2).1 _ _ (by omega)]; exact f0) hS)
  rw [apL_false, apL_false] at l2; exact l2
theorem tpM.fl {M N : xm_M} (h : tpM b M T sz) (s : smL b M N) : tpM b N T sz := ⟨h.1, by rw [s.1 _ _ (by omega)]; exact h.2.1, fun j hj => by rw [s.1 _ _ (by omega)]; exact h.2.2 j hj⟩
theorem tpM.fg {M N : xm_M} (h : tpM b M T sz) (s : smG b M N) : tpM b N T sz := ⟨h.1, by rw [s.1 _ _ (by omega)]; exact h.2.1, fun j hj => by rw [s.1 _ _ (by omega)]; exact h.2.2 j hj⟩
theorem flM.fl {M N : xm_M} {F : Flt} (h : flM b M F) (s : smL b M N) : flM b N F := fun i hi => by
  rw [s.1 _ _ (by omega), s.1 _ _ (by omega), s.1 _ _ (by omega), s.1 _ _ (by omega), s.1 _ _ (by omega)]; exact h i hi
theorem flM.fg {M N : xm_M} {F : Flt} (h : flM b M F) (s : smG b M N) : flM b N F := fun i hi => by
  rw [s.1 _ _ (by omega), s.1 _ _ (by omega), s.1 _ _ (by omega), s.1 _ _ (by omega), s.1 _ _ (by omega)]; exact h i hi
theorem lp_pl12 {i m f : Nat} (hi : i < 48) (hm : m ≤ 24) (hf : f + 3 * m ≤ sz) : ∀ (k j : Nat) (L : List NsT) (M : xm_M), j + k = m → L.length + k ≤ 1200 → tpM b M T sz → xm_gi M (b + 175) i = Int32.ofNat m → xm_gi M (b + 174) i = Int32.ofNat f → lsM b M L → xm_gi M (b + 154) 19 = xz false → xm_st b c p M → PlL b c p Q M false L (plL T f k j) →
    xm_X l E y11_plainSteps rm11_plainSteps Q 12 [(0, .ref (b + 154)), (1, .int (Int32.ofNat i)), (2, .int (Int32.ofNat j))] [] 0 0 M := by
  have ii : vp_in (Int32.ofNat i) 48 := xn_in hi (by decide)
  intro k
  induction k with
  | zero =>
    intro j L M hj hlen hT e1 e2 hL hs hS h
    refine t11_plainSteps_12 M _ _ hS ⟨ii, fun _ => pl_no hL h, fun g => ?_⟩
    rw [xn_c (by omega), e1] at g
    exact absurd ((xn_le (by omega) (by omega)).mpr (by omega)) g
  | succ k ih =>
    intro j L M hj hlen hT e1 e2 hL hs hS h
    obtain ⟨t1, t2, t3⟩ := hT
    refine t11_plainSteps_12 M _ _ hS ⟨ii, fun g => ?_, fun _ => ⟨ii, ?_⟩⟩
    · rw [xn_c (by omega), e1] at g
      exact absurd ((xn_le (by omega) (by omega)).mp g) (by omega)
    · rw [xn_c (by omega), e2, ix3, ix1, ix2, xn_c (by omega), xn_c (by omega), xn_c (by omega), t3 _ (by omega), t3 _ (by omega), t3 _ (by omega)]
      refine ⟨xn_in (by omega) (by decide), xn_in (by omega) (by decide), xn_in (by omega) (by decide), s11_step hL (by omega) hs hS (fun M1 s1 l1 hS => ⟨rfl, hS, fun hS => ?_⟩)⟩
      rw [xn_s]
      have hl1 := apL_len (st := false) (L := L) (A := [(Int32.ofNat j, ftT T f j)])
      have hl1 : (apL false L [(Int32.ofNat j, ftT T f j)]).length ≤ L.length + 1 := hl1
      refine ih (j + 1) _ M1 (by omega) (by show (apL false L [(Int32.ofNat j, ftT T f j)]).length + k ≤ 1200; omega) (tpM.fl ⟨t1, t2, t3⟩ s1) (by rw [s1.1 _ _ (by omega)]; exact e1) (by rw [s1.1 _ _ (by omega)]; exact e2) l1 (by rw [s1.1 _ _ (by omega)]; exact hs) hS (fun M2 s2 l2 hS => h M2 (s1.tr s2) ?_ hS)
      rw [apL_app] at l2; exact l2
theorem s11_plainSteps {i m f : Nat} {M : xm_M} (hi : i < 48) (hm : m ≤ 24) (hf : f + 3 * m ≤ sz) (hT : tpM b M T sz) (e1 : xm_gi M (b + 175) i = Int32.ofNat m) (e2 : xm_gi M (b + 174) i = Int32.ofNat f) (hS : xm_st b c p M) (h : ∀ M1, smG b M M1 → lsM b M1 (plL T f m 0) → xm_st b c p M1 → Q none M1) : xm_C l E y11_plainSteps rm11_plainSteps [.ref (b + 154), .int (Int32.ofNat i)] M Q := by
  refine xm_enter (by decide) (Nat.le_of_ble_eq_true rfl) (t11_plainSteps_0 M _ hS (fun hS => ?_))
  have s0 := smG_0 (b := b) (M := M) (v := 0) (w := 0)
  have l0 := lsM_0 (b := b) (M := M) (v := 0)
  have f0 := g19_0 (b := b) (M := M) (v := 0)
  generalize xm_pi (xm_pi M (b + 154) 19 0) (b + 154) 14 0 = M0 at s0 l0 f0 hS ⊢
  refine lp_pl12 hi hm hf m 0 [] M0 (by omega) (by show 0 + m ≤ 1200; omega) (hT.fg s0) (by rw [s0.1 _ _ (by omega)]; exact e1) (by rw [s0.1 _ _ (by omega)]; exact e2) l0 f0 hS (fun M1 s1 l1 hS => h M1 (s0.tr s1.g) ?_ hS)
  rw [apL_false] at l1; exact l1
theorem lp_ts108 {i m f x : Nat} {F : Flt} (hi : i < 48) (hm : m ≤ 24) (hx : x < m) (hf : f + 3 * m ≤ sz) : ∀ (k y : Nat) (L : List NsT) (M : xm_M), y + k = m → L.length + k ≤ 1200 → tpM b M T sz → flM b M F → xm_gi M (b + 174) i = Int32.ofNat f → lsM b M L → xm_gi M (b + 154) 19 = xz false → xm_st b c p M →
    (∀ M1, smL b M M1 → lsM b M1 (L ++ suR (F.2.1 i) (F.2.2.1 i) T f m x k y) → xm_st b c p M1 → xm_X l E y11_tapeSteps rm11_tapeSteps Q 99 [(0, .ref (b + 154)), (1, .int (Int32.ofNat i)), (3, .int (Int32.ofNat m)), (4, .int (Int32.ofNat (x + 1)))] [] 0 0 M1) →
    xm_X l E y11_tapeSteps rm11_tapeSteps Q 108 [(0, .ref (b + 154)), (1, .int (Int32.ofNat i)), (3, .int (Int32.ofNat m)), (4, .int (Int32.ofNat x)), (5, .int (Int32.ofNat y))] [] 0 0 M := by
  have ii : vp_in (Int32.ofNat i) 48 := xn_in hi (by decide)
  intro k
  induction k with
  | zero =>
    intro y L M hy hlen hT hF e2 hL hs hS h
    refine t11_tapeSteps_108 M _ _ _ _ hS ⟨fun _ hS => ?_, fun g => ?_⟩
    · rw [xn_s]; exact h M smL.rf (by show lsM b M (L ++ []); rw [List.append_nil]; exact hL) hS
    · exact absurd ((xn_le (by omega) (by omega)).mpr (by omega)) g
  | succ k ih =>
    intro y L M hy hlen hT hF e2 hL hs hS h
    have hT0 := hT
    obtain ⟨t1, t2, t3⟩ := hT
    obtain ⟨k0, k1, k2, k3, k4⟩ := hF i hi
    refine t11_tapeSteps_108 M _ _ _ _ hS ⟨fun g => ?_, fun _ => ⟨ii, ii, ?_⟩⟩
    · exact absurd ((xn_le (by omega) (by omega)).mp g) (by omega)
    have en : Int32.ofNat m + Int32.ofNat m * Int32.ofNat x + Int32.ofNat y = Int32.ofNat (m + m * x + y) := by rw [Int32.ofNat_add, Int32.ofNat_add, Int32.ofNat_mul]
    rw [xn_c (a := i) (by omega), e2, ix3, ix3, ix1, ix1, ix2, ix2, en, xn_s, xn_c (by omega), xn_c (by omega), xn_c (by omega), xn_c (by omega), xn_c (by omega), xn_c (by omega), t3 _ (by omega), t3 _ (by omega), t3 _ (by omega), t3 _ (by omega)]
    have v0 : ∀ z, z < sz → vp_in (Int32.ofNat z) 20000 := fun z hz => xn_in (by omega) (by decide)
    refine ⟨v0 _ (by omega), v0 _ (by omega), v0 _ (by omega), v0 _ (by omega), s11_isSum (y := (ftT T f x).2.2) (z := (ftT T f y).2.2) hi hS (fun hS => ⟨_, rfl, hS, fun g hS => ?_, fun g => ⟨v0 _ (by omega), v0 _ (by omega), v0 _ (by omega), v0 _ (by omega), ?_⟩⟩)⟩
    · rw [k1, k2] at g
      have g := xz_0.mp g
      have e : suO (F.2.1 i) (F.2.2.1 i) (ftT T f x) (ftT T f y) = none := Option.not_isSome_iff_eq_none.mp (by show ¬ (suO _ _ (ftT T f x) (ftT T f y)).isSome = true; rw [show (suO (F.2.1 i) (F.2.2.1 i) (ftT T f x) (ftT T f y)).isSome = false from g]; decide)
      refine ih (y + 1) L M (by omega) (by omega) hT0 hF e2 hL hs hS (fun M1 s1 l1 hS => h M1 s1 ?_ hS)
      show lsM b M1 (L ++ (onL _ (suO _ _ (ftT T f x) (ftT T f y)) ++ _))
      rw [e]; exact l1
    · rw [k1, k2] at g
      have g : (suO (F.2.1 i) (F.2.2.1 i) (ftT T f x) (ftT T f y)).isSome = true := xz_ne g
      have e := suO_eq (a := F.2.1 i) (q := F.2.2.1 i) (x := ftT T f x) (y := ftT T f y)
      rw [g, if_pos rfl] at e
      have tx : xm_gi M (b + 160) (f + 3 * x + 2) = T (f + 3 * x + 2) := t3 _ (by omega)
      have ty : xm_gi M (b + 160) (f + 3 * y + 2) = T (f + 3 * y + 2) := t3 _ (by omega)
      rw [tx, ty, t3 (f + 3 * x) (by omega), t3 (f + 3 * x + 1) (by omega)]
      refine s11_step (st := false) hL (by omega) hs hS (fun M1 s1 l1 hS => ⟨rfl, hS, fun hS => ?_⟩)
      have hl1 := apL_len (st := false) (L := L) (A := [(Int32.ofNat (m + m * x + y), (ftT T f x).1, (ftT T f x).2.1, (ftT T f x).2.2 + (ftT T f y).2.2)])
      have hl1 : (apL false L [(Int32.ofNat (m + m * x + y), (ftT T f x).1, (ftT T f x).2.1, (ftT T f x).2.2 + (ftT T f y).2.2)]).length ≤ L.length + 1 := hl1
      refine ih (y + 1) _ M1 (by omega) (Nat.le_trans (Nat.add_le_add_right hl1 k) (by omega)) (hT0.fl s1) (hF.fl s1) (by rw [s1.1 _ _ (by omega)]; exact e2) l1 (by rw [s1.1 _ _ (by omega)]; exact hs) hS (fun M2 s2 l2 hS => h M2 (s1.tr s2) ?_ hS)
      show lsM b M2 (L ++ (onL _ (suO _ _ (ftT T f x) (ftT T f y)) ++ _))
      rw [e]
      rw [apL_false, List.append_assoc] at l2
      exact l2
theorem lp_ts99 {i m f : Nat} {F : Flt} (hi : i < 48) (hm : m ≤ 24) (hf : f + 3 * m ≤ sz) : ∀ (k x : Nat) (L : List NsT) (M : xm_M), x + k = m → L.length + m * k ≤ 1200 → tpM b M T sz → flM b M F → xm_gi M (b + 174) i = Int32.ofNat f → lsM b M L → xm_gi M (b + 154) 19 = xz false → xm_st b c p M → PlL b c p Q M false L (suL (F.2.1 i) (F.2.2.1 i) T f m k x) →
    xm_X l E y11_tapeSteps rm11_tapeSteps Q 99 [(0, .ref (b + 154)), (1, .int (Int32.ofNat i)), (3, .int (Int32.ofNat m)), (4, .int (Int32.ofNat x))] [] 0 0 M := by
  intro k
  induction k with
  | zero =>
    intro x L M hx hlen hT hF e2 hL hs hS h
    exact t11_tapeSteps_99 M _ _ _ hS ⟨fun _ => pl_no hL h, fun g => absurd ((xn_le (by omega) (by omega)).mpr (by omega)) g⟩
  | succ k ih =>
    intro x L M hx hlen hT hF e2 hL hs hS h
    have hmk : m * (k + 1) = m * k + m := Nat.mul_succ m k
    refine t11_tapeSteps_99 M _ _ _ hS ⟨fun g => absurd ((xn_le (by omega) (by omega)).mp g) (by omega), fun _ hS => ?_⟩
    refine lp_ts108 hi hm (by omega) hf m 0 L M (by omega) (by omega) hT hF e2 hL hs hS (fun M1 s1 l1 hS => ?_)
    have hlr := suR_len (a := F.2.1 i) (q := F.2.2.1 i) (T := T) (f := f) (m := m) (x := x) m 0
    refine ih (x + 1) _ M1 (by omega) (by rw [List.length_append]; omega) (hT.fl s1) (hF.fl s1) (by rw [s1.1 _ _ (by omega)]; exact e2) l1 (by rw [s1.1 _ _ (by omega)]; exact hs) hS (fun M2 s2 l2 hS => h M2 (s1.tr s2) ?_ hS)
    rw [apL_false, List.append_assoc] at l2
    rw [apL_false]; exact l2
theorem lp_ts20 {i m f : Nat} {F : Flt} {j : Bool} (hi : i < 48) (hm : m ≤ 24) (hf : f + 3 * m ≤ sz) : ∀ (k y : Nat) (L : List NsT) (M : xm_M), y + k = m → L.length + k ≤ 24 → tpM b M T sz → flM b M F → xm_gi M (b + 174) i = Int32.ofNat f → lsM b M L → xm_gi M (b + 154) 19 = xz false → xm_st b c p M → PlL b c p Q M false L (kpL (F.1 i) (F.2.1 i) (F.2.2.1 i) (F.2.2.2.1 i) T f k y ++ fuL (F.1 i) (F.2.1 i) (F.2.2.1 i) (F.2.2.2.1 i) j (Int32.ofNat m) ++ (if F.1 i = 4 then suL (F.2.1 i) (F.2.2.1 i) T f m m 0 else [])) →
    xm_X l E y11_tapeSteps rm11_tapeSteps Q 20 [(0, .ref (b + 154)), (1, .int (Int32.ofNat i)), (2, .int (xz j)), (3, .int (Int32.ofNat m)), (4, .int (Int32.ofNat y))] [] 0 0 M := by
  have ii : vp_in (Int32.ofNat i) 48 := xn_in hi (by decide)
  intro k
  induction k with
  | zero =>
    intro y L M hy hlen hT hF e2 hL hs hS h
    obtain ⟨k0, k1, k2, k3, k4⟩ := hF i hi
    refine t11_tapeSteps_20 M _ _ _ _ hS ⟨fun _ => s11_further hi hL (by omega) hs hS (fun M1 s1 l1 hS => ⟨rfl, hS, ii, ?_⟩), fun g => absurd ((xn_le (by omega) (by omega)).mpr (by omega)) g⟩
    rw [k0, k1, k2, k3] at l1
    rw [xn_c (by omega), s1.1 _ _ (by omega), k0]
    refine ⟨fun g hS => ?_, fun g hS => ?_⟩
    · rw [if_pos g] at h
      have hl1 := apL_len (st := false) (L := L) (A := fuL (F.1 i) (F.2.1 i) (F.2.2.1 i) (F.2.2.2.1 i) j (Int32.ofNat m))
      have hl2 := fuL_len (o := F.1 i) (a := F.2.1 i) (q := F.2.2.1 i) (k := F.2.2.2.1 i) (jump := j) (n := Int32.ofNat m)
      have hmm : m * m ≤ 24 * 24 := Nat.mul_le_mul hm hm
      refine lp_ts99 (F := F) hi hm hf m 0 _ M1 (by omega) (by omega) (hT.fl s1) (hF.fl s1) (by rw [s1.1 _ _ (by omega)]; exact e2) l1 (by rw [s1.1 _ _ (by omega)]; exact hs) hS (fun M2 s2 l2 hS => h M2 (s1.tr s2) ?_ hS)
      rw [apL_app] at l2; exact l2
    · rw [if_neg g] at h
      refine h M1 s1 ?_ hS
      show lsM b M1 (apL false L ([] ++ fuL (F.1 i) (F.2.1 i) (F.2.2.1 i) (F.2.2.2.1 i) j (Int32.ofNat m) ++ []))
      rw [List.append_nil]; exact l1
  | succ k ih =>
    intro y L M hy hlen hT hF e2 hL hs hS h
    have hT0 := hT
    obtain ⟨t1, t2, t3⟩ := hT
    obtain ⟨k0, k1, k2, k3, k4⟩ := hF i hi
    refine t11_tapeSteps_20 M _ _ _ _ hS ⟨fun g => absurd ((xn_le (by omega) (by omega)).mp g) (by omega), fun _ => ⟨ii, ?_⟩⟩
    rw [xn_c (by omega), e2, ix3, ix1, ix2, xn_s, xn_c (by omega), xn_c (by omega), xn_c (by omega), t3 _ (by omega), t3 _ (by omega), t3 _ (by omega)]
    have v0 : ∀ z, z < sz → vp_in (Int32.ofNat z) 20000 := fun z hz => xn_in (by omega) (by decide)
    refine ⟨v0 _ (by omega), v0 _ (by omega), v0 _ (by omega), s11_keep hi hL (by omega) hs hS (fun M1 s1 l1 hS => ⟨rfl, hS, fun hS => ?_⟩)⟩
    rw [k0, k1, k2, k3] at l1
    have hl1 := apL_len (st := false) (L := L) (A := onL (Int32.ofNat y) (caO (F.1 i) (F.2.1 i) (F.2.2.1 i) (F.2.2.2.1 i) (ftT T f y)))
    have hl2 := onL_len (n := Int32.ofNat y) (o := caO (F.1 i) (F.2.1 i) (F.2.2.1 i) (F.2.2.2.1 i) (ftT T f y))
    refine ih (y + 1) _ M1 (by omega) (Nat.le_trans (Nat.add_le_add_right hl1 k) (by omega)) (hT0.fl s1) (hF.fl s1) (by rw [s1.1 _ _ (by omega)]; exact e2) l1 (by rw [s1.1 _ _ (by omega)]; exact hs) hS (fun M2 s2 l2 hS => h M2 (s1.tr s2) ?_ hS)
    rw [apL_app, ← List.append_assoc, ← List.append_assoc] at l2
    exact l2
theorem s11_tapeSteps {i m f : Nat} {F : Flt} {j : Bool} {M : xm_M} (hi : i < 48) (hm : m ≤ 24) (hf : f + 3 * m ≤ sz) (hT : tpM b M T sz) (hF : flM b M F) (e1 : xm_gi M (b + 175) i = Int32.ofNat m) (e2 : xm_gi M (b + 174) i = Int32.ofNat f) (hS : xm_st b c p M) (h : ∀ M1, smG b M M1 → lsM b M1 (tsL (F.1 i) (F.2.1 i) (F.2.2.1 i) (F.2.2.2.1 i) j T f m) → xm_st b c p M1 → Q none M1) : xm_C l E y11_tapeSteps rm11_tapeSteps [.ref (b + 154), .int (Int32.ofNat i), .int (xz j)] M Q := by
  refine xm_enter (by decide) (Nat.le_of_ble_eq_true rfl) (t11_tapeSteps_0 M _ _ hS ⟨xn_in hi (by decide), fun hS => ?_⟩)
  have s0 := smG_0 (b := b) (M := M) (v := 0) (w := 0)
  have l0 := lsM_0 (b := b) (M := M) (v := 0)
  have f0 := g19_0 (b := b) (M := M) (v := 0)
  generalize xm_pi (xm_pi M (b + 154) 19 0) (b + 154) 14 0 = M0 at s0 l0 f0 hS ⊢
  rw [xn_c (by omega), s0.1 _ _ (by omega), e1]
  refine lp_ts20 (F := F) hi hm hf m 0 [] M0 (by omega) (by show 0 + m ≤ 24; omega) (hT.fg s0) (hF.fg s0) (by rw [s0.1 _ _ (by omega)]; exact e2) l0 f0 hS (fun M1 s1 l1 hS => h M1 (s0.tr s1.g) ?_ hS)
  rw [apL_false] at l1; exact l1
end TP
