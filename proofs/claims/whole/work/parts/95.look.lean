/-! a number looked up in the reference's list is the class's step of that number -/
def lkS : List NsT → Int32 → Option StT
  | [], _ => none
  | s :: L, x => if s.1 = x then some s.2 else lkS L x
theorem lkS_app (x : Int32) (B : List NsT) : ∀ A : List NsT, lkS (A ++ B) x = (lkS A x).or (lkS B x)
  | [] => by show lkS B x = (none : Option StT).or _; rw [Option.none_or]
  | s :: A => by
    show (if s.1 = x then some s.2 else lkS (A ++ B) x) = (if s.1 = x then some s.2 else lkS A x).or _
    by_cases g : s.1 = x
    · rw [if_pos g, if_pos g, Option.some_or]
    · rw [if_neg g, if_neg g]; exact lkS_app x B A
theorem lkS_no {x : Int32} : ∀ {L : List NsT}, (∀ s, s ∈ L → ¬ s.1 = x) → lkS L x = none
  | [], _ => rfl
  | s :: L, h => (if_neg (h s List.mem_cons_self)).trans (lkS_no (fun t ht => h t (List.mem_cons_of_mem _ ht)))
theorem lk_on {n x : Int32} {o : Option StT} : lkS (onL n o) x = if n = x then o else none := by
  cases o with
  | none => show none = _; by_cases g : n = x <;> simp [g]
  | some s => rfl
theorem of_eq {x : Int32} {j : Nat} (hj : j < 2 ^ 31) : Int32.ofNat j = x ↔ (¬ x < 0 ∧ x.toNatClampNeg = j) := by
  refine ⟨fun q => ?_, fun q => ?_⟩
  · subst q
    exact ⟨fun z => absurd ((xn_lt (b := 0) hj (by decide)).mp z) (by omega), xn_c hj⟩
  · rw [← q.2]; exact (i32_of q.1).symm
theorem lk_kp {o a q k x : Int32} {T : Nat → Int32} {f : Nat} : ∀ (n j : Nat), j + n < 2 ^ 31 → lkS (kpL o a q k T f n j) x = if ¬ x < 0 ∧ j ≤ x.toNatClampNeg ∧ x.toNatClampNeg < j + n then caO o a q k (ftT T f x.toNatClampNeg) else none
  | 0, j, _ => by rw [if_neg (by omega)]; rfl
  | n + 1, j, hj => by
    unfold kpL
    rw [lkS_app, lk_on, lk_kp n (j + 1) (by omega)]
    by_cases g : Int32.ofNat j = x
    · obtain ⟨g1, g2⟩ := (of_eq (by omega)).mp g
      rw [if_pos g, if_neg (by omega), Option.or_none, if_pos ⟨g1, by omega, by omega⟩, g2]
    · rw [if_neg g, Option.none_or]
      by_cases g2 : ¬ x < 0 ∧ j ≤ x.toNatClampNeg ∧ x.toNatClampNeg < j + (n + 1)
      · have : ¬ x.toNatClampNeg = j := fun z => g ((of_eq (by omega)).mpr ⟨g2.1, z⟩)
        rw [if_pos ⟨g2.1, by omega, by omega⟩, if_pos g2]
      · rw [if_neg (fun z => g2 ⟨z.1, by omega, by omega⟩), if_neg g2]
theorem lk_pl {x : Int32} {T : Nat → Int32} {f : Nat} : ∀ (n j : Nat), j + n < 2 ^ 31 → lkS (plL T f n j) x = if ¬ x < 0 ∧ j ≤ x.toNatClampNeg ∧ x.toNatClampNeg < j + n then some (ftT T f x.toNatClampNeg) else none
  | 0, j, _ => by rw [if_neg (by omega)]; rfl
  | n + 1, j, hj => by
    show (if Int32.ofNat j = x then some (ftT T f j) else lkS (plL T f n (j + 1)) x) = _
    rw [lk_pl n (j + 1) (by omega)]
    by_cases g : Int32.ofNat j = x
    · obtain ⟨g1, g2⟩ := (of_eq (by omega)).mp g
      rw [if_pos g, if_pos ⟨g1, by omega, by omega⟩, g2]
    · rw [if_neg g]
      by_cases g2 : ¬ x < 0 ∧ j ≤ x.toNatClampNeg ∧ x.toNatClampNeg < j + (n + 1)
      · have : ¬ x.toNatClampNeg = j := fun z => g ((of_eq (by omega)).mpr ⟨g2.1, z⟩)
        rw [if_pos ⟨g2.1, by omega, by omega⟩, if_pos g2]
      · rw [if_neg (fun z => g2 ⟨z.1, by omega, by omega⟩), if_neg g2]
theorem lk_suR {a q x : Int32} {T : Nat → Int32} {f m v : Nat} : ∀ (n y : Nat), m + m * v + y + n < 2 ^ 31 → lkS (suR a q T f m v n y) x = if ¬ x < 0 ∧ m + m * v + y ≤ x.toNatClampNeg ∧ x.toNatClampNeg < m + m * v + y + n then suO a q (ftT T f v) (ftT T f (x.toNatClampNeg - (m + m * v))) else none
  | 0, y, _ => by rw [if_neg (by omega)]; rfl
  | n + 1, y, hj => by
    unfold suR
    rw [lkS_app, lk_on, lk_suR n (y + 1) (by omega)]
    by_cases g : Int32.ofNat (m + m * v + y) = x
    · obtain ⟨g1, g2⟩ := (of_eq (by omega)).mp g
      rw [if_pos g, if_neg (by omega), Option.or_none, if_pos ⟨g1, by omega, by omega⟩, show x.toNatClampNeg - (m + m * v) = y by omega]
    · rw [if_neg g, Option.none_or]
      by_cases g2 : ¬ x < 0 ∧ m + m * v + y ≤ x.toNatClampNeg ∧ x.toNatClampNeg < m + m * v + y + (n + 1)
      · have : ¬ x.toNatClampNeg = m + m * v + y := fun z => g ((of_eq (by omega)).mpr ⟨g2.1, z⟩)
        rw [if_pos ⟨g2.1, by omega, by omega⟩, if_pos g2]
      · rw [if_neg (fun z => g2 ⟨z.1, by omega, by omega⟩), if_neg g2]
theorem lk_suL {a q x : Int32} {T : Nat → Int32} {f m : Nat} (hm : m ≤ 24) : ∀ (n v : Nat), v + n ≤ m → lkS (suL a q T f m n v) x = if ¬ x < 0 ∧ m + m * v ≤ x.toNatClampNeg ∧ x.toNatClampNeg < m + m * (v + n) then suO a q (ftT T f ((x.toNatClampNeg - m) / m)) (ftT T f ((x.toNatClampNeg - m) % m)) else none
  | 0, v, _ => by rw [if_neg (by rw [Nat.add_zero]; omega)]; rfl
  | n + 1, v, hv => by
    have hm2 : m * v ≤ 24 * 24 := Nat.mul_le_mul hm (by omega)
    have e1 : m * (v + 1 + n) = m * (v + (n + 1)) := congrArg (m * ·) (by omega)
    have e2 : m * (v + 1) = m * v + m := Nat.mul_succ m v
    have e3 : m * (v + 1) ≤ m * (v + (n + 1)) := Nat.mul_le_mul (Nat.le_refl _) (by omega)
    unfold suL
    rw [lkS_app, lk_suR m 0 (by omega), lk_suL hm n (v + 1) (by omega), e1, e2]
    by_cases g : ¬ x < 0 ∧ m + m * v + 0 ≤ x.toNatClampNeg ∧ x.toNatClampNeg < m + m * v + 0 + m
    · rw [if_pos g, if_neg (by omega), Option.or_none, if_pos ⟨g.1, by omega, by omega⟩]
      have d1 : (x.toNatClampNeg - m) / m = v := Nat.div_eq_of_lt_le (by rw [Nat.mul_comm]; omega) (by rw [Nat.mul_comm, e2]; omega)
      have d2 := Nat.div_add_mod (x.toNatClampNeg - m) m
      rw [d1] at d2
      rw [d1, show (x.toNatClampNeg - m) % m = x.toNatClampNeg - (m + m * v) by omega]
    · rw [if_neg g, Option.none_or]
      by_cases g2 : ¬ x < 0 ∧ m + m * v ≤ x.toNatClampNeg ∧ x.toNatClampNeg < m + m * (v + (n + 1))
      · have g' : ¬ x.toNatClampNeg < m + m * v + m := fun z => g ⟨g2.1, by omega, by omega⟩
        rw [if_pos ⟨g2.1, by omega, by omega⟩, if_pos g2]
      · rw [if_neg (fun z => g2 ⟨z.1, by omega, by omega⟩), if_neg g2]
theorem prO_2 {n u v : Int32} {c d : Int64} (h0 : ¬ n = 0) (h1 : ¬ n = 1) : prO n u v c d = none := (if_neg h0).trans (if_neg h1)
theorem fuO_2 {o a q k n : Int32} {j : Bool} (h0 : ¬ n = 0) (h1 : ¬ n = 1) : fuO o a q k j n = none := by
  unfold fuO
  rw [prO_2 h0 h1, prO_2 h0 h1, prO_2 h0 h1, prO_2 h0 h1, prO_2 h0 h1, prO_2 h0 h1, prO_2 h0 h1, if_neg h0, if_neg h0]
  simp only [ite_self]
theorem fuO_4 {a q k n : Int32} {j : Bool} : fuO 4 a q k j n = none := by
  unfold fuO
  rw [if_neg (by decide), if_neg (by decide), if_neg (by decide), if_neg (by decide), if_neg (by decide), if_neg (by decide), if_neg (by decide), if_neg (by decide), if_neg (by decide), if_neg (by decide), if_neg (by decide)]
theorem i32_n1 (n : Int32) : ¬ n + 1 = n := fun q => by
  have : n + 1 = n + 0 := q.trans (Int32.add_zero n).symm
  exact absurd ((Int32.add_right_inj n).mp this) (by decide)
theorem sub_of {x n d : Int32} (h : x = n + d) : x - n = d := by
  rw [h, Int32.add_comm, Int32.add_sub_cancel]
theorem of_sub {x n d : Int32} (h : x - n = d) : x = n + d := by
  rw [← h, Int32.add_comm, Int32.sub_add_cancel]
theorem lk_fu {o a q k n x : Int32} {j : Bool} : lkS (fuL o a q k j n) x = fuO o a q k j (x - n) := by
  unfold fuL
  rw [lkS_app, lk_on, lk_on]
  by_cases g : n = x
  · subst g
    rw [if_pos rfl, if_neg (i32_n1 n), Option.or_none, Int32.sub_self]
  · rw [if_neg g, Option.none_or]
    by_cases g1 : n + 1 = x
    · rw [if_pos g1, sub_of g1.symm]
    · rw [if_neg g1, fuO_2 (fun z => g (by have := of_sub z; rw [Int32.add_zero] at this; exact this.symm)) (fun z => g1 (of_sub z).symm)]
theorem lk_P {T : Nat → Int32} {f m : Nat} (hm : m ≤ 24) (x : Int32) : lkS (plL T f m 0) x = fsP T f m x := by
  rw [lk_pl m 0 (by omega)]
  unfold fsP
  by_cases g : x < 0
  · rw [if_neg (fun z => z.1 g), if_pos g]
  · rw [if_neg g]
    by_cases g2 : x < Int32.ofNat m
    · have := (i32_lt (by omega) g).mp g2
      rw [if_pos ⟨g, by omega, by omega⟩, if_pos g2]
    · rw [if_neg (fun z => g2 ((i32_lt (by omega) g).mpr (by omega))), if_neg g2]
theorem lk_E {o a q k : Int32} {j : Bool} {T : Nat → Int32} {f m : Nat} (hm : m ≤ 24) (x : Int32) : lkS (tsL o a q k j T f m) x = fsE o a q k j T f m x := by
  unfold tsL
  rw [lkS_app, lkS_app, lk_kp m 0 (by omega), lk_fu]
  have hsu : lkS (if o = 4 then suL a q T f m m 0 else []) x = if o = 4 then (if ¬ x < 0 ∧ m ≤ x.toNatClampNeg ∧ x.toNatClampNeg < m + m * m then suO a q (ftT T f ((x.toNatClampNeg - m) / m)) (ftT T f ((x.toNatClampNeg - m) % m)) else none) else none := by
    by_cases g : o = 4
    · rw [if_pos g, if_pos g, lk_suL hm m 0 (by omega), Nat.zero_add, Nat.mul_zero, Nat.add_zero]
    · rw [if_neg g, if_neg g]; rfl
  rw [hsu]
  unfold fsE
  by_cases g : Int32.ofNat m ≤ x
  · have g0 : ¬ x < 0 := fun z => by
      rw [Int32.le_iff_toInt_le, toInt_of rfl (by omega)] at g
      rw [Int32.lt_iff_toInt_lt, show (0 : Int32).toInt = 0 by decide] at z
      omega
    have gm : m ≤ x.toNatClampNeg := Nat.not_lt.mp fun z => by
      have := (i32_lt (by omega) g0).mpr z
      rw [Int32.le_iff_toInt_le] at g
      rw [Int32.lt_iff_toInt_lt] at this
      omega
    rw [if_neg (by omega), Option.none_or, if_pos g]
    by_cases g4 : o = 4
    · subst g4
      rw [fuO_4, Option.none_or, if_pos rfl, if_pos rfl]
      have ex : x - Int32.ofNat m = Int32.ofNat (x.toNatClampNeg - m) := sub_of (by
        rw [← Int32.ofNat_add, show m + (x.toNatClampNeg - m) = x.toNatClampNeg by omega]; exact i32_of g0)
      have hb : x.toNatClampNeg < 2 ^ 31 := by
        have := i32_rng x
        show x.toInt.toNat < _
        omega
      rw [ex, xn_c (by omega)]
      unfold fsU
      by_cases g5 : m = 0
      · rw [if_pos g5, if_neg (by rw [g5]; omega)]
      · rw [if_neg g5]
        have hd : (x.toNatClampNeg - m) / m < m ↔ x.toNatClampNeg - m < m * m := Nat.div_lt_iff_lt_mul (by omega)
        by_cases g6 : (x.toNatClampNeg - m) / m < m
        · have := hd.mp g6
          rw [if_pos ⟨g0, gm, by omega⟩, if_pos g6]
        · rw [if_neg (fun z => g6 (hd.mpr (by omega))), if_neg g6]
    · rw [if_neg g4, if_neg g4, Option.or_none]
  · rw [if_neg g]
    have gx : x < Int32.ofNat m := by
      rw [Int32.le_iff_toInt_le] at g; rw [Int32.lt_iff_toInt_lt]; omega
    have hfu : fuO o a q k j (x - Int32.ofNat m) = none := by
      refine fuO_2 (fun z => ?_) (fun z => ?_)
      · have := of_sub z
        rw [Int32.add_zero] at this
        exact g (by rw [this]; exact (xn_le (by omega) (by omega)).mpr (Nat.le_refl _))
      · have := of_sub z
        rw [ix1] at this
        exact g (by rw [this]; exact (xn_le (by omega) (by omega)).mpr (by omega))
    rw [hfu, Option.or_none]
    have hlt : ¬ x < 0 → x.toNatClampNeg < m := fun g0 => (i32_lt (by omega) g0).mp gx
    have inn : (if ¬ x < 0 ∧ m ≤ x.toNatClampNeg ∧ x.toNatClampNeg < m + m * m then suO a q (ftT T f ((x.toNatClampNeg - m) / m)) (ftT T f ((x.toNatClampNeg - m) % m)) else none) = none := if_neg (fun z => by have := hlt z.1; omega)
    rw [inn, ite_self, Option.or_none]
    by_cases g0 : x < 0
    · rw [if_neg (fun z => z.1 g0), if_pos g0]
    · have hlt := hlt g0
      rw [if_pos ⟨g0, by omega, by omega⟩, if_neg g0]
theorem lk_B (least x : Int32) : lkS (begL least) x = begO x least := by
  by_cases g : x < 0
  · have e : begO x least = none := if_pos g
    rw [e]
    refine lkS_no (fun s hs q => ?_)
    have : ∃ y : Nat, y < 18 ∧ s.1 = Int32.ofNat y := by
      simp [begL, bgF] at hs
      rcases hs with rfl | rfl | rfl | rfl | rfl | rfl | rfl | rfl | rfl | rfl | rfl | rfl | rfl | rfl | rfl | rfl | rfl | rfl
      · exact ⟨0, by decide, by decide⟩
      · exact ⟨1, by decide, by decide⟩
      · exact ⟨2, by decide, by decide⟩
      · exact ⟨3, by decide, by decide⟩
      · exact ⟨4, by decide, by decide⟩
      · exact ⟨5, by decide, by decide⟩
      · exact ⟨6, by decide, by decide⟩
      · exact ⟨7, by decide, by decide⟩
      · exact ⟨8, by decide, by decide⟩
      · exact ⟨9, by decide, by decide⟩
      · exact ⟨10, by decide, by decide⟩
      · exact ⟨11, by decide, by decide⟩
      · exact ⟨12, by decide, by decide⟩
      · exact ⟨13, by decide, by decide⟩
      · exact ⟨14, by decide, by decide⟩
      · exact ⟨15, by decide, by decide⟩
      · exact ⟨16, by decide, rfl⟩
      · exact ⟨17, by decide, by decide⟩
    obtain ⟨y, hy, e⟩ := this
    exact ((of_eq (by omega)).mp (e.symm.trans q)).1 g
  · by_cases g2 : x.toNatClampNeg < 18
    · have ex := i32_of g
      generalize x.toNatClampNeg = y at ex g2
      subst ex
      have : y = 0 ∨ y = 1 ∨ y = 2 ∨ y = 3 ∨ y = 4 ∨ y = 5 ∨ y = 6 ∨ y = 7 ∨ y = 8 ∨ y = 9 ∨ y = 10 ∨ y = 11 ∨ y = 12 ∨ y = 13 ∨ y = 14 ∨ y = 15 ∨ y = 16 ∨ y = 17 := by omega
      rcases this with rfl | rfl | rfl | rfl | rfl | rfl | rfl | rfl | rfl | rfl | rfl | rfl | rfl | rfl | rfl | rfl | rfl | rfl <;> rfl
    · have e : begO x least = none := (if_neg g).trans (if_neg (fun z => g2 ((i32_lt (m := 18) (by decide) g).mp z)))
      rw [e]
      refine lkS_no (fun s hs q => ?_)
      have : ∃ y : Nat, y < 18 ∧ s.1 = Int32.ofNat y := by
        simp [begL, bgF] at hs
        rcases hs with rfl | rfl | rfl | rfl | rfl | rfl | rfl | rfl | rfl | rfl | rfl | rfl | rfl | rfl | rfl | rfl | rfl | rfl
        · exact ⟨0, by decide, by decide⟩
        · exact ⟨1, by decide, by decide⟩
        · exact ⟨2, by decide, by decide⟩
        · exact ⟨3, by decide, by decide⟩
        · exact ⟨4, by decide, by decide⟩
        · exact ⟨5, by decide, by decide⟩
        · exact ⟨6, by decide, by decide⟩
        · exact ⟨7, by decide, by decide⟩
        · exact ⟨8, by decide, by decide⟩
        · exact ⟨9, by decide, by decide⟩
        · exact ⟨10, by decide, by decide⟩
        · exact ⟨11, by decide, by decide⟩
        · exact ⟨12, by decide, by decide⟩
        · exact ⟨13, by decide, by decide⟩
        · exact ⟨14, by decide, by decide⟩
        · exact ⟨15, by decide, by decide⟩
        · exact ⟨16, by decide, rfl⟩
        · exact ⟨17, by decide, by decide⟩
      obtain ⟨y, hy, e⟩ := this
      have := ((of_eq (by omega)).mp (e.symm.trans q)).2
      omega
