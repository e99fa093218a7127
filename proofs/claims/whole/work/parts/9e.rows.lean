/-! rows of steps: the least sums, and the row that is told -/
def isMin (o : Option Int) (S : Int → Prop) : Prop := match o with
  | none => ∀ y, ¬ S y
  | some x => S x ∧ ∀ y, S y → x ≤ y
theorem isMin_un {o o' : Option Int} {S : Int → Prop} (h : isMin o S) (h' : isMin o' S) : o = o' := by
  cases o with
  | none => cases o' with
    | none => rfl
    | some x => exact absurd h'.1 (h x)
  | some x => cases o' with
    | none => exact absurd h.1 (h' x)
    | some y =>
      have h1 := h.2 y h'.1
      have h2 := h'.2 x h.1
      exact congrArg some (by omega)
def omin (o : Option Int) (x : Int) : Option Int := match o with
  | none => some x
  | some y => some (if y ≤ x then y else x)
theorem isMin_om {o : Option Int} {x : Int} {S : Int → Prop} (h : isMin o S) : isMin (omin o x) (fun y => S y ∨ y = x) := by
  cases o with
  | none => exact ⟨Or.inr rfl, fun y hy => hy.elim (fun q => absurd q (h y)) (fun q => by omega)⟩
  | some y =>
    show (S (if y ≤ x then y else x) ∨ (if y ≤ x then y else x) = x) ∧ ∀ z, S z ∨ z = x → (if y ≤ x then y else x) ≤ z
    by_cases g : y ≤ x
    · rw [if_pos g]
      exact ⟨Or.inl h.1, fun z hz => hz.elim (fun q => h.2 z q) (fun q => by omega)⟩
    · rw [if_neg g]
      exact ⟨Or.inr rfl, fun z hz => hz.elim (fun q => by have := h.2 z q; omega) (fun q => by omega)⟩
theorem isMin_cg {o : Option Int} {S S' : Int → Prop} (h : isMin o S) (e : ∀ y, S y ↔ S' y) : isMin o S' := by
  cases o with
  | none => exact fun y hy => h y ((e y).mpr hy)
  | some x => exact ⟨(e x).mp h.1, fun y hy => h.2 y ((e y).mpr hy)⟩
/-- one step more -/
def rsF (f : Nat → Option Int) (p : Nat) (acc : Option Int) (s : NsT) : Option Int := if s.2.1 = Int32.ofNat p then (match f s.2.2.1.toNatClampNeg with
  | none => acc
  | some r => omin acc (s.2.2.2.toInt + r)) else acc
def rsZ (L : List NsT) (to : Nat) : Nat → Nat → Option Int
  | 0, p => if p = to then some 0 else none
  | n + 1, p => L.foldl (rsF (rsZ L to n) p) none
def stS (L : List NsT) (f : Nat → Option Int) (p : Nat) (y : Int) : Prop := ∃ s, s ∈ L ∧ s.2.1 = Int32.ofNat p ∧ ∃ r, f s.2.2.1.toNatClampNeg = some r ∧ y = s.2.2.2.toInt + r
theorem rsF_min {f : Nat → Option Int} {p : Nat} : ∀ (L : List NsT) (acc : Option Int) (S : Int → Prop), isMin acc S → isMin (L.foldl (rsF f p) acc) (fun y => S y ∨ stS L f p y)
  | [], acc, S, h => isMin_cg h (fun y => ⟨Or.inl, fun q => q.elim id (fun ⟨s, h, _⟩ => absurd h List.not_mem_nil)⟩)
  | s :: L, acc, S, h => by
    show isMin (L.foldl (rsF f p) (rsF f p acc s)) _
    unfold rsF
    by_cases g : s.2.1 = Int32.ofNat p
    · rw [if_pos g]
      cases hf : f s.2.2.1.toNatClampNeg with
      | none =>
        refine isMin_cg (rsF_min L acc S h) (fun y => ⟨fun q => q.imp id (fun ⟨t, t1, t2⟩ => ⟨t, List.mem_cons_of_mem _ t1, t2⟩), fun q => q.imp id (fun ⟨t, t1, t2, r, t3, t4⟩ => ?_)⟩)
        rcases List.mem_cons.mp t1 with e | e
        · rw [e, hf] at t3; cases t3
        · exact ⟨t, e, t2, r, t3, t4⟩
      | some r0 =>
        refine isMin_cg (rsF_min L (omin acc (s.2.2.2.toInt + r0)) _ (isMin_om h)) (fun y => ⟨fun q => ?_, fun q => ?_⟩)
        · rcases q with (q | q) | ⟨t, t1, t2⟩
          · exact Or.inl q
          · exact Or.inr ⟨s, List.mem_cons_self, g, r0, hf, q⟩
          · exact Or.inr ⟨t, List.mem_cons_of_mem _ t1, t2⟩
        · rcases q with q | ⟨t, t1, t2, r, t3, t4⟩
          · exact Or.inl (Or.inl q)
          · rcases List.mem_cons.mp t1 with e | e
            · rw [e, hf] at t3
              cases t3
              rw [e] at t4
              exact Or.inl (Or.inr t4)
            · exact Or.inr ⟨t, e, t2, r, t3, t4⟩
    · rw [if_neg g]
      refine isMin_cg (rsF_min L acc S h) (fun y => ⟨fun q => q.imp id (fun ⟨t, t1, t2⟩ => ⟨t, List.mem_cons_of_mem _ t1, t2⟩), fun q => q.imp id (fun ⟨t, t1, t2, t3⟩ => ?_)⟩)
      rcases List.mem_cons.mp t1 with e | e
      · rw [e] at t2; exact absurd t2 g
      · exact ⟨t, e, t2, t3⟩
theorem rsZ_min (L : List NsT) (to n p : Nat) : isMin (rsZ L to (n + 1) p) (stS L (rsZ L to n) p) :=
  isMin_cg (rsF_min L none (fun _ => False) (fun _ => id)) (fun y => ⟨fun q => q.elim False.elim id, Or.inr⟩)
def okL (L : List NsT) : Prop := ∀ s, s ∈ L → okP s.2 ∧ isB s.2.2.2 = true
theorem isB_iff {w : Int64} : isB w = true ↔ -2147483648 ≤ w.toInt ∧ w.toInt ≤ 2147483647 := decide_eq_true_iff
theorem rsZ_bd {L : List NsT} (hL : okL L) (to : Nat) : ∀ (n p : Nat) (x : Int), rsZ L to n p = some x → -(2147483648 * (n : Int)) ≤ x ∧ x ≤ 2147483648 * (n : Int)
  | 0, p, x, h => by
    unfold rsZ at h
    by_cases g : p = to
    · rw [if_pos g] at h; cases h; omega
    · rw [if_neg g] at h; cases h
  | n + 1, p, x, h => by
    have hm := rsZ_min L to n p
    rw [h] at hm
    obtain ⟨s, s1, s2, r, s3, s4⟩ := hm.1
    have b1 := isB_iff.mp (hL s s1).2
    have b2 := rsZ_bd hL to n _ r s3
    omega
theorem mnL_min {L : List NsT} (hL : okL L) (p q : Nat) : ∃ o, (match o with | none => mnL L p q = N62 | some x => (mnL L p q).toInt = x) ∧ isMin o (fun y => ∃ s, s ∈ L ∧ s.2.1 = Int32.ofNat p ∧ s.2.2.1 = Int32.ofNat q ∧ y = s.2.2.2.toInt) := by
  have n62 : (N62 : Int64).toInt = 4611686018427387904 := by decide
  have gen : ∀ (A : List NsT) (a : Int64) (o : Option Int) (S : Int → Prop), okL A → (match o with | none => a = N62 | some x => a.toInt = x) → (∀ y, S y → y ≤ 2147483647) → isMin o S → ∃ o', (match o' with | none => A.foldl (mnF p q) a = N62 | some x => (A.foldl (mnF p q) a).toInt = x) ∧ isMin o' (fun y => S y ∨ ∃ s, s ∈ A ∧ s.2.1 = Int32.ofNat p ∧ s.2.2.1 = Int32.ofNat q ∧ y = s.2.2.2.toInt) := by
    intro A
    induction A with
    | nil => exact fun a o S _ h1 _ h2 => ⟨o, h1, isMin_cg h2 (fun y => ⟨Or.inl, fun z => z.elim id (fun ⟨s, h, _⟩ => absurd h List.not_mem_nil)⟩)⟩
    | cons s A ih =>
      intro a o S hA h1 hS h2
      have hA' : okL A := fun t ht => hA t (List.mem_cons_of_mem _ ht)
      have bs := isB_iff.mp (hA s List.mem_cons_self).2
      by_cases g : s.2.1 = Int32.ofNat p ∧ s.2.2.1 = Int32.ofNat q
      · have ev : mnF p q a s = if a ≤ s.2.2.2 then a else s.2.2.2 := if_pos g
        obtain ⟨o', h3, h4⟩ := ih (mnF p q a s) (omin o s.2.2.2.toInt) (fun y => S y ∨ y = s.2.2.2.toInt) hA' (by
          rw [ev]
          cases o with
          | none =>
            have h1 : a = N62 := h1
            show (if a ≤ s.2.2.2 then a else s.2.2.2).toInt = s.2.2.2.toInt
            rw [if_neg (fun z => by rw [h1, Int64.le_iff_toInt_le, n62] at z; omega)]
          | some x =>
            have h1 : a.toInt = x := h1
            show (if a ≤ s.2.2.2 then a else s.2.2.2).toInt = if x ≤ s.2.2.2.toInt then x else s.2.2.2.toInt
            by_cases z : a ≤ s.2.2.2
            · rw [if_pos z, if_pos (by rw [← h1]; exact Int64.le_iff_toInt_le.mp z)]; exact h1
            · rw [if_neg z, if_neg (by rw [← h1]; exact fun w => z (Int64.le_iff_toInt_le.mpr w))]) (fun y hy => hy.elim (hS y) (fun z => by omega)) (isMin_om h2)
        refine ⟨o', h3, isMin_cg h4 (fun y => ⟨fun z => ?_, fun z => ?_⟩)⟩
        · rcases z with (z | z) | ⟨t, t1, t2⟩
          · exact Or.inl z
          · exact Or.inr ⟨s, List.mem_cons_self, g.1, g.2, z⟩
          · exact Or.inr ⟨t, List.mem_cons_of_mem _ t1, t2⟩
        · rcases z with z | ⟨t, t1, t2, t3, t4⟩
          · exact Or.inl (Or.inl z)
          · rcases List.mem_cons.mp t1 with e | e
            · rw [e] at t4; exact Or.inl (Or.inr t4)
            · exact Or.inr ⟨t, e, t2, t3, t4⟩
      · have ev : mnF p q a s = a := if_neg g
        obtain ⟨o', h3, h4⟩ := ih (mnF p q a s) o S hA' (by rw [ev]; exact h1) hS h2
        refine ⟨o', h3, isMin_cg h4 (fun y => ⟨fun z => z.imp id (fun ⟨t, t1, t2⟩ => ⟨t, List.mem_cons_of_mem _ t1, t2⟩), fun z => z.imp id (fun ⟨t, t1, t2, t3, t4⟩ => ?_)⟩)⟩
        rcases List.mem_cons.mp t1 with e | e
        · rw [e] at t2 t3; exact absurd ⟨t2, t3⟩ g
        · exact ⟨t, e, t2, t3, t4⟩
  obtain ⟨o, h1, h2⟩ := gen L N62 none (fun _ => False) hL rfl (fun _ h => h.elim) (fun _ => id)
  exact ⟨o, h1, isMin_cg h2 (fun y => ⟨fun z => z.elim False.elim id, Or.inr⟩)⟩
/-- a step that fits -/
def fitB (f : Nat → Option Int) (p : Nat) (left : Int) (s : NsT) : Bool := decide (s.2.1 = Int32.ofNat p) && (match f s.2.2.1.toNatClampNeg with
  | none => false
  | some r => decide (s.2.2.2.toInt + r ≤ left))
def chZ (L : List NsT) (to : Nat) : Nat → Nat → Int → List NsT
  | 0, _, _ => []
  | n + 1, p, left => match L.find? (fitB (rsZ L to n) p left) with
    | none => []
    | some s => s :: chZ L to n s.2.2.1.toNatClampNeg (left - s.2.2.2.toInt)
def leZ (o : Option Int) (m : Int) : Bool := match o with
  | none => false
  | some x => decide (x ≤ m)
def fnZ (L : List NsT) (fr to : Nat) (most : Int) : Nat → Nat → Option (List NsT)
  | 0, _ => none
  | k + 1, n => if leZ (rsZ L to n fr) most = true then some (chZ L to n fr most) else fnZ L fr to most k (n + 1)
/-- the row, of at most twelve steps -/
def fnR (L : List NsT) (fr to : Nat) (most : Int) : Option (List NsT) := fnZ L fr to most 12 1
theorem fit_ex {L : List NsT} {to n p : Nat} {left x : Int} (h : rsZ L to (n + 1) p = some x) (hx : x ≤ left) : ∃ s, L.find? (fitB (rsZ L to n) p left) = some s ∧ s ∈ L ∧ s.2.1 = Int32.ofNat p ∧ ∃ r, rsZ L to n s.2.2.1.toNatClampNeg = some r ∧ r ≤ left - s.2.2.2.toInt := by
  have hm := rsZ_min L to n p
  rw [h] at hm
  obtain ⟨s, s1, s2, r, s3, s4⟩ := hm.1
  cases hf : L.find? (fitB (rsZ L to n) p left) with
  | none =>
    have := List.find?_eq_none.mp hf s s1
    refine absurd ?_ this
    unfold fitB
    rw [s3, decide_eq_true s2]
    show (true && decide (s.2.2.2.toInt + r ≤ left)) = true
    rw [decide_eq_true (by omega)]; rfl
  | some t =>
    have t1 := List.find?_some hf
    have t2 := List.mem_of_find?_eq_some hf
    unfold fitB at t1
    rw [Bool.and_eq_true, decide_eq_true_iff] at t1
    refine ⟨t, rfl, t2, t1.1, ?_⟩
    cases hr : rsZ L to n t.2.2.1.toNatClampNeg with
    | none =>
      rw [hr] at t1
      have : false = true := t1.2
      cases this
    | some r =>
      rw [hr] at t1
      have := of_decide_eq_true t1.2
      exact ⟨r, rfl, by omega⟩
theorem chZ_len {L : List NsT} {to : Nat} : ∀ (n p : Nat) (left x : Int), rsZ L to n p = some x → x ≤ left → (chZ L to n p left).length = n
  | 0, p, left, x, _, _ => rfl
  | n + 1, p, left, x, h, hx => by
    obtain ⟨s, s1, s2, s3, r, s4, s5⟩ := fit_ex h hx
    unfold chZ
    rw [s1]
    show (chZ L to n _ _).length + 1 = n + 1
    rw [chZ_len n _ _ r s4 s5]
