/-! what is needed, and what is told -/
abbrev ItT : Type := Sum Int32 (List NsT)
abbrev NdT : Type := Nat → Nat → Bool
theorem chZ_mem {L : List NsT} {to : Nat} {s : NsT} : ∀ (n p : Nat) (left : Int), s ∈ chZ L to n p left → s ∈ L
  | 0, _, _, h => absurd h List.not_mem_nil
  | n + 1, p, left, h => by
    have h : s ∈ (match L.find? (fitB (rsZ L to n) p left) with | none => [] | some s => s :: chZ L to n s.2.2.1.toNatClampNeg (left - s.2.2.2.toInt)) := h
    cases hf : L.find? (fitB (rsZ L to n) p left) with
    | none => rw [hf] at h; exact absurd h List.not_mem_nil
    | some t =>
      rw [hf] at h
      rcases List.mem_cons.mp h with e | e
      · rw [e]; exact List.mem_of_find?_eq_some hf
      · exact chZ_mem n _ _ e
theorem fnZ_ok {L : List NsT} {fr to : Nat} {most : Int} {C : List NsT} : ∀ (k n : Nat), fnZ L fr to most k n = some C → (∀ s, s ∈ C → s ∈ L) ∧ n ≤ C.length ∧ C.length < n + k
  | 0, _, h => by cases h
  | k + 1, n, h => by
    have h : (if leZ (rsZ L to n fr) most = true then some (chZ L to n fr most) else fnZ L fr to most k (n + 1)) = some C := h
    by_cases g : leZ (rsZ L to n fr) most = true
    · rw [if_pos g] at h
      cases hr : rsZ L to n fr with
      | none => rw [hr] at g; cases g
      | some x =>
        rw [hr] at g
        have hx : x ≤ most := of_decide_eq_true g
        have hl := chZ_len n fr most x hr hx
        cases h
        exact ⟨fun s hs => chZ_mem n fr most hs, by omega, by omega⟩
    · rw [if_neg g] at h
      have := fnZ_ok k (n + 1) h
      exact ⟨this.1, by omega, by omega⟩
theorem fnR_ok {L : List NsT} {fr to : Nat} {most : Int} {C : List NsT} (h : fnR L fr to most = some C) : (∀ s, s ∈ C → s ∈ L) ∧ C.length ≤ 12 := by
  have := fnZ_ok 12 1 h
  exact ⟨this.1, by omega⟩
def st1 (f : Nat → Bool) (x : Nat) : Nat → Bool := fun k => if k = x then true else f k
def mk1 (o : Int32) (m : Nat) (f : Nat → Bool) : Nat → Bool := if m < 100 then st1 f m else if o = 4 then st1 (st1 f ((m - 100) / 100)) ((m - 100) % 100) else f
def mkR (o : Int32) (C : List NsT) (f : Nat → Bool) : Nat → Bool := C.foldl (fun f s => mk1 o s.1.toNatClampNeg f) f
def mkI (o : Int32) (R : List ItT) (f : Nat → Bool) : Nat → Bool := R.foldl (fun f r => match r with
  | .inl _ => f
  | .inr C => mkR o C f) f
def oneN (f : Nat → Bool) (k : Nat) : Nat := if f k = true then 1 else 0
def rkN (f : Nat → Bool) (m : Nat) : Nat := suN (oneN f) m
theorem rkN_le (f : Nat → Bool) : ∀ m, rkN f m ≤ m
  | 0 => Nat.le_refl 0
  | m + 1 => by
    have := rkN_le f m
    show rkN f m + oneN f m ≤ m + 1
    have : oneN f m ≤ 1 := by unfold oneN; by_cases g : f m = true; rw [if_pos g]; exact Nat.le_refl 1; rw [if_neg g]; exact Nat.zero_le 1
    omega
theorem rk_st {f : Nat → Bool} {x : Nat} : ∀ m, rkN (st1 f x) m = rkN f m + (if x < m then (if f x = true then 0 else 1) else 0)
  | 0 => by rw [if_neg (Nat.not_lt_zero x)]; rfl
  | m + 1 => by
    have ih := rk_st (f := f) (x := x) m
    show rkN (st1 f x) m + oneN (st1 f x) m = rkN f m + oneN f m + _
    rw [ih]
    by_cases e : m = x
    · subst e
      rw [if_neg (Nat.lt_irrefl m), if_pos (Nat.lt_succ_self m)]
      have : oneN (st1 f m) m = 1 := by unfold oneN st1; rw [if_pos rfl]; rfl
      rw [this]
      unfold oneN
      by_cases g : f m = true
      · rw [if_pos g, if_pos g]
      · rw [if_neg g, if_neg g]
    · have : oneN (st1 f x) m = oneN f m := by unfold oneN st1; rw [if_neg e]
      rw [this]
      by_cases g : x < m
      · rw [if_pos g, if_pos (show x < m + 1 by omega)]; omega
      · rw [if_neg g, if_neg (show ¬ x < m + 1 by omega)]; omega
def bvZ (o : Option Int64) : Int := match o with
  | none => 0
  | some w => w.toInt
def acL (B : Nat → Option Int64) : List NsT := apL true [] (plB B)
def acI (F : Flt) (B : Nat → Option Int64) (i : Nat) : Option (List ItT) := if acB (F.1 i) = true then
    (match fnR (acL B) 0 (1 + fB F i) (F.2.2.2.1 i).toInt with
    | none => none
    | some C => match fnR (acL B) (1 + fB F i) (atI (F.1 i)).toNatClampNeg (amL (F.1 i) (F.2.2.2.1 i)).toInt with
      | none => none
      | some D => some [.inr C, .inr D])
  else some []
def rsI (L : List NsT) (f : Nat → Bool) (B : Nat → Option Int64) : Nat → Nat → Option (List ItT)
  | 0, _ => some []
  | k + 1, j => if f j = true then
      (match fnR L (j / 10) (j % 10) (bvZ (B j)) with
      | none => none
      | some C => match rsI L f B k (j + 1) with
        | none => none
        | some R => some (.inr C :: R))
    else rsI L f B k (j + 1)
def egI (F : Flt) (s : BdT) (nd : NdT) (i : Nat) (j : Bool) : Option (List ItT) := if (edA F (s.2 i) i j).1 = true then
    (match rsI (edL F (s.2 i) i j) (nd (enN F i j)) (s.2 (enN F i j)) 100 0 with
    | none => none
    | some R => some (.inl 0 :: R))
  else (match rdZ (edL F (s.2 i) i j) 10 0 with
    | none => none
    | some r => some [.inl 1, .inl (Int32.ofNat r.1), .inr r.2])
def exI (F : Flt) (s : BdT) (nd : NdT) (i : Nat) : Nat → Nat → Option (List ItT)
  | 0, _ => some []
  | k + 1, e => match egI F s nd i (jB (F.1 i) (Int32.ofNat e)) with
    | none => none
    | some A => match exI F s nd i k (e + 1) with
      | none => none
      | some R => some (A ++ R)
def gvI (F : Flt) (s : BdT) (nd : NdT) (i : Nat) : Option (List ItT) := match acI F (s.2 i) i with
  | none => none
  | some A => match exI F s nd i (ecC (F.1 i)) 0 with
    | none => none
    | some R => some (A ++ R)
def udN (nd : NdT) (i : Nat) (f : Nat → Bool) : NdT := fun x => if x = i then f else nd x
def noN : Nat → Bool := fun _ => false
def ndS (F : Flt) (s : BdT) : Nat → NdT → Sum Nat NdT
  | 0, nd => .inr nd
  | i + 1, nd => if s.1 i = true then
      (match gvI F s nd i with
      | none => .inl i
      | some R => if rkN (mkI (F.1 i) R noN) 100 ≤ 24 then ndS F s i (udN nd i (mkI (F.1 i) R noN)) else .inl i)
    else ndS F s i (udN nd i noN)
/-- numbers of steps -/
def okN (o : Int32) (B : Nat → Option Int64) (s : NsT) : Prop := ∃ m, m < 20000 ∧ s.1 = Int32.ofNat m ∧ (m < 100 → (B m).isSome = true) ∧ (100 ≤ m → o = 4 → (m - 100) / 100 < 100 ∧ (B ((m - 100) / 100)).isSome = true ∧ (B ((m - 100) % 100)).isSome = true)
theorem ft_some {B : Nat → Option Int64} {k : Nat} {s : StT} (h : ftB B k = some s) : (B k).isSome = true := by
  unfold ftB at h
  cases hb : B k with
  | none => rw [hb] at h; cases h
  | some w => rfl
theorem ap_mem {A : List NsT} {s : NsT} (h : s ∈ apL true [] A) : s ∈ A := by
  have h : s ∈ [] ++ A.filter _ := h
  rw [List.nil_append, List.mem_filter] at h
  exact h.1
theorem ac_okN {o : Int32} {B : Nat → Option Int64} {s : NsT} (h : s ∈ acL B) : okN o B s := by
  obtain ⟨i, _, h2, h3⟩ := catL_mem 100 0 (ap_mem h)
  exact ⟨i, by omega, (onL_mem h3).1, fun _ => ft_some (onL_mem h3).2, fun g => by omega⟩
theorem sm_some {a q : Int32} {B : Nat → Option Int64} {x y : Nat} {r : StT} (h : smO a q B x y = some r) : (B x).isSome = true ∧ (B y).isSome = true := by
  unfold smO at h
  cases h1 : ftB B x with
  | none => rw [h1] at h; cases h
  | some t =>
    rw [h1] at h
    have h : (ftB B y).bind (fun z => suO a q t z) = some r := h
    cases h2 : ftB B y with
    | none => rw [h2] at h; cases h
    | some z => exact ⟨ft_some h1, ft_some h2⟩
theorem ed_okN {F : Flt} {B : Nat → Option Int64} {n i : Nat} {j : Bool} {s : NsT} (hF : fOk F n) (hi : i < n) (h : s ∈ edL F B i j) : okN (F.1 i) B s := by
  have h : s ∈ kpB (F.1 i) (F.2.1 i) (F.2.2.1 i) (F.2.2.2.1 i) B ++ fuL (F.1 i) (F.2.1 i) (F.2.2.1 i) (F.2.2.2.1 i) j 100 ++ (if F.1 i = 4 then suB (F.2.1 i) (F.2.2.1 i) B else []) := ap_mem h
  have hq : (F.2.2.1 i).toNatClampNeg < 8 := (hF.2.2.2 i hi).2.2.1.1
  rcases List.mem_append.mp h with h | h
  · rcases List.mem_append.mp h with h | h
    · obtain ⟨x, _, h2, h3⟩ := catL_mem 100 0 h
      refine ⟨x, by omega, (onL_mem h3).1, fun _ => ?_, fun g => by omega⟩
      have h4 := (onL_mem h3).2
      cases hf : ftB B x with
      | none => rw [hf] at h4; cases h4
      | some t => exact ft_some hf
    · have n4 : ¬ F.1 i = 4 := fun z => by rw [z, fuL_4] at h; exact absurd h List.not_mem_nil
      rcases List.mem_append.mp h with h | h
      · exact ⟨100, by decide, (onL_mem h).1, fun g => by omega, fun _ z => absurd z n4⟩
      · exact ⟨101, by decide, (onL_mem h).1, fun g => by omega, fun _ z => absurd z n4⟩
  · by_cases g : F.1 i = 4
    · rw [if_pos g] at h
      obtain ⟨x, _, h2, h3⟩ := catL_mem 100 0 h
      rcases List.mem_append.mp h3 with h3 | h3
      · obtain ⟨s1, s2⟩ := sm_some (onL_mem h3).2
        refine ⟨_, by omega, (onL_mem h3).1, fun g => by omega, fun _ _ => ?_⟩
        rw [show (100 + 100 * x + (10 + 10 * (F.2.2.1 i).toNatClampNeg) - 100) / 100 = x by omega, show (100 + 100 * x + (10 + 10 * (F.2.2.1 i).toNatClampNeg) - 100) % 100 = 10 + 10 * (F.2.2.1 i).toNatClampNeg by omega]
        exact ⟨by omega, s1, s2⟩
      · obtain ⟨s1, s2⟩ := sm_some (onL_mem h3).2
        refine ⟨_, by omega, (onL_mem h3).1, fun g => by omega, fun _ _ => ?_⟩
        rw [show (100 + 100 * x + (1 + (F.2.2.1 i).toNatClampNeg) - 100) / 100 = x by omega, show (100 + 100 * x + (1 + (F.2.2.1 i).toNatClampNeg) - 100) % 100 = 1 + (F.2.2.1 i).toNatClampNeg by omega]
        exact ⟨by omega, s1, s2⟩
    · rw [if_neg g] at h; exact absurd h List.not_mem_nil
/-- what is needed has a bound -/
def ndOk (f : Nat → Bool) (B : Nat → Option Int64) : Prop := ∀ k, f k = true → k < 100 ∧ (B k).isSome = true
theorem st_ndOk {f : Nat → Bool} {B : Nat → Option Int64} {x : Nat} (h : ndOk f B) (hx : x < 100) (hb : (B x).isSome = true) : ndOk (st1 f x) B := fun k hk => by
  unfold st1 at hk
  by_cases e : k = x
  · rw [e]; exact ⟨hx, hb⟩
  · rw [if_neg e] at hk; exact h k hk
theorem mk1_ok {o : Int32} {B : Nat → Option Int64} {s : NsT} {f : Nat → Bool} (hs : okN o B s) (h : ndOk f B) : ndOk (mk1 o s.1.toNatClampNeg f) B := by
  obtain ⟨m, m1, m2, m3, m4⟩ := hs
  rw [m2, xn_c (by omega)]
  unfold mk1
  by_cases g : m < 100
  · rw [if_pos g]; exact st_ndOk h g (m3 g)
  · rw [if_neg g]
    by_cases g4 : o = 4
    · rw [if_pos g4]
      obtain ⟨p1, p2, p3⟩ := m4 (by omega) g4
      exact st_ndOk (st_ndOk h p1 p2) (by omega) p3
    · rw [if_neg g4]; exact h
theorem mkR_ok {o : Int32} {B : Nat → Option Int64} : ∀ (C : List NsT) (f : Nat → Bool), (∀ s, s ∈ C → okN o B s) → ndOk f B → ndOk (mkR o C f) B
  | [], _, _, h => h
  | s :: C, f, hC, h => mkR_ok C _ (fun t ht => hC t (List.mem_cons_of_mem _ ht)) (mk1_ok (hC s List.mem_cons_self) h)
/-- items that are in order -/
def itOk (K : NsT → Prop) (R : List ItT) : Prop := ∀ C, Sum.inr C ∈ R → C.length ≤ 12 ∧ ∀ s, s ∈ C → K s
theorem mkI_ok {o : Int32} {B : Nat → Option Int64} : ∀ (R : List ItT) (f : Nat → Bool), itOk (okN o B) R → ndOk f B → ndOk (mkI o R f) B
  | [], _, _, h => h
  | .inl v :: R, f, hR, h => mkI_ok R f (fun C hC => hR C (List.mem_cons_of_mem _ hC)) h
  | .inr C :: R, f, hR, h => mkI_ok R _ (fun C hC => hR C (List.mem_cons_of_mem _ hC)) (mkR_ok C f (hR C List.mem_cons_self).2 h)
theorem itOk_app {K : NsT → Prop} {R S : List ItT} (h : itOk K R) (g : itOk K S) : itOk K (R ++ S) := fun C hC => (List.mem_append.mp hC).elim (h C) (g C)
theorem rsI_ok {K : NsT → Prop} {L : List NsT} {f : Nat → Bool} {B : Nat → Option Int64} (hK : ∀ s, s ∈ L → K s) : ∀ (k j : Nat) (R : List ItT), rsI L f B k j = some R → itOk K R
  | 0, _, R, h => by
    cases h
    exact fun C hC => absurd hC List.not_mem_nil
  | k + 1, j, R, h => by
    unfold rsI at h
    by_cases g : f j = true
    · rw [if_pos g] at h
      cases h1 : fnR L (j / 10) (j % 10) (bvZ (B j)) with
      | none => rw [h1] at h; cases h
      | some C =>
        rw [h1] at h
        cases h2 : rsI L f B k (j + 1) with
        | none => rw [h2] at h; cases h
        | some R' =>
          rw [h2] at h
          cases h
          have c1 := fnR_ok h1
          intro D hD
          rcases List.mem_cons.mp hD with e | e
          · cases e; exact ⟨c1.2, fun s hs => hK s (c1.1 s hs)⟩
          · exact rsI_ok hK k (j + 1) R' h2 D e
    · rw [if_neg g] at h; exact rsI_ok hK k (j + 1) R h
theorem rdZ_ok {L : List NsT} {r : Nat × List NsT} : ∀ (k x : Nat), rdZ L k x = some r → r.1 < x + k ∧ (∀ s, s ∈ r.2 → s ∈ L) ∧ r.2.length ≤ 12
  | 0, _, h => by cases h
  | k + 1, x, h => by
    unfold rdZ at h
    cases h1 : fnR L x x (-1) with
    | none =>
      rw [h1] at h
      have := rdZ_ok k (x + 1) h
      exact ⟨by omega, this.2⟩
    | some C =>
      rw [h1] at h
      cases h
      have c1 := fnR_ok h1
      exact ⟨by show x < _; omega, c1.1, c1.2⟩
theorem egI_ok {F : Flt} {s : BdT} {nd : NdT} {n i : Nat} {j : Bool} {R : List ItT} (hF : fOk F n) (hi : i < n) (h : egI F s nd i j = some R) : itOk (okN (F.1 i) (s.2 i)) R := by
  unfold egI at h
  by_cases g : (edA F (s.2 i) i j).1 = true
  · rw [if_pos g] at h
    cases h1 : rsI (edL F (s.2 i) i j) (nd (enN F i j)) (s.2 (enN F i j)) 100 0 with
    | none => rw [h1] at h; cases h
    | some A =>
      rw [h1] at h
      cases h
      have := rsI_ok (K := okN (F.1 i) (s.2 i)) (fun s hs => ed_okN hF hi hs) 100 0 A h1
      intro C hC
      rcases List.mem_cons.mp hC with e | e
      · cases e
      · exact this C e
  · rw [if_neg g] at h
    cases h1 : rdZ (edL F (s.2 i) i j) 10 0 with
    | none => rw [h1] at h; cases h
    | some r =>
      rw [h1] at h
      cases h
      have := rdZ_ok 10 0 h1
      intro C hC
      rcases List.mem_cons.mp hC with e | e
      · cases e
      · rcases List.mem_cons.mp e with e | e
        · cases e
        · rw [List.mem_singleton] at e
          cases e
          exact ⟨this.2.2, fun s hs => ed_okN hF hi (this.2.1 s hs)⟩
theorem exI_ok {F : Flt} {s : BdT} {nd : NdT} {n i : Nat} (hF : fOk F n) (hi : i < n) : ∀ (k e : Nat) (R : List ItT), exI F s nd i k e = some R → itOk (okN (F.1 i) (s.2 i)) R
  | 0, _, R, h => by cases h; exact fun C hC => absurd hC List.not_mem_nil
  | k + 1, e, R, h => by
    unfold exI at h
    cases h1 : egI F s nd i (jB (F.1 i) (Int32.ofNat e)) with
    | none => rw [h1] at h; cases h
    | some A =>
      rw [h1] at h
      cases h2 : exI F s nd i k (e + 1) with
      | none => rw [h2] at h; cases h
      | some R' =>
        rw [h2] at h
        cases h
        exact itOk_app (egI_ok hF hi h1) (exI_ok hF hi k (e + 1) R' h2)
theorem acI_ok {F : Flt} {B : Nat → Option Int64} {i : Nat} {R : List ItT} (h : acI F B i = some R) : itOk (okN (F.1 i) B) R := by
  unfold acI at h
  by_cases g : acB (F.1 i) = true
  · rw [if_pos g] at h
    cases h1 : fnR (acL B) 0 (1 + fB F i) (F.2.2.2.1 i).toInt with
    | none => rw [h1] at h; cases h
    | some C =>
      rw [h1] at h
      cases h2 : fnR (acL B) (1 + fB F i) (atI (F.1 i)).toNatClampNeg (amL (F.1 i) (F.2.2.2.1 i)).toInt with
      | none => rw [h2] at h; cases h
      | some D =>
        rw [h2] at h
        cases h
        have c1 := fnR_ok h1
        have c2 := fnR_ok h2
        intro G hG
        rcases List.mem_cons.mp hG with e | e
        · cases e; exact ⟨c1.2, fun s hs => ac_okN (c1.1 s hs)⟩
        · rw [List.mem_singleton] at e
          cases e; exact ⟨c2.2, fun s hs => ac_okN (c2.1 s hs)⟩
  · rw [if_neg g] at h
    cases h
    exact fun C hC => absurd hC List.not_mem_nil
theorem gvI_ok {F : Flt} {s : BdT} {nd : NdT} {n i : Nat} {R : List ItT} (hF : fOk F n) (hi : i < n) (h : gvI F s nd i = some R) : itOk (okN (F.1 i) (s.2 i)) R := by
  unfold gvI at h
  cases h1 : acI F (s.2 i) i with
  | none => rw [h1] at h; cases h
  | some A =>
    rw [h1] at h
    cases h2 : exI F s nd i (ecC (F.1 i)) 0 with
    | none => rw [h2] at h; cases h
    | some R' =>
      rw [h2] at h
      cases h
      exact itOk_app (acI_ok h1) (exI_ok hF hi _ _ R' h2)
/-- only later needs count -/
theorem exI_cg {F : Flt} {s : BdT} {nd nd' : NdT} {n i : Nat} (hF : fOk F n) (hi : i < n) (h : ∀ e, i < e → nd' e = nd e) : ∀ (k e : Nat), e + k ≤ ecC (F.1 i) → exI F s nd' i k e = exI F s nd i k e
  | 0, _, _ => rfl
  | k + 1, e, he => by
    unfold exI egI
    rw [exI_cg hF hi h k (e + 1) (by omega), h _ (en_gt hF hi (show e < ecC (F.1 i) by omega)).1]
theorem gvI_cg {F : Flt} {s : BdT} {nd nd' : NdT} {n i : Nat} (hF : fOk F n) (hi : i < n) (h : ∀ e, i < e → nd' e = nd e) : gvI F s nd' i = gvI F s nd i := by
  unfold gvI
  rw [exI_cg hF hi h _ _ (by omega)]
/-- behind the needs -/
def ndF (F : Flt) (s : BdT) (nd : NdT) (i : Nat) : Prop := (s.1 i = true → ∃ R, gvI F s nd i = some R ∧ nd i = mkI (F.1 i) R noN ∧ rkN (nd i) 100 ≤ 24) ∧ (¬ s.1 i = true → nd i = noN)
theorem ndS_keep {F : Flt} {s : BdT} {n : Nat} (hF : fOk F n) : ∀ (i : Nat) (nd ndE : NdT), i ≤ n → ndS F s i nd = .inr ndE → (∀ x, i ≤ x → ndE x = nd x) ∧ ∀ x, x < i → ndF F s ndE x
  | 0, nd, ndE, _, h => by cases h; exact ⟨fun _ _ => rfl, fun x hx => absurd hx (Nat.not_lt_zero x)⟩
  | i + 1, nd, ndE, hi, h => by
    unfold ndS at h
    have key : ∀ f, ndS F s i (udN nd i f) = .inr ndE → (∀ x, i + 1 ≤ x → ndE x = nd x) ∧ ndE i = f ∧ ∀ x, x < i → ndF F s ndE x := fun f hf => by
      have ih := ndS_keep hF i (udN nd i f) ndE (by omega) hf
      exact ⟨fun x hx => (ih.1 x (by omega)).trans (if_neg (by omega)), (ih.1 i (Nat.le_refl i)).trans (if_pos rfl), ih.2⟩
    by_cases g : s.1 i = true
    · rw [if_pos g] at h
      cases h1 : gvI F s nd i with
      | none => rw [h1] at h; cases h
      | some R =>
        rw [h1] at h
        have h : (if rkN (mkI (F.1 i) R noN) 100 ≤ 24 then ndS F s i (udN nd i (mkI (F.1 i) R noN)) else .inl i) = .inr ndE := h
        by_cases g2 : rkN (mkI (F.1 i) R noN) 100 ≤ 24
        · rw [if_pos g2] at h
          obtain ⟨k1, k2, k3⟩ := key _ h
          refine ⟨k1, fun x hx => ?_⟩
          by_cases e : x = i
          · rw [e]
            refine ⟨fun _ => ⟨R, ?_, k2, by rw [k2]; exact g2⟩, fun z => absurd g z⟩
            rw [gvI_cg hF (show i < n by omega) (fun x hx => k1 x hx)]; exact h1
          · exact k3 x (by omega)
        · rw [if_neg g2] at h; cases h
    · rw [if_neg g] at h
      obtain ⟨k1, k2, k3⟩ := key _ h
      refine ⟨k1, fun x hx => ?_⟩
      by_cases e : x = i
      · rw [e]; exact ⟨fun z => absurd z g, fun _ => k2⟩
      · exact k3 x (by omega)
theorem noN_ok {B : Nat → Option Int64} : ndOk noN B := fun k h => by cases h
theorem ndF_ok {F : Flt} {s : BdT} {nd : NdT} {n i : Nat} (hF : fOk F n) (hi : i < n) (h : ndF F s nd i) : ndOk (nd i) (s.2 i) := by
  by_cases g : s.1 i = true
  · obtain ⟨R, r1, r2, _⟩ := h.1 g
    rw [r2]
    exact mkI_ok R noN (gvI_ok hF hi r1) noN_ok
  · rw [h.2 g]; exact noN_ok
