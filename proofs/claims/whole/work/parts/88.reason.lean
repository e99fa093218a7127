/-! a number's step, and a reason -/
def ftT (T : Nat → Int32) (f k : Nat) : StT := (T (f + 3 * k), T (f + 3 * k + 1), Int32.toInt64 (T (f + 3 * k + 2)))
def fsP (T : Nat → Int32) (f m : Nat) (x : Int32) : Option StT := if x < 0 then none else if x < Int32.ofNat m then some (ftT T f x.toNatClampNeg) else none
def fsU (a q : Int32) (T : Nat → Int32) (f m y : Nat) : Option StT := if m = 0 then none else if y / m < m then suO a q (ftT T f (y / m)) (ftT T f (y % m)) else none
def fsE (o a q k : Int32) (jump : Bool) (T : Nat → Int32) (f m : Nat) (x : Int32) : Option StT :=
  if Int32.ofNat m ≤ x then (if o = 4 then fsU a q T f m (x - Int32.ofNat m).toNatClampNeg else fuO o a q k jump (x - Int32.ofNat m))
  else if x < 0 then none else caO o a q k (ftT T f x.toNatClampNeg)
def jB (o e : Int32) : Bool := decide (o = 13) || (!decide (o < 14) && decide (e = 1))
theorem ix3 (f y : Nat) : Int32.ofNat f + (3 : Int32) * Int32.ofNat y = Int32.ofNat (f + 3 * y) := by rw [Int32.ofNat_add, Int32.ofNat_mul]; rfl
theorem ix1 (f : Nat) : Int32.ofNat f + (1 : Int32) = Int32.ofNat (f + 1) := (Int32.ofNat_add f 1).symm
theorem ix2 (f : Nat) : Int32.ofNat f + (2 : Int32) = Int32.ofNat (f + 2) := (Int32.ofNat_add f 2).symm
theorem i32_of {x : Int32} (h : ¬ x < 0) : x = Int32.ofNat x.toNatClampNeg := by
  have : 0 ≤ x.toInt := by
    rw [Int32.lt_iff_toInt_lt, show (0 : Int32).toInt = 0 by decide] at h; omega
  have := i32_rng x
  refine Int32.toInt_inj.mp ?_
  have e : x.toNatClampNeg = x.toInt.toNat := rfl
  rw [toInt_of rfl (by omega), e]; omega
theorem i32_lt {x : Int32} {m : Nat} (hm : m < 2 ^ 31) (h : ¬ x < 0) : x < Int32.ofNat m ↔ x.toNatClampNeg < m := by
  have e : x.toNatClampNeg = x.toInt.toNat := rfl
  rw [Int32.lt_iff_toInt_lt, show (0 : Int32).toInt = 0 by decide] at h
  rw [Int32.lt_iff_toInt_lt, toInt_of rfl hm, e]; omega
theorem i32_div {y m : Nat} (hy : y < 2 ^ 31) (hm : m < 2 ^ 31) : Int32.ofNat y / Int32.ofNat m = Int32.ofNat (y / m) := by
  have hne : Int32.ofNat m ≠ -1 := fun q => by
    have := congrArg Int32.toInt q
    rw [toInt_of rfl hm, show (-1 : Int32).toInt = -1 by decide] at this
    omega
  have : y / m ≤ y := Nat.div_le_self _ _
  refine Int32.toInt_inj.mp ?_
  rw [Int32.toInt_div_of_ne_right _ _ hne, toInt_of rfl hy, toInt_of rfl hm, toInt_of rfl (by omega)]
  exact (Int.ofNat_tdiv y m).symm
theorem i32_mod {y m : Nat} (hy : y < 2 ^ 31) (hm : m < 2 ^ 31) : Int32.ofNat y - Int32.ofNat y / Int32.ofNat m * Int32.ofNat m = Int32.ofNat (y % m) := by
  rw [i32_div hy hm, ← Int32.ofNat_mul]
  have e : Int32.ofNat y = Int32.ofNat (y % m) + Int32.ofNat (y / m * m) := by
    rw [← Int32.ofNat_add]; congr 1; have := Nat.mod_add_div y m; rw [Nat.mul_comm]; exact this.symm
  rw [e]
  exact Int32.add_sub_cancel _ _
def smT (b : Nat) (M N : xm_M) : Prop := (∀ x k, ¬ (b + 148 ≤ x ∧ x ≤ b + 150) → xm_gi N x k = xm_gi M x k) ∧ ∀ x k, ¬ (b + 148 ≤ x ∧ x ≤ b + 150) → xm_gl N x k = xm_gl M x k
theorem smT.rf {b : Nat} {M : xm_M} : smT b M M := ⟨fun _ _ _ => rfl, fun _ _ _ => rfl⟩
theorem smT.tr {b : Nat} {M N P : xm_M} (h : smT b M N) (g : smT b N P) : smT b M P := ⟨fun x k q => (g.1 x k q).trans (h.1 x k q), fun x k q => (g.2 x k q).trans (h.2 x k q)⟩
theorem smT.r {b : Nat} {M N : xm_M} (h : smT b M N) : smR b M N := ⟨fun x k q => h.1 x k (by omega), fun x k q => h.2 x k (by omega)⟩
theorem smS.t {b a : Nat} {M N : xm_M} (h : smS a M N) (ha : b + 148 ≤ a ∧ a ≤ b + 150) : smT b M N := ⟨fun x k q => h.1 x k (by omega), fun x k q => h.2 x k (by omega)⟩
def PfT (b : Nat) (p : Bool) (Q : Option Value → xm_M → Prop) (M : xm_M) (o : Option StT) : Prop := ∀ M1, smT b M M1 → (∀ s, o = some s → stAt M1 (b + 148) = s) → xm_st b true p M1 → Q (some (.int (xz o.isSome))) M1
/-- how a function from numbers to steps lies in the memory -/
def FsO (b : Nat) (M : xm_M) (T : Nat → Int32) (sz : Nat) (v1 v2 : Int32) (fs : Int32 → Option StT) : Prop :=
  (v1 = -1 ∧ ∀ x, fs x = begO x (xm_gi M (b + 1) 0)) ∨
  ∃ i f m : Nat, i < 48 ∧ m ≤ 24 ∧ f + 3 * m ≤ sz ∧ v1 = Int32.ofNat i ∧ xm_gi M (b + 146) i = Int32.ofNat m ∧ xm_gi M (b + 147) i = Int32.ofNat f ∧
    ((v2 = -1 ∧ ∀ x, fs x = fsP T f m x) ∨ (¬ v2 = -1 ∧ ∀ x, fs x = fsE (xm_gi M (b + 3 + i) 0) (xm_gi M (b + 3 + i) 1) (xm_gi M (b + 3 + i) 2) (xm_gi M (b + 3 + i) 3) (jB (xm_gi M (b + 3 + i) 0) v2) T f m x))
theorem FsO.fr {b sz : Nat} {M N : xm_M} {T : Nat → Int32} {v1 v2 : Int32} {fs : Int32 → Option StT} (h : FsO b M T sz v1 v2 fs) (s : smR b M N) : FsO b N T sz v1 v2 fs := by
  rcases h with ⟨h1, h2⟩ | ⟨i, f, m, h1, h2, h3, h4, h5, h6, h7⟩
  · exact Or.inl ⟨h1, fun x => by rw [s.1 _ _ (by omega)]; exact h2 x⟩
  · refine Or.inr ⟨i, f, m, h1, h2, h3, h4, by rw [s.1 _ _ (by omega)]; exact h5, by rw [s.1 _ _ (by omega)]; exact h6, ?_⟩
    rw [s.1 _ _ (by omega), s.1 _ _ (by omega), s.1 _ _ (by omega), s.1 _ _ (by omega)]
    exact h7
def rrL (fs : Int32 → Option StT) (T : Nat → Int32) (sz : Nat) (to : Int32) (most : Int64) (head : Nat) : Nat → Nat → Int32 → Int64 → Except FpT Nat
  | 0, u, _, sum => if sum ≤ most then .ok u else .error (6, Int32.ofNat head)
  | k + 1, u, pt, sum => match rdA T sz u with
    | .error e => .error e
    | .ok (x, v) => match fs x with
      | none => .error (4, Int32.ofNat u)
      | some s => if s.1 = pt ∧ (¬ k = 0 ∨ s.2.1 = to) then rrL fs T sz to most head k v s.2.1 (sum + s.2.2) else .error (5, Int32.ofNat u)
def rrS (fs : Int32 → Option StT) (T : Nat → Int32) (sz : Nat) (fr to : Int32) (most : Int64) (u : Nat) : Except FpT Nat := match rdW T sz 1 12 u with
  | .error e => .error e
  | .ok (x, v) => rrL fs T sz to most u x.toNatClampNeg v fr 0
theorem rrL_ok {fs : Int32 → Option StT} {T : Nat → Int32} {sz head : Nat} {to : Int32} {most : Int64} : ∀ (k u : Nat) (pt : Int32) (sum : Int64) (v : Nat), u ≤ sz → rrL fs T sz to most head k u pt sum = .ok v → v ≤ sz
  | 0, u, pt, sum, v, hu, h => by
    unfold rrL at h
    by_cases g : sum ≤ most
    · rw [if_pos g] at h; cases h; exact hu
    · rw [if_neg g] at h; cases h
  | k + 1, u, pt, sum, v, hu, h => by
    unfold rrL at h
    cases h1 : rdA T sz u with
    | error e => rw [h1] at h; cases h
    | ok r =>
      rw [h1] at h
      simp only at h
      cases h2 : fs r.1 with
      | none => rw [h2] at h; cases h
      | some s =>
        rw [h2] at h
        simp only at h
        by_cases g : s.1 = pt ∧ (¬ k = 0 ∨ s.2.1 = to)
        · rw [if_pos g] at h
          obtain ⟨g1, g2⟩ := rdA_ok h1
          exact rrL_ok k _ _ _ v (by rw [g2]; show u + 1 ≤ sz; omega) h
        · rw [if_neg g] at h; cases h
theorem rrS_ok {fs : Int32 → Option StT} {T : Nat → Int32} {sz u v : Nat} {fr to : Int32} {most : Int64} (h : rrS fs T sz fr to most u = .ok v) : v ≤ sz := by
  unfold rrS at h
  cases h1 : rdW T sz 1 12 u with
  | error e => rw [h1] at h; cases h
  | ok r =>
    rw [h1] at h
    obtain ⟨g1, g2, _⟩ := rdW_ok h1
    exact rrL_ok _ _ _ _ v (by rw [g2]; show u + 1 ≤ sz; omega) h
section RS
variable {l : Launch} {E : xm_E} {b : Nat} {c p : Bool} {Q : Option Value → xm_M → Prop} {M : xm_M} {T : Nat → Int32} {sz : Nat}
theorem s9_findFact {a1 i f m : Nat} {x : Int32} (ha : xS b a1 = some (.inr 7)) (hi : i < 48) (hm : m ≤ 24) (hf : f + 3 * m ≤ sz) (e1 : xm_gi M (b + 146) i = Int32.ofNat m) (e2 : xm_gi M (b + 147) i = Int32.ofNat f) (hT : tpX b M T sz) (hS : xm_st b true p M) (h : PfS b true p Q M a1 (fsP T f m x)) : xm_C l E y9_findFact rm9_findFact [.ref (b + 145), .ref a1, .int (Int32.ofNat i), .int x] M Q := by
  have hz := hT.1
  have ii : vp_in (Int32.ofNat i) 48 := xn_in hi (by decide)
  have no : fsP T f m x = none → xm_st b true p M → Q (some (.int 0)) M := fun e hS => by rw [e] at h; exact h M smS.rf (fun s e => by cases e) hS
  refine xm_enter (by decide) (Nat.le_of_ble_eq_true rfl) (t9_findFact_0 (c := true) M a1 _ x ha hS ⟨fun g => no (if_pos g), fun g => ⟨ii, ?_⟩⟩)
  rw [xn_c (by omega), e1, e2]
  refine ⟨fun g2 => ⟨ii, ?_⟩, fun g2 => no ((if_neg g).trans (if_neg g2))⟩
  have ex := i32_of g
  have hx := (i32_lt (by omega) g).mp g2
  rw [show fsP T f m x = some (ftT T f x.toNatClampNeg) from (if_neg g).trans (if_pos g2)] at h
  generalize x.toNatClampNeg = y at ex hx h
  rw [ex, ix3, ix1, ix2]
  exact s3_get hT (by omega) hS (fun hS => ⟨_, rfl, hS, s3_get hT (by omega) hS (fun hS => ⟨_, rfl, hS, s3_get hT (by omega) hS (fun hS => ⟨_, rfl, hS, s7_become ha hS (pf_on h)⟩)⟩)⟩)
theorem s2_jumpsBy {a : Nat} {e : Int32} (ha : xS b a = some (.inr 2)) (hS : xm_st b c p M) (h : xm_st b c p M → Q (some (.int (xz (jB (xm_gi M a 0) e)))) M) : xm_C l E y2_jumpsBy rm2_jumpsBy [.ref a, .int e] M Q := by
  refine xm_enter (by decide) (Nat.le_of_ble_eq_true rfl) (t2_jumpsBy_0 M a e ha hS ⟨fun g => ?_, fun g => ⟨fun g2 => ?_, fun g2 => ⟨fun g3 => ?_, fun g3 => ?_⟩⟩⟩)
  · rw [show jB (xm_gi M a 0) e = true by simp [jB, g]] at h; exact h
  · rw [show jB (xm_gi M a 0) e = false by simp [jB, g, g2]] at h; exact h
  · rw [show jB (xm_gi M a 0) e = false by simp [jB, g, g3]] at h; exact h
  · rw [show jB (xm_gi M a 0) e = true by simp [jB, g2, g3]] at h; exact h
theorem pf_t {o : Option StT} (h : PfT b p Q M o) : PfS b true p Q M (b + 148) o := fun M1 s1 e hS => h M1 (s1.t (by omega)) e hS
theorem s9_findStep {v1 v2 x : Int32} {fs : Int32 → Option StT} (hF : FsO b M T sz v1 v2 fs) (hT : tpX b M T sz) (hS : xm_st b true p M) (h : PfT b p Q M (fs x)) : xm_C l E y9_findStep rm9_findStep [.ref (b + 145), .int v1, .int v2, .int x] M Q := by
  have hz := hT.1
  refine xm_enter (by decide) (Nat.le_of_ble_eq_true rfl) (t9_findStep_0 (c := true) M v1 v2 x hS ?_)
  rcases hF with ⟨h1, h2⟩ | ⟨i, f, m, hi, hm, hf, h4, h5, h6, h7⟩
  · rw [h2 x] at h
    exact ⟨fun q => absurd h1 q, fun _ => s7_becomeBeginning (sh_148 b) hS (pf_on (pf_t h))⟩
  have ii : vp_in (Int32.ofNat i) 48 := xn_in hi (by decide)
  have hsh : xS b (b + 3 + i) = some (.inr 2) := shf_2 hi
  subst h4
  have hn1 : ¬ Int32.ofNat i = -1 := fun q => by
    have := congrArg Int32.toInt q
    rw [toInt_of rfl (by omega), show (-1 : Int32).toInt = -1 by decide] at this
    omega
  refine ⟨fun _ => ⟨ii, ii, ?_⟩, fun q => absurd q hn1⟩
  rw [xn_c (by omega), h5]
  have no : fs x = none → xm_st b true p M → Q (some (.int 0)) M := fun e hS => by rw [e] at h; exact h M smT.rf (fun s e => by cases e) hS
  refine ⟨fun g => ⟨fun g2 => ?_, fun g2 => ?_⟩, fun g => ?_⟩
  · rcases h7 with ⟨h7, _⟩ | ⟨_, h8⟩
    · exact absurd h7 g2
    have h8 := h8 x
    unfold fsE at h8
    rw [if_pos g] at h8
    refine ⟨fun g4 => ?_, fun g4 => ?_⟩
    · rw [if_pos g4] at h8
      unfold fsU at h8
      refine ⟨fun g5 => ?_, fun g5 => ?_⟩
      · have g5 := (cl_le (j := 0) (by decide)).mp g5
        rw [xn_c (by omega)] at g5
        exact no (by rw [h8, if_pos (by omega)])
      · have g5 : ¬ m = 0 := fun q => g5 (by rw [q]; decide)
        rw [if_neg g5] at h8
        have hnz : ¬ Int32.ofNat m = 0 := fun q => by
          have := congrArg Int32.toInt q
          rw [toInt_of rfl (by omega), show (0 : Int32).toInt = 0 by decide] at this
          omega
        have hx0 : ¬ x - Int32.ofNat m < 0 := by
          have r := i32_rng x
          rw [Int32.le_iff_toInt_le, toInt_of rfl (by omega)] at g
          rw [Int32.lt_iff_toInt_lt, i32_sub _ _ (by rw [toInt_of rfl (by omega)]; omega), toInt_of rfl (by omega), show (0 : Int32).toInt = 0 by decide]
          omega
        have ey := i32_of hx0
        have hy : (x - Int32.ofNat m).toNatClampNeg < 2 ^ 31 := by
          have r := i32_rng (x - Int32.ofNat m)
          show (x - Int32.ofNat m).toInt.toNat < _
          omega
        generalize (x - Int32.ofNat m).toNatClampNeg = y at ey hy h8
        rw [ey, i32_mod hy (by omega), i32_div hy (by omega)]
        have lt2 : y % m < m := Nat.mod_lt _ (by omega)
        have hd : y / m ≤ y := Nat.div_le_self _ _
        have pP : ∀ z, z < 2 ^ 31 → fsP T f m (Int32.ofNat z) = if z < m then some (ftT T f z) else none := fun z hz => by
          unfold fsP
          rw [if_neg (show ¬ Int32.ofNat z < 0 from fun q => absurd ((xn_lt (b := 0) hz (by decide)).mp q) (by omega)), xn_c hz]
          by_cases e : z < m
          · rw [if_pos ((xn_lt hz (by omega)).mpr e), if_pos e]
          · rw [if_neg (fun q => e ((xn_lt hz (by omega)).mp q)), if_neg e]
        refine ⟨hnz, s9_findFact (sh_149 b) hi hm hf h5 h6 hT hS (fun M1 s1 a1 hS => ⟨_, rfl, hS, fun q hS => ?_, fun q => ⟨hnz, ?_⟩⟩)⟩
        · rw [pP _ (by omega)] at q
          have q := xz_0.mp q
          by_cases e : y / m < m
          · rw [if_pos e] at q; cases q
          · rw [h8, if_neg e] at h
            exact h M1 (s1.t (by omega)) (fun s e => by cases e) hS
        · rw [pP _ (by omega)] at q a1
          have q := xz_ne q
          by_cases e : y / m < m
          · rw [if_pos e] at a1 h8
            have a1 := a1 _ rfl
            have s1t : smT b M M1 := s1.t (by omega)
            have s1r := s1t.r
            refine s9_findFact (sh_150 b) hi hm hf (by rw [s1r.1 _ _ (by omega)]; exact h5) (by rw [s1r.1 _ _ (by omega)]; exact h6) (hT.fr s1r) hS (fun M2 s2 a2 hS => ⟨_, rfl, hS, fun q => ?_, fun q => ?_⟩)
            · rw [pP _ (by omega), if_pos lt2] at q
              cases xz_0.mp q
            · rw [pP _ (by omega), if_pos lt2] at a2
              have a2 := a2 _ rfl
              have s2t : smT b M1 M2 := s2.t (by omega)
              have e9 : stAt M2 (b + 149) = ftT T f (y / m) := by
                rw [← a1]
                unfold stAt
                rw [s2.1 _ _ (by omega), s2.1 _ _ (by omega), s2.2 _ _ (by omega)]
              refine s7_becomeSum (sh_148 b) hsh (sh_149 b) (sh_150 b) hS (pf_if ?_)
              rw [e9, a2, (s1t.tr s2t).1 _ _ (by omega), (s1t.tr s2t).1 _ _ (by omega), ← h8]
              exact fun M3 s3 e hS => h M3 ((s1t.tr s2t).tr (s3.t (by omega))) e hS
          · rw [if_neg e] at q; cases q
    · rw [if_neg g4] at h8
      refine s2_jumpsBy hsh hS (fun hS => ⟨_, rfl, hS, s7_becomeFurther (sh_148 b) hsh hS (pf_on ?_)⟩)
      rw [← h8]
      exact pf_t h
  · rcases h7 with ⟨_, h8⟩ | ⟨h7, _⟩
    · refine no ?_
      rw [h8 x]
      unfold fsP
      rw [if_neg (fun q => ?_), if_neg (fun q => ?_)]
      · rw [Int32.lt_iff_toInt_lt] at q; rw [Int32.le_iff_toInt_le] at g; omega
      · rw [Int32.lt_iff_toInt_lt, show (0 : Int32).toInt = 0 by decide] at q; rw [Int32.le_iff_toInt_le, toInt_of rfl (by omega)] at g; omega
    · exact absurd g2 h7
  · have gx : x < Int32.ofNat m := by
      rw [Int32.le_iff_toInt_le] at g; rw [Int32.lt_iff_toInt_lt]; omega
    refine s9_findFact (sh_148 b) hi hm hf h5 h6 hT hS (fun M1 s1 a1 hS => ⟨_, rfl, hS, fun q hS => ?_, fun q => ?_⟩)
    · have q := xz_0.mp q
      have hx0 : x < 0 := Decidable.byContradiction fun g0 => by
        unfold fsP at q
        rw [if_neg g0, if_pos gx] at q
        cases q
      have : fs x = none := by
        rcases h7 with ⟨_, h8⟩ | ⟨_, h8⟩
        · rw [h8 x]; exact if_pos hx0
        · rw [h8 x]; unfold fsE; rw [if_neg g, if_pos hx0]
      rw [this] at h
      exact h M1 (s1.t (by omega)) (fun s e => by cases e) hS
    · have q := xz_ne q
      have hx0 : ¬ x < 0 := fun g0 => by
        unfold fsP at q
        rw [if_pos g0] at q
        cases q
      have e1 : fsP T f m x = some (ftT T f x.toNatClampNeg) := (if_neg hx0).trans (if_pos gx)
      have a1 := a1 _ e1
      have s1t : smT b M M1 := s1.t (by omega)
      rcases h7 with ⟨h7, h8⟩ | ⟨h7, h8⟩
      · rw [h8 x, e1] at h
        exact ⟨fun _ hS => h M1 s1t (fun s e => by cases e; exact a1) hS, fun q => absurd h7 q⟩
      · refine ⟨fun q => absurd q h7, fun _ => s7_carryOver (sh_148 b) hsh hS (pf_if ?_)⟩
        rw [a1, s1t.1 _ _ (by omega), s1t.1 _ _ (by omega), s1t.1 _ _ (by omega), s1t.1 _ _ (by omega)]
        have e2 : fs x = caO (xm_gi M (b + 3 + i) 0) (xm_gi M (b + 3 + i) 1) (xm_gi M (b + 3 + i) 2) (xm_gi M (b + 3 + i) 3) (ftT T f x.toNatClampNeg) := by
          rw [h8 x]; unfold fsE; rw [if_neg g, if_neg hx0]
        rw [← e2]
        exact fun M3 s3 e hS => h M3 (s1t.tr (s3.t (by omega))) e hS
end RS
