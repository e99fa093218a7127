/-! the reference's check -/
section CM
variable {l : Launch} {E : xm_E} {b : Nat} {c p : Bool} {Q : Option Value → xm_M → Prop} {T : Nat → Int32} {sz : Nat}
theorem i32_13 {o : Int32} (h : ¬ o ≤ 12) : ¬ o < 13 := fun q => h (by rw [Int32.le_iff_toInt_le, show (12 : Int32).toInt = 12 by decide]; rw [Int32.lt_iff_toInt_lt, show (13 : Int32).toInt = 13 by decide] at q; omega)
theorem s11_isAccess {i : Nat} {M : xm_M} (hi : i < 48) (hS : xm_st b c p M) (h : xm_st b c p M → Q (some (.int (xz (acB (xm_gi M (b + 155) i))))) M) : xm_C l E y11_isAccess rm11_isAccess [.ref (b + 154), .int (Int32.ofNat i)] M Q := by
  have ii : vp_in (Int32.ofNat i) 48 := xn_in hi (by decide)
  refine xm_enter (by decide) (Nat.le_of_ble_eq_true rfl) (t11_isAccess_0 M _ hS ⟨ii, ?_⟩)
  rw [xn_c (by omega)]
  generalize xm_gi M (b + 155) i = o at h ⊢
  have e0 : o < 8 ↔ o ≤ 7 := by
    rw [Int32.lt_iff_toInt_lt, Int32.le_iff_toInt_le, show (8 : Int32).toInt = 8 by decide, show (7 : Int32).toInt = 7 by decide]; omega
  have e1 : 12 < o ↔ 13 ≤ o := by
    rw [Int32.lt_iff_toInt_lt, Int32.le_iff_toInt_le, show (12 : Int32).toInt = 12 by decide, show (13 : Int32).toInt = 13 by decide]; omega
  refine ⟨fun g => ?_, fun g => ⟨ii, fun g2 => ?_, fun g2 => ?_⟩⟩
  · rw [show acB o = false by simp [acB, e0.mpr g]] at h; exact h
  · rw [show acB o = false by simp [acB, e1.mpr g2]] at h; exact h
  · have n0 : ¬ o < 8 := fun q => g (e0.mp q)
    have n1 : ¬ 12 < o := fun q => g2 (e1.mp q)
    rw [show acB o = true by simp [acB, n0, n1]] at h; exact h
theorem ac_10 {o : Int32} (h : acB o = true) : o ≤ 10 ↔ ¬ (o = 11 ∨ o = 12) := by
  refine ⟨fun g q => ?_, fun g => ?_⟩
  · rcases q with q | q <;> rw [q] at g <;> exact absurd g (by decide)
  · rcases acB_8 h g with q | q | q <;> rw [q] <;> decide
theorem s11_upper {i : Nat} {M : xm_M} (hi : i < 48) (hac : acB (xm_gi M (b + 155) i) = true) (hS : xm_st b c p M) (h : xm_st b c p M → Q (some (.int (atI (xm_gi M (b + 155) i)))) M) : xm_C l E y11_upper rm11_upper [.ref (b + 154), .int (Int32.ofNat i)] M Q := by
  have ii : vp_in (Int32.ofNat i) 48 := xn_in hi (by decide)
  refine xm_enter (by decide) (Nat.le_of_ble_eq_true rfl) (t11_upper_0 M _ hS ⟨ii, ?_⟩)
  rw [xn_c (by omega)]
  refine ⟨fun g => ?_, fun g => ?_⟩
  · rw [show atI (xm_gi M (b + 155) i) = 9 from if_neg ((ac_10 hac).mp g)] at h; exact h
  · rw [show atI (xm_gi M (b + 155) i) = 0 from if_pos (Decidable.byContradiction fun q => g ((ac_10 hac).mpr q))] at h; exact h
theorem s11_greatest {i : Nat} {M : xm_M} (hi : i < 48) (hac : acB (xm_gi M (b + 155) i) = true) (hS : xm_st b c p M) (h : xm_st b c p M → Q (some (.long (amL (xm_gi M (b + 155) i) (xm_gi M (b + 158) i)))) M) : xm_C l E y11_greatest rm11_greatest [.ref (b + 154), .int (Int32.ofNat i)] M Q := by
  have ii : vp_in (Int32.ofNat i) 48 := xn_in hi (by decide)
  refine xm_enter (by decide) (Nat.le_of_ble_eq_true rfl) (t11_greatest_0 M _ hS ⟨ii, ?_⟩)
  rw [xn_c (by omega)]
  refine ⟨fun g => ⟨ii, ii, s11_sizeOf hS (fun hS => ⟨_, rfl, hS, ?_⟩)⟩, fun g => ⟨ii, ?_⟩⟩
  · rw [show amL (xm_gi M (b + 155) i) (xm_gi M (b + 158) i) = _ from if_neg ((ac_10 hac).mp g)] at h; exact h
  · rw [show amL (xm_gi M (b + 155) i) (xm_gi M (b + 158) i) = _ from if_pos (Decidable.byContradiction fun q => g ((ac_10 hac).mpr q))] at h; exact h
/-- both edges -/
theorem rd_edges {i m n u : Nat} {F : Flt} {C : Nat → Option Nat} {f : Nat → Nat} {M : xm_M} (hO : fOk F n) (hi : i < n) (hc : C i = some m) (hX : fcM b M n C f) (hK : fcK sz n C f) (hF : flM b M F) (h0 : xm_gi M (b + 154) 31 = 0) (hT : tpM b M T sz) (hu : xm_gi M (b + 154) 30 = Int32.ofNat u) (hu2 : u ≤ sz) (hS : xm_st b c p M) (h : PmV b c p Q M (egS F C f T sz i m u)) :
    xm_C l E y11_readEdge rm11_readEdge [.ref (b + 154), .int (Int32.ofNat i), .int (0 : Int32)] M (fun r M3 => r = none ∧ xm_st b c p M3 ∧ xm_C l E y11_readEdge rm11_readEdge [.ref (b + 154), .int (Int32.ofNat i), .int (1 : Int32)] M3 (fun r M5 => r = none ∧ xm_st b c p M5 ∧ (xm_st b c p M5 → Q none M5))) := by
  have hn := hO.1
  have hi48 : i < 48 := by omega
  obtain ⟨k0, k1, k2, k3, k4⟩ := hF i hi48
  by_cases g0 : F.1 i = 0
  · refine s11_readEdge_n hi48 (by rw [k0, g0]; rfl) hS (fun hS => ⟨rfl, hS, s11_readEdge_n hi48 (by rw [k0, g0]; rfl) hS (fun hS => ⟨rfl, hS, fun hS => ?_⟩)⟩)
    exact h.2 u (if_pos g0) M smV.rf ⟨h0, hu, rfl⟩ hS
  · have hl0 : egS F C f T sz i m u = _ := if_neg g0
    by_cases g13 : F.1 i = 13
    · have hl1 := hl0.trans (if_pos g13)
      obtain ⟨t1, t2⟩ := fOk_t hO hi (by rw [g13]; decide)
      refine s11_readEdge_n hi48 (by rw [k0, g13]; rfl) hS (fun hS => ⟨rfl, hS, ?_⟩)
      exact s11_readEdge (e := true) hn hi t1 hF (by show enI _ _ _ 1 = _; unfold enI; rw [g13, if_neg (by decide), if_neg (by decide)]; exact t2) hc hX hK h0 hT hu hu2 hS ⟨fun e q M1 s1 e1 hS => ⟨rfl, hS, fun hS => h.1 e (hl1.trans q) M1 s1 e1 hS⟩, fun v q M1 s1 o1 hS => ⟨rfl, hS, fun hS => h.2 v (hl1.trans q) M1 s1 o1 hS⟩⟩
    · have hl1 := hl0.trans (if_neg g13)
      have hx := fOk_nx hO hi g0
      refine s11_readEdge (e := false) hn hi hx hF (by show enI _ _ _ 0 = _; unfold enI; rw [if_pos rfl, if_neg g0, if_neg g13]; exact ix1 i) hc hX hK h0 hT hu hu2 hS ⟨fun e q M1 s1 e1 hS => ⟨rfl, hS, ?_⟩, fun v q M1 s1 o1 hS => ⟨rfl, hS, ?_⟩⟩
      · exact s11_readEdge_f hi48 e1.nz hS (fun hS => ⟨rfl, hS, fun hS => h.1 e (by rw [hl1, q]) M1 s1 e1 hS⟩)
      · rw [q] at hl1
        simp only at hl1
        have hF1 := hF.fv s1
        obtain ⟨j0, j1, j2, j3, j4⟩ := hF1 i hi48
        by_cases g14 : F.1 i < 14
        · have g12 : F.1 i ≤ 12 := by
            have n13 : ¬ (F.1 i).toInt = 13 := fun z => g13 (Int32.toInt_inj.mp (by rw [z]; decide))
            rw [Int32.lt_iff_toInt_lt, show (14 : Int32).toInt = 14 by decide] at g14
            rw [Int32.le_iff_toInt_le, show (12 : Int32).toInt = 12 by decide]
            omega
          refine s11_readEdge_n hi48 (by rw [j0]; show enI _ _ _ 1 = _; unfold enI; rw [if_neg (by decide), if_pos g12]) hS (fun hS => ⟨rfl, hS, fun hS => ?_⟩)
          exact h.2 v (hl1.trans (if_pos g14)) M1 s1 o1 hS
        · have hl2 := hl1.trans (if_neg g14)
          have g12 : ¬ F.1 i ≤ 12 := fun z => g14 (by rw [Int32.le_iff_toInt_le, show (12 : Int32).toInt = 12 by decide] at z; rw [Int32.lt_iff_toInt_lt, show (14 : Int32).toInt = 14 by decide]; omega)
          obtain ⟨t1, t2⟩ := fOk_t hO hi (i32_13 g12)
          exact s11_readEdge (e := true) hn hi t1 hF1 (by show enI _ _ _ 1 = _; unfold enI; rw [if_neg (by decide), if_neg g12]; exact t2) hc (hX.fv s1) hK o1.1 (hT.fv s1) o1.2.1 (e1S_ok q) hS ⟨fun e q M2 s2 e2 hS => ⟨rfl, hS, fun hS => h.1 e (hl2.trans q) M2 (s1.tr s2) e2 hS⟩, fun v q M2 s2 o2 hS => ⟨rfl, hS, fun hS => h.2 v (hl2.trans q) M2 (s1.tr s2) ⟨o2.1, o2.2.1, o2.2.2.trans o1.2.2⟩ hS⟩⟩
/-- an instruction, as the reference reads it -/
def inS (F : Flt) (C : Nat → Option Nat) (f : Nat → Nat) (T : Nat → Int32) (sz i m u : Nat) : Except FpT Nat := match acS (F.1 i) (F.2.2.1 i) (F.2.2.2.1 i) (fsP T (f i) m) T sz u with
  | .error e => .error e
  | .ok v => egS F C f T sz i m v
theorem s11_readInstruction {i m n u : Nat} {F : Flt} {C : Nat → Option Nat} {f : Nat → Nat} {M : xm_M} (hO : fOk F n) (hi : i < n) (hc : C i = some m) (hX : fcM b M n C f) (hK : fcK sz n C f) (hF : flM b M F) (h0 : xm_gi M (b + 154) 31 = 0) (hT : tpM b M T sz) (hu : xm_gi M (b + 154) 30 = Int32.ofNat u) (hu2 : u ≤ sz) (hS : xm_st b c p M) (h : PmV b c p Q M (inS F C f T sz i m u)) : xm_C l E y11_readInstruction rm11_readInstruction [.ref (b + 154), .int (Int32.ofNat i)] M Q := by
  have hn := hO.1
  have hi48 : i < 48 := by omega
  have ii : vp_in (Int32.ofNat i) 48 := xn_in hi48 (by decide)
  obtain ⟨k0, k1, k2, k3, k4⟩ := hF i hi48
  obtain ⟨x1, x2⟩ := hX i hi
  rw [hc] at x1
  have x1 : xm_gi M (b + 175) i = Int32.ofNat m := x1
  obtain ⟨m1, m2⟩ := (hK i hi).2 m hc
  refine xm_enter (by decide) (Nat.le_of_ble_eq_true rfl) (t11_readInstruction_0 M _ hS (s11_isAccess hi48 hS (fun hS => ⟨_, rfl, hS, fun g => ?_, fun g => ?_⟩)))
  · have g := xz_0.mp g
    rw [k0] at g
    have hl : inS F C f T sz i m u = egS F C f T sz i m u := by
      unfold inS acS
      rw [if_neg (by rw [g]; decide)]
    rw [hl] at h
    exact rd_edges hO hi hc hX hK hF h0 hT hu hu2 hS h
  · have g := xz_ne g
    have g' := g
    rw [k0] at g'
    have hfs : fsP T (f i) m = lkS (plL T (f i) m 0) := funext (fun x => (lk_P m1 x).symm)
    have hlen : (plL T (f i) m 0).length ≤ 1200 := by rw [plL_len]; omega
    have i1 : ∀ e, rrS (lkS (plL T (f i) m 0)) T sz 0 (1 + F.2.2.1 i) (Int32.toInt64 (F.2.2.2.1 i)) u = .error e → inS F C f T sz i m u = .error e := fun e q => by
      unfold inS acS; rw [if_pos g', hfs, q]
    have i2 : ∀ v e, rrS (lkS (plL T (f i) m 0)) T sz 0 (1 + F.2.2.1 i) (Int32.toInt64 (F.2.2.2.1 i)) u = .ok v → rrS (lkS (plL T (f i) m 0)) T sz (1 + F.2.2.1 i) (atI (F.1 i)) (amL (F.1 i) (F.2.2.2.1 i)) v = .error e → inS F C f T sz i m u = .error e := fun v e q q2 => by
      unfold inS acS; rw [if_pos g', hfs, q]; simp only; rw [q2]
    have i3 : ∀ v w, rrS (lkS (plL T (f i) m 0)) T sz 0 (1 + F.2.2.1 i) (Int32.toInt64 (F.2.2.2.1 i)) u = .ok v → rrS (lkS (plL T (f i) m 0)) T sz (1 + F.2.2.1 i) (atI (F.1 i)) (amL (F.1 i) (F.2.2.2.1 i)) v = .ok w → inS F C f T sz i m u = egS F C f T sz i m w := fun v w q q2 => by
      unfold inS acS; rw [if_pos g', hfs, q]; simp only; rw [q2]
    refine s11_plainSteps hi48 m1 m2 hT x1 x2 hS (fun M1 s1 l1 hS => ⟨rfl, hS, ii, ii, ?_⟩)
    generalize plL T (f i) m 0 = L at i1 i2 i3 hlen l1
    have hF1 := hF.fg s1
    obtain ⟨j0, j1, j2, j3, j4⟩ := hF1 i hi48
    rw [xn_c (by omega), j2, j3]
    refine s11_readReason l1 hlen (by rw [s1.1 _ _ (by omega)]; exact h0) (hT.fg s1) (by rw [s1.1 _ _ (by omega)]; exact hu) hu2 hS ⟨fun e q M2 s2 e2 hS => ⟨rfl, hS, fun _ => ?_, fun z => absurd z e2.nz⟩, fun v q M2 s2 o2 hS => ⟨rfl, hS, fun z => absurd o2.1 z, fun _ => ⟨ii, ?_⟩⟩⟩
    · exact s11_readEdge_f hi48 e2.nz hS (fun hS => ⟨rfl, hS, s11_readEdge_f hi48 e2.nz hS (fun hS => ⟨rfl, hS, fun hS => h.1 e (i1 e q) M2 (s1.v.tr s2.v) e2 hS⟩)⟩)
    · have s12 : smV b M M2 := s1.v.tr s2.v
      have hF2 := hF.fv s12
      obtain ⟨n0, n1, n2, n3, n4⟩ := hF2 i hi48
      rw [n2]
      refine s11_upper hi48 (by rw [n0]; exact g') hS (fun hS => ⟨_, rfl, hS, s11_greatest hi48 (by rw [n0]; exact g') hS (fun hS => ⟨_, rfl, hS, ?_⟩)⟩)
      rw [n0, n3]
      refine s11_readReason (l1.f3 s2) hlen o2.1 (hT.fv s12) o2.2.1 (rrS_ok q) hS ⟨fun e q2 M3 s3 e3 hS => ⟨rfl, hS, ?_⟩, fun w q2 M3 s3 o3 hS => ⟨rfl, hS, ?_⟩⟩
      · exact s11_readEdge_f hi48 e3.nz hS (fun hS => ⟨rfl, hS, s11_readEdge_f hi48 e3.nz hS (fun hS => ⟨rfl, hS, fun hS => h.1 e (i2 v e q q2) M3 (s12.tr s3.v) e3 hS⟩)⟩)
      · have s13 := s12.tr s3.v
        have e9 : xm_gi M3 (b + 154) 9 = xm_gi M (b + 154) 9 := o3.2.2.trans (o2.2.2.trans (s1.1 _ _ (by omega)))
        exact rd_edges hO hi hc (hX.fv s13) hK (hF.fv s13) o3.1 (hT.fv s13) o3.2.1 (rrS_ok q2) hS ⟨fun e z M4 s4 e4 hS => h.1 e ((i3 v w q q2).trans z) M4 (s13.tr s4) e4 hS, fun y z M4 s4 o4 hS => h.2 y ((i3 v w q q2).trans z) M4 (s13.tr s4) ⟨o4.1, o4.2.1, o4.2.2.trans e9⟩ hS⟩
/-- behind the check -/
def smW (b : Nat) (M N : xm_M) : Prop := (∀ x k, ¬ ((x = b + 154 ∧ (k = 9 ∨ k = 14 ∨ k = 19 ∨ k = 30 ∨ k = 31)) ∨ (b + 162 ≤ x ∧ x ≤ b + 164) ∨ x = b + 174 ∨ x = b + 175) → xm_gi N x k = xm_gi M x k) ∧ ∀ x k, ¬ x = b + 165 → xm_gl N x k = xm_gl M x k
theorem smW.tr {b : Nat} {M N P : xm_M} (h : smW b M N) (g : smW b N P) : smW b M P := ⟨fun x k q => (g.1 x k q).trans (h.1 x k q), fun x k q => (g.2 x k q).trans (h.2 x k q)⟩
theorem smV.w {b : Nat} {M N : xm_M} (h : smV b M N) : smW b M N := ⟨fun x k q => h.1 x k (by omega), h.2⟩
theorem smF.w {b : Nat} {M N : xm_M} (h : smF b M N) : smW b M N := ⟨fun x k q => h.1 x k (by omega), fun x k _ => h.2 x k⟩
def PmZ (b : Nat) (c p : Bool) (Q : Option Value → xm_M → Prop) (M : xm_M) (o : Except FpT Unit) : Prop := ∀ M1, smW b M M1 → xm_gi M1 (b + 154) 9 = (vS o).2 → xm_st b c p M1 → Q (some (.int (-(vS o).1))) M1
theorem ck153_f {y : Int32} {M : xm_M} {e : FpT} (he : E3 b M e) (hS : xm_st b c p M) (h : xm_st b c p M → Q (some (.int (-e.1))) M) : xm_X l E y11_check rm11_check Q 153 [(0, .ref (b + 154)), (1, .int y)] [] 0 0 M := by
  refine t11_check_153 M y hS ?_
  rw [he.1]
  exact ⟨fun _ => ⟨fun _ => h, fun z => absurd z he.2.1⟩, fun _ => ⟨fun _ => ⟨fun _ => h, fun z => absurd z he.2.1⟩, fun z => absurd z he.2.1⟩⟩
theorem ck90_f {y : Int32} {M : xm_M} {e : FpT} (he : E3 b M e) (hS : xm_st b c p M) (h : xm_st b c p M → Q (some (.int (-e.1))) M) : xm_X l E y11_check rm11_check Q 90 [(0, .ref (b + 154)), (1, .int y)] [] 0 0 M :=
  t11_check_90 M y hS ⟨fun _ hS => ck153_f he hS h, fun z => absurd z he.nz⟩
/-- a fault, then the beginning's list for nothing -/
theorem ckB_f {M : xm_M} {e : FpT} (he : E3 b M e) (hS : xm_st b c p M) (h : PmZ b c p Q M (.error e)) : xm_C l E y11_beginning rm11_beginning [.ref (b + 154)] M (fun r M1 => r = none ∧ xm_st b c p M1 ∧ (xm_st b c p M1 → xm_X l E y11_check rm11_check Q 90 [(0, .ref (b + 154)), (1, .int (0 : Int32))] [] 0 0 M1)) :=
  s11_beginning hS (fun M1 s1 l1 _ hS => ⟨rfl, hS, fun hS => ck90_f ⟨by rw [s1.1 _ _ (by omega)]; exact he.1, he.2.1, by rw [s1.1 _ _ (by omega)]; exact he.2.2⟩ hS (fun hS => h M1 s1.v.w (by rw [s1.1 _ _ (by omega)]; exact he.2.2) hS)⟩)
theorem lp_ck153 {F : Flt} {n : Nat} {C : Nat → Option Nat} {f : Nat → Nat} (hO : fOk F n) (hK : fcK sz n C f) : ∀ (k i u : Nat) (M : xm_M), i + k = n → fcM b M n C f → flM b M F → tpM b M T sz → xm_gi M (b + 154) 1 = Int32.ofNat n → xm_gi M (b + 154) 30 = Int32.ofNat u → u ≤ sz → xm_gi M (b + 154) 31 = 0 → xm_gi M (b + 154) 9 = -2 → xm_st b c p M → PmZ b c p Q M (mnS F C f T sz k i u) →
    xm_X l E y11_check rm11_check Q 153 [(0, .ref (b + 154)), (1, .int (Int32.ofNat i))] [] 0 0 M := by
  have hn := hO.1
  intro k
  induction k with
  | zero =>
    intro i u M hi hX hF hT hc hu hu2 h0 h9 hS h
    have hz := hT.1
    refine t11_check_153 M _ hS ⟨fun _ => ⟨fun z => absurd h0 z, fun _ => ?_⟩, fun g => absurd (by rw [hc]; exact (xn_le (by omega) (by omega)).mpr (by omega)) g⟩
    rw [hT.2.1, hu]
    refine ⟨fun g hS => ?_, fun g => ?_⟩
    · have g := (xn_le (by omega) (by omega)).mp g
      have hl : mnS F C f T sz 0 i u = .ok () := if_neg (by omega)
      rw [hl] at h
      rw [h0]
      exact h M smV.rf.w h9 hS
    · have g : u < sz := Nat.not_le.mp fun q => g ((xn_le (by omega) (by omega)).mpr q)
      have hl : mnS F C f T sz 0 i u = .error (8, Int32.ofNat u) := if_pos g
      rw [hl] at h
      exact s11_fail h0 (by decide) hS (fun M1 s1 e1 _ hS => ⟨rfl, hS, fun hS => by rw [e1.1]; exact h M1 s1.v.w e1.2.2 hS⟩)
  | succ k ih =>
    intro i u M hi hX hF hT hc hu hu2 h0 h9 hS h
    have hin : i < n := by omega
    refine t11_check_153 M _ hS ⟨fun g => ?_, fun _ => ⟨fun z => absurd h0 z, fun _ => ⟨xn_in (by omega) (by decide), ?_⟩⟩⟩
    · rw [hc] at g
      exact absurd ((xn_le (by omega) (by omega)).mp g) (by omega)
    · rw [xn_c (by omega), xn_s]
      obtain ⟨x1, x2⟩ := hX i hin
      rw [x1]
      cases hci : C i with
      | none =>
        refine ⟨fun _ hS => ?_, fun q => absurd (by decide) q⟩
        have hl : mnS F C f T sz (k + 1) i u = mnS F C f T sz k (i + 1) u := by
          show (match C i with | none => mnS F C f T sz k (i + 1) u | some m => _) = _
          rw [hci]
        rw [hl] at h
        exact ih (i + 1) u M (by omega) hX hF hT hc hu hu2 h0 h9 hS h
      | some m =>
        obtain ⟨m1, m2⟩ := (hK i hin).2 m hci
        have hl : mnS F C f T sz (k + 1) i u = (match inS F C f T sz i m u with
            | .error e => .error e
            | .ok w => mnS F C f T sz k (i + 1) w) := by
          show (match C i with | none => mnS F C f T sz k (i + 1) u | some m => match acS (F.1 i) (F.2.2.1 i) (F.2.2.2.1 i) (fsP T (f i) m) T sz u with
            | .error e => .error e
            | .ok v => match egS F C f T sz i m v with
              | .error e => .error e
              | .ok w => mnS F C f T sz k (i + 1) w) = _
          rw [hci]
          show (match acS (F.1 i) (F.2.2.1 i) (F.2.2.2.1 i) (fsP T (f i) m) T sz u with
            | .error e => Except.error e
            | .ok v => match egS F C f T sz i m v with
              | .error e => .error e
              | .ok w => mnS F C f T sz k (i + 1) w) = _
          unfold inS
          cases acS (F.1 i) (F.2.2.1 i) (F.2.2.2.1 i) (fsP T (f i) m) T sz u <;> rfl
        refine ⟨fun g => ?_, fun _ => ?_⟩
        · exact absurd ((xn_lt (b := 0) (by omega) (by decide)).mp g) (by omega)
        · refine s11_readInstruction hO hin hci hX hK hF h0 hT hu hu2 hS ⟨fun e hr M1 s1 e1 hS => ⟨rfl, hS, fun hS => ?_⟩, fun v hr M1 s1 o1 hS => ⟨rfl, hS, fun hS => ?_⟩⟩
          · rw [hl, hr] at h
            exact ck153_f e1 hS (fun hS => h M1 s1.w e1.2.2 hS)
          · have hv : v ≤ sz := by
              unfold inS at hr
              cases h1 : acS (F.1 i) (F.2.2.1 i) (F.2.2.2.1 i) (fsP T (f i) m) T sz u with
              | error e => rw [h1] at hr; cases hr
              | ok w => rw [h1] at hr; exact egS_ok (acS_ok hu2 h1) hr
            rw [hl, hr] at h
            exact ih (i + 1) v M1 (by omega) (hX.fv s1) (hF.fv s1) (hT.fv s1) (by rw [s1.1 _ _ (by omega)]; exact hc) o1.2.1 hv o1.1 (o1.2.2.trans h9) hS (fun M2 s2 d hS => h M2 (s1.w.tr s2) d hS)
theorem lp_ck90 {F : Flt} {n m : Nat} {C : Nat → Option Nat} {f : Nat → Nat} {L : List NsT} (hO : fOk F n) (hK : fcK sz n C f) (hc0 : C 0 = some m) (hlen : L.length ≤ 1200) : ∀ (k j u : Nat) (M : xm_M), j + k = m → lsM b M L → fcM b M n C f → flM b M F → tpM b M T sz → xm_gi M (b + 154) 1 = Int32.ofNat n → xm_gi M (b + 154) 30 = Int32.ofNat u → u ≤ sz → xm_gi M (b + 154) 31 = 0 → xm_gi M (b + 154) 9 = -2 → xm_st b c p M → PmZ b c p Q M (match rrF (lkS L) T sz (f 0) k j u with | .error e => .error e | .ok v => mnS F C f T sz n 0 v) →
    xm_X l E y11_check rm11_check Q 90 [(0, .ref (b + 154)), (1, .int (Int32.ofNat j))] [] 0 0 M := by
  have hn0 := hO.2.1
  obtain ⟨m1, m2⟩ := (hK 0 hn0).2 m hc0
  have c0 : (0 : Int32).toNatClampNeg = 0 := by decide
  intro k
  induction k with
  | zero =>
    intro j u M hj hL hX hF hT hc hu hu2 h0 h9 hS h
    obtain ⟨x1, x2⟩ := hX 0 hn0
    rw [hc0] at x1
    refine t11_check_90 M _ hS ⟨fun z => absurd h0 z, fun _ => ⟨fun _ hS => ?_, fun g => ?_⟩⟩
    · exact lp_ck153 hO hK n 0 u M (by omega) hX hF hT hc hu hu2 h0 h9 hS h
    · rw [c0, x1] at g
      exact absurd ((xn_le (by omega) (by omega)).mpr (by omega)) g
  | succ k ih =>
    intro j u M hj hL hX hF hT hc hu hu2 h0 h9 hS h
    have hT0 := hT
    obtain ⟨t1, t2, t3⟩ := hT
    obtain ⟨x1, x2⟩ := hX 0 hn0
    rw [hc0] at x1
    refine t11_check_90 M _ hS ⟨fun z => absurd h0 z, fun _ => ⟨fun g => ?_, fun _ => ?_⟩⟩
    · rw [c0, x1] at g
      exact absurd ((xn_le (by omega) (by omega)).mp g) (by omega)
    rw [c0, x2, ix3, ix1, ix2, xn_s, xn_c (by omega), xn_c (by omega), xn_c (by omega), t3 (f 0 + 3 * j) (by omega), t3 (f 0 + 3 * j + 1) (by omega), t3 (f 0 + 3 * j + 2) (by omega)]
    have v0 : ∀ z, z < sz → vp_in (Int32.ofNat z) 20000 := fun z hz => xn_in (by omega) (by decide)
    have hl : rrF (lkS L) T sz (f 0) (k + 1) j u = (match rrS (lkS L) T sz (T (f 0 + 3 * j)) (T (f 0 + 3 * j + 1)) (Int32.toInt64 (T (f 0 + 3 * j + 2))) u with
      | .error e => .error e
      | .ok v => rrF (lkS L) T sz (f 0) k (j + 1) v) := rfl
    refine ⟨v0 _ (by omega), v0 _ (by omega), v0 _ (by omega), s11_readReason hL hlen h0 hT0 hu hu2 hS ⟨fun e hr M1 s1 e1 hS => ⟨rfl, hS, fun hS => ?_⟩, fun v hr M1 s1 o1 hS => ⟨rfl, hS, fun hS => ?_⟩⟩⟩
    · rw [hl, hr] at h
      exact ck90_f e1 hS (fun hS => h M1 s1.v.w e1.2.2 hS)
    · rw [hl, hr] at h
      exact ih (j + 1) v M1 (by omega) (hL.f3 s1) (hX.f3 s1) (hF.fv s1.v) (hT0.f3 s1) (by rw [s1.1 _ _ (by omega)]; exact hc) o1.2.1 (rrS_ok hr) o1.1 (o1.2.2.trans h9) hS (fun M2 s2 d hS => h M2 (s1.v.w.tr s2) d hS)
theorem flM.ff {M N : xm_M} {F : Flt} (h : flM b M F) (s : smF b M N) : flM b N F := fun i hi => by
  rw [s.1 _ _ (by omega), s.1 _ _ (by omega), s.1 _ _ (by omega), s.1 _ _ (by omega), s.1 _ _ (by omega)]; exact h i hi
theorem ck35_f {y : Int32} {M : xm_M} {e : FpT} (he : E3 b M e) (hS : xm_st b c p M) (h : PmZ b c p Q M (.error e)) : xm_X l E y11_check rm11_check Q 35 [(0, .ref (b + 154)), (1, .int y)] [] 0 0 M :=
  t11_check_35 M y hS ⟨fun _ => ⟨fun _ => ckB_f he hS h, fun z => absurd z he.nz⟩, fun _ => ⟨fun _ => ⟨fun _ => ckB_f he hS h, fun z => absurd z he.nz⟩, fun z => absurd z he.nz⟩⟩
theorem lp_ck35 {F : Flt} {n : Nat} (hO : fOk F n) : ∀ (k i u : Nat) (M : xm_M) (C : Nat → Option Nat) (f : Nat → Nat), i + k = n → fcM b M i C f → fcK sz i C f → flM b M F → tpM b M T sz → xm_gi M (b + 154) 1 = Int32.ofNat n → xm_gi M (b + 154) 30 = Int32.ofNat u → u ≤ sz → xm_gi M (b + 154) 31 = 0 → xm_gi M (b + 154) 9 = -2 → xm_st b c p M → PmZ b c p Q M (match rdI T sz k i u C f with
      | .error e => .error e
      | .ok (C, f, u) => match rrF (fun x => begO x (xm_gi M (b + 154) 0)) T sz (f 0) ((C 0).getD 0) 0 u with
        | .error e => .error e
        | .ok v => mnS F C f T sz n 0 v) →
    xm_X l E y11_check rm11_check Q 35 [(0, .ref (b + 154)), (1, .int (Int32.ofNat i))] [] 0 0 M := by
  have hn := hO.1
  have hn0 := hO.2.1
  have c0 : (0 : Int32).toNatClampNeg = 0 := by decide
  intro k
  induction k with
  | zero =>
    intro i u M C f hi hX hK hF hT hc hu hu2 h0 h9 hS h
    have hi : i = n := by omega
    subst hi
    refine t11_check_35 M _ hS ⟨fun _ => ⟨fun z => absurd h0 z, fun _ => ?_⟩, fun g => absurd (by rw [hc]; exact (xn_le (by omega) (by omega)).mpr (Nat.le_refl _)) g⟩
    obtain ⟨x1, x2⟩ := hX 0 hn0
    rw [c0, x1]
    cases hc0 : C 0 with
    | none =>
      have hl : rdI T sz 0 i u C f = .error (7, 0) := if_pos hc0
      rw [hl] at h
      exact ⟨fun z => absurd z (by decide), fun _ => s11_fail h0 (by decide) hS (fun M1 s1 e1 _ hS => ⟨rfl, hS, ckB_f e1 hS (fun M2 s2 d hS => h M2 (s1.v.w.tr s2) d hS)⟩)⟩
    | some m =>
      obtain ⟨m1, m2⟩ := (hK 0 hn0).2 m hc0
      have hl : rdI T sz 0 i u C f = .ok (C, f, u) := if_neg (fun q => by rw [hc0] at q; cases q)
      rw [hl] at h
      refine ⟨fun _ => s11_beginning hS (fun M1 s1 l1 _ hS => ⟨rfl, hS, fun hS => ?_⟩), fun z => absurd ((xn_le (a := 0) (by decide) (by omega)).mpr (Nat.zero_le _)) z⟩
      have hfs : (fun x => begO x (xm_gi M (b + 154) 0)) = lkS (begL (xm_gi M (b + 154) 0)) := funext (fun x => (lk_B _ x).symm)
      simp only [hc0, Option.getD_some] at h
      rw [hfs] at h
      show xm_X l E y11_check rm11_check Q 90 [(0, .ref (b + 154)), (1, .int (Int32.ofNat 0))] [] 0 0 M1
      have hlen : (begL (xm_gi M (b + 154) 0)).length ≤ 1200 := Nat.le_trans (Nat.le_of_eq (show (begL (xm_gi M (b + 154) 0)).length = 18 from rfl)) (by decide)
      have sv := s1.v
      exact lp_ck90 hO hK hc0 hlen m 0 u M1 (by omega) l1 (hX.fv sv) (hF.fv sv) (hT.fv sv) (by rw [s1.1 _ _ (by omega)]; exact hc) (by rw [s1.1 _ _ (by omega)]; exact hu) hu2 (by rw [s1.1 _ _ (by omega)]; exact h0) (by rw [s1.1 _ _ (by omega)]; exact h9) hS (fun M2 s2 d hS => h M2 (sv.w.tr s2) d hS)
  | succ k ih =>
    intro i u M C f hi hX hK hF hT hc hu hu2 h0 h9 hS h
    refine t11_check_35 M _ hS ⟨fun g => ?_, fun _ => ⟨fun z => absurd h0 z, fun _ => ?_⟩⟩
    · rw [hc] at g
      exact absurd ((xn_le (by omega) (by omega)).mp g) (by omega)
    rw [xn_s]
    refine s11_readFacts (by omega) h0 hT hu hu2 hX hS (fun e hr M1 s1 e1 hS => ⟨rfl, hS, fun hS => ?_⟩) (fun r e hr hr2 M1 s1 e1 hS => ⟨rfl, hS, fun hS => ?_⟩) (fun r w hr hr2 M1 s1 o1 x1 hS => ⟨rfl, hS, fun hS => ?_⟩)
    · have hl : rdI T sz (k + 1) i u C f = .error e := by unfold rdI; rw [hr]
      rw [hl] at h
      exact ck35_f e1 hS (fun M2 s2 d hS => h M2 (s1.w.tr s2) d hS)
    · have hl : rdI T sz (k + 1) i u C f = .error e := by unfold rdI; rw [hr]; simp only; rw [hr2]
      rw [hl] at h
      exact ck35_f e1 hS (fun M2 s2 d hS => h M2 (s1.w.tr s2) d hS)
    · have hl : rdI T sz (k + 1) i u C f = rdI T sz k (i + 1) w (upN C i (cN r.1)) (upN f i r.2) := by
        show (match rdW T sz (-1) 24 u with | .error e => Except.error e | .ok (x, v) => match rdK T sz x.toNatClampNeg v with | .error e => Except.error e | .ok w => rdI T sz k (i + 1) w (upN C i (cN x)) (upN f i v)) = _
        rw [hr]; simp only; rw [hr2]
      rw [hl] at h
      have h54 : xm_gi M1 (b + 154) 0 = xm_gi M (b + 154) 0 := s1.1 _ _ (by omega)
      obtain ⟨g1, g2, _⟩ := rdW_ok hr
      have hw := rdK_ok _ (show r.2 ≤ sz by rw [g2]; show u + 1 ≤ sz; omega) hr2
      refine ih (i + 1) w M1 _ _ (by omega) x1 (fcK_up hK hr hr2) (hF.ff s1) (hT.ff s1) (by rw [s1.1 _ _ (by omega)]; exact hc) o1.2.1 (by omega) o1.1 (o1.2.2.trans h9) hS (fun M2 s2 d hS => ?_)
      rw [h54] at d ⊢
      exact h M2 (s1.w.tr s2) d hS
end CM
