/-! the reference's reasons and edges -/
section QM
variable {l : Launch} {E : xm_E} {b : Nat} {c p : Bool} {Q : Option Value → xm_M → Prop} {T : Nat → Int32} {sz : Nat}
theorem rr26_f {v2 v5 v6 v7 v10 : Int32} {w3 w8 : Int64} {M : xm_M} (h0 : ¬ xm_gi M (b + 154) 31 = 0) (hS : xm_st b c p M) (h : xm_st b c p M → Q none M) : xm_X l E y11_readReason rm11_readReason Q 26 [(0, .ref (b + 154)), (2, .int v2), (3, .long w3), (5, .int v5), (6, .int v6), (7, .int v7), (8, .long w8), (10, .int v10)] [] 0 0 M :=
  t11_readReason_26 M v2 w3 v5 v6 v7 w8 v10 hS ⟨fun _ => ⟨fun _ => h, fun z => absurd z h0⟩, fun _ => ⟨fun _ => ⟨fun _ => h, fun z => absurd z h0⟩, fun z => absurd z h0⟩⟩
theorem lp_m57 {to pt v6 x : Int32} {most sum : Int64} {L : List NsT} {kk nn u : Nat} {M : xm_M} (hL : lsM b M L) (hlen : L.length ≤ 1200) (hk : kk < nn) (hn : nn ≤ 12) (h0 : xm_gi M (b + 154) 31 = 0) (hu : xm_gi M (b + 154) 30 - 1 = Int32.ofNat u) (hS : xm_st b c p M) : ∀ (k j : Nat), j + k = L.length →
    (lkS (L.drop j) x = none → ∀ M1, sm3 b M M1 → E3 b M1 (4, Int32.ofNat u) → xm_st b c p M1 → Q none M1) →
    (∀ s, lkS (L.drop j) x = some s → ¬ (s.1 = pt ∧ (¬ kk + 1 = nn ∨ s.2.1 = to)) → ∀ M1, sm3 b M M1 → E3 b M1 (5, Int32.ofNat u) → xm_st b c p M1 → Q none M1) →
    (∀ s, lkS (L.drop j) x = some s → (s.1 = pt ∧ (¬ kk + 1 = nn ∨ s.2.1 = to)) → xm_st b c p M → xm_X l E y11_readReason rm11_readReason Q 26 [(0, .ref (b + 154)), (2, .int to), (3, .long most), (5, .int (Int32.ofNat nn)), (6, .int v6), (7, .int s.2.1), (8, .long (sum + s.2.2)), (10, .int (Int32.ofNat (kk + 1)))] [] 0 0 M) →
    xm_X l E y11_readReason rm11_readReason Q 57 [(0, .ref (b + 154)), (2, .int to), (3, .long most), (5, .int (Int32.ofNat nn)), (6, .int v6), (7, .int pt), (8, .long sum), (10, .int (Int32.ofNat kk)), (11, .int x), (12, .int (Int32.ofNat j))] [] 0 0 M := by
  intro k
  induction k with
  | zero =>
    intro j hj h4 h5 hg
    have hd : L.drop j = [] := List.drop_eq_nil_of_le (by omega)
    refine t11_readReason_57 M _ _ _ _ _ _ _ _ _ hS ⟨fun _ => ⟨fun z => ?_, fun _ => ?_⟩, fun g => ?_⟩
    · rw [hL.1] at z; exact absurd (by rw [show j = L.length by omega]) z
    · rw [hu]
      exact s11_fail h0 (by decide) hS (fun M1 s1 e1 _ hS => ⟨rfl, hS, fun hS => h4 (by rw [hd]; rfl) M1 s1 e1 hS⟩)
    · rw [hL.1] at g; exact absurd ((xn_le (by omega) (by omega)).mpr (by omega)) g
  | succ k ih =>
    intro j hj h4 h5 hg
    have hjl : j < L.length := by omega
    have hd : L.drop j = L[j] :: L.drop (j + 1) := List.drop_eq_getElem_cons hjl
    obtain ⟨m1, m2, m3, m4⟩ := hL.2 j L[j] (List.getElem?_eq_getElem hjl)
    have lk : lkS (L.drop j) x = if L[j].1 = x then some L[j].2 else lkS (L.drop (j + 1)) x := by rw [hd]; rfl
    refine t11_readReason_57 M _ _ _ _ _ _ _ _ _ hS ⟨fun g => ?_, fun _ => ?_⟩
    · rw [hL.1] at g; exact absurd ((xn_le (by omega) (by omega)).mp g) (by omega)
    have ij : vp_in (Int32.ofNat j) 1200 := xn_in (by omega) (by decide)
    refine ⟨ij, ?_⟩
    rw [xn_c (by omega), m1, xn_s, xn_s, hL.1, m2, m3, m4, hu]
    refine ⟨fun g => ⟨fun _ => ⟨ij, ?_⟩, fun z => ?_⟩, fun g hS => ?_⟩
    · rw [if_pos g] at lk
      have k1 : Int32.ofNat kk = Int32.ofNat nn - 1 ↔ kk + 1 = nn := by
        refine ⟨fun q => ?_, fun q => ?_⟩
        · have := congrArg Int32.toInt q
          rw [i32_sub _ _ (by rw [toInt_of rfl (by omega)]; have : (1 : Int32).toInt = 1 := by decide
                              omega), toInt_of rfl (by omega), toInt_of rfl (by omega), show (1 : Int32).toInt = 1 by decide] at this
          omega
        · rw [← q, show Int32.ofNat (kk + 1) = Int32.ofNat kk + 1 from Int32.ofNat_add kk 1]
          exact (Int32.add_sub_cancel _ _).symm
      have bad : ¬ (L[j].2.1 = pt ∧ (¬ kk + 1 = nn ∨ L[j].2.2.1 = to)) → xm_C l E y11_fail rm11_fail [.ref (b + 154), .int (5 : Int32), .int (Int32.ofNat u)] M (fun r M2 => r = none ∧ xm_st b c p M2 ∧ (vp_in (Int32.ofNat j) 1200 ∧ (vp_in (Int32.ofNat j) 1200 ∧ (xm_st b c p M2 → xm_X l E y11_readReason rm11_readReason Q 26 [(0, .ref (b + 154)), (2, .int to), (3, .long most), (5, .int (Int32.ofNat nn)), (6, .int v6), (7, .int (xm_gi M2 (b + 164) j)), (8, .long (sum + (xm_gl M2 (b + 165) j))), (10, .int (Int32.ofNat (kk + 1)))] [] 0 0 M2)))) := fun gb => s11_fail h0 (by decide) hS (fun M1 s1 e1 _ hS => ⟨rfl, hS, ij, ij, fun hS => rr26_f e1.nz hS (fun hS => h5 _ lk gb M1 s1 e1 hS)⟩)
      refine ⟨fun g1 => bad (fun q => g1 q.1), fun g1 => ⟨fun g2 => ⟨ij, ij, hg _ lk ⟨g1, Or.inl (fun q => g2 (k1.mpr q))⟩⟩, fun g2 => ⟨ij, fun g3 => ⟨ij, ij, hg _ lk ⟨g1, Or.inr g3⟩⟩, fun g3 => bad (fun q => q.2.elim (fun z => z (k1.mp g2)) g3)⟩⟩⟩
    · have := congrArg Int32.toInt z
      rw [toInt_of rfl (by omega), toInt_of rfl (by omega)] at this
      omega
    · rw [if_neg g] at lk
      exact ih (j + 1) (by omega) (fun q => h4 (lk.trans q)) (fun s q => h5 s (lk.trans q)) (fun s q => hg s (lk.trans q))
theorem lp_m26 {to : Int32} {most : Int64} {L : List NsT} {nn head : Nat} (hlen : L.length ≤ 1200) (hn : nn ≤ 12) : ∀ (k kk u : Nat) (M : xm_M) (pt : Int32) (sum : Int64), kk + k = nn → lsM b M L → xm_gi M (b + 154) 31 = 0 → tpM b M T sz → xm_gi M (b + 154) 30 = Int32.ofNat u → u ≤ sz → xm_st b c p M → Pm3 b c p Q M (rrL (lkS L) T sz to most head k u pt sum) →
    xm_X l E y11_readReason rm11_readReason Q 26 [(0, .ref (b + 154)), (2, .int to), (3, .long most), (5, .int (Int32.ofNat nn)), (6, .int (Int32.ofNat head)), (7, .int pt), (8, .long sum), (10, .int (Int32.ofNat kk))] [] 0 0 M := by
  intro k
  induction k with
  | zero =>
    intro kk u M pt sum hk hL h0 hT hu hu2 hS h
    refine t11_readReason_26 M _ _ _ _ _ _ _ hS ⟨fun _ => ⟨fun z => absurd h0 z, fun _ => ⟨fun g hS => ?_, fun g => ?_⟩⟩, fun g => absurd ((xn_le (by omega) (by omega)).mpr (by omega)) g⟩
    · exact h.2 u (if_pos g) M sm3.rf ⟨h0, hu, rfl⟩ hS
    · exact s11_fail h0 (by decide) hS (fun M1 s1 e1 _ hS => ⟨rfl, hS, fun hS => h.1 _ (if_neg g) M1 s1 e1 hS⟩)
  | succ k ih =>
    intro kk u M pt sum hk hL h0 hT hu hu2 hS h
    have hz := hT.1
    refine t11_readReason_26 M _ _ _ _ _ _ _ hS ⟨fun g => absurd ((xn_le (by omega) (by omega)).mp g) (by omega), fun _ => ⟨fun z => absurd h0 z, fun _ => ?_⟩⟩
    have hl : rrL (lkS L) T sz to most head (k + 1) u pt sum = (match rdA T sz u with
      | .error e => .error e
      | .ok (x, v) => match lkS L x with
        | none => .error (4, Int32.ofNat u)
        | some s => if s.1 = pt ∧ (¬ k = 0 ∨ s.2.1 = to) then rrL (lkS L) T sz to most head k v s.2.1 (sum + s.2.2) else .error (5, Int32.ofNat u)) := rfl
    refine s11_read h0 hT hu hu2 hS (fun e hr M1 s1 e1 hS => ⟨_, rfl, hS, fun z => absurd z e1.nz, fun _ hS => ?_⟩) (fun r hr M1 s1 o1 hS => ⟨_, rfl, hS, fun _ hS => ?_, fun z => absurd o1.1 z⟩)
    · exact h.1 e (by rw [hl, hr]) M1 s1 e1 hS
    · obtain ⟨g1, g2⟩ := rdA_ok hr
      subst g2
      rw [hr] at hl
      simp only at hl
      have e5 : xm_gi M1 (b + 154) 30 - 1 = Int32.ofNat u := by
        rw [o1.2.1, show Int32.ofNat (u + 1) = Int32.ofNat u + 1 from Int32.ofNat_add u 1]
        exact Int32.add_sub_cancel _ _
      have kz : kk + 1 = nn ↔ k = 0 := by omega
      show xm_X l E y11_readReason rm11_readReason Q 57 [(0, .ref (b + 154)), (2, .int to), (3, .long most), (5, .int (Int32.ofNat nn)), (6, .int (Int32.ofNat head)), (7, .int pt), (8, .long sum), (10, .int (Int32.ofNat kk)), (11, .int (T u)), (12, .int (Int32.ofNat 0))] [] 0 0 M1
      refine lp_m57 (hL.f3 s1) hlen (by omega) hn o1.1 e5 hS L.length 0 (by omega) (fun q M2 s2 e2 hS => ?_) (fun s q gb M2 s2 e2 hS => ?_) (fun s q gd hS => ?_)
      · rw [List.drop_zero] at q
        exact h.1 _ (by rw [hl, q]) M2 (s1.tr s2) e2 hS
      · rw [List.drop_zero] at q
        exact h.1 _ (by rw [hl, q]; exact if_neg (fun z => gb ⟨z.1, z.2.imp (fun w => fun t => w (kz.mp t)) id⟩)) M2 (s1.tr s2) e2 hS
      · rw [List.drop_zero] at q
        have hl2 : rrL (lkS L) T sz to most head (k + 1) u pt sum = rrL (lkS L) T sz to most head k (u + 1) s.2.1 (sum + s.2.2) := by
          rw [hl, q]; exact if_pos ⟨gd.1, gd.2.imp (fun w => fun t => w (kz.mpr t)) id⟩
        exact ih (kk + 1) (u + 1) M1 _ _ (by omega) (hL.f3 s1) o1.1 (hT.f3 s1) o1.2.1 (by omega) hS ⟨fun e q M2 s2 e2 hS => h.1 e (hl2.trans q) M2 (s1.tr s2) e2 hS, fun w q M2 s2 o2 hS => h.2 w (hl2.trans q) M2 (s1.tr s2) ⟨o2.1, o2.2.1, o2.2.2.trans o1.2.2⟩ hS⟩
theorem s11_readReason {fr to : Int32} {most : Int64} {L : List NsT} {u : Nat} {M : xm_M} (hL : lsM b M L) (hlen : L.length ≤ 1200) (h0 : xm_gi M (b + 154) 31 = 0) (hT : tpM b M T sz) (hu : xm_gi M (b + 154) 30 = Int32.ofNat u) (hu2 : u ≤ sz) (hS : xm_st b c p M) (h : Pm3 b c p Q M (rrS (lkS L) T sz fr to most u)) : xm_C l E y11_readReason rm11_readReason [.ref (b + 154), .int fr, .int to, .long most] M Q := by
  refine xm_enter (by decide) (Nat.le_of_ble_eq_true rfl) (t11_readReason_0 M _ _ _ hS (s11_readIn h0 hT hu hu2 hS (fun e hr M1 v s1 e1 hS => ⟨_, rfl, hS, fun hS => ?_⟩) (fun r hr M1 s1 o1 hS => ⟨_, rfl, hS, fun hS => ?_⟩)))
  · exact rr26_f e1.nz hS (fun hS => h.1 e (by unfold rrS; rw [hr]) M1 s1 e1 hS)
  · have hl : rrS (lkS L) T sz fr to most u = rrL (lkS L) T sz to most u r.1.toNatClampNeg r.2 fr 0 := by unfold rrS; rw [hr]
    obtain ⟨g1, g2, g3, g4⟩ := rdW_ok hr
    subst g2
    have hx0 : ¬ T u < 0 := fun q => g3 (by rw [Int32.lt_iff_toInt_lt] at q ⊢; rw [show (0 : Int32).toInt = 0 by decide] at q; rw [show (1 : Int32).toInt = 1 by decide]; omega)
    have e5 := i32_of hx0
    have e6 : xm_gi M1 (b + 154) 30 - 1 = Int32.ofNat u := by
      rw [o1.2.1, show Int32.ofNat (u + 1) = Int32.ofNat u + 1 from Int32.ofNat_add u 1]
      exact Int32.add_sub_cancel _ _
    rw [hl] at h
    have h12 : (T u).toNatClampNeg ≤ 12 := (cl_le (j := 12) (by decide)).mp g4
    show xm_X l E y11_readReason rm11_readReason Q 26 [(0, .ref (b + 154)), (2, .int to), (3, .long most), (5, .int (T u)), (6, .int (xm_gi M1 (b + 154) 30 - 1)), (7, .int fr), (8, .long (0 : Int64)), (10, .int (Int32.ofNat 0))] [] 0 0 M1
    simp only at h
    rw [e6]
    generalize (T u).toNatClampNeg = k at h e5 h12
    rw [e5]
    exact lp_m26 hlen h12 k 0 (u + 1) M1 fr 0 (by omega) (hL.f3 s1) o1.1 (hT.f3 s1) o1.2.1 (by omega) hS ⟨fun e q M2 s2 e2 hS => h.1 e q M2 (s1.tr s2) e2 hS, fun w q M2 s2 o2 hS => h.2 w q M2 (s1.tr s2) ⟨o2.1, o2.2.1, o2.2.2.trans o1.2.2⟩ hS⟩
/-- what the reference's reading may change once its facts are read -/
def smV (b : Nat) (M N : xm_M) : Prop := (∀ x k, ¬ ((x = b + 154 ∧ (k = 9 ∨ k = 14 ∨ k = 19 ∨ k = 30 ∨ k = 31)) ∨ (b + 162 ≤ x ∧ x ≤ b + 164)) → xm_gi N x k = xm_gi M x k) ∧ ∀ x k, ¬ x = b + 165 → xm_gl N x k = xm_gl M x k
theorem smV.rf {b : Nat} {M : xm_M} : smV b M M := ⟨fun _ _ _ => rfl, fun _ _ _ => rfl⟩
theorem smV.tr {b : Nat} {M N P : xm_M} (h : smV b M N) (g : smV b N P) : smV b M P := ⟨fun x k q => (g.1 x k q).trans (h.1 x k q), fun x k q => (g.2 x k q).trans (h.2 x k q)⟩
theorem sm3.v {b : Nat} {M N : xm_M} (h : sm3 b M N) : smV b M N := ⟨fun x k q => h.1 x k (by omega), fun x k _ => h.2 x k⟩
theorem smG.v {b : Nat} {M N : xm_M} (h : smG b M N) : smV b M N := ⟨fun x k q => h.1 x k (by omega), h.2⟩
theorem tpM.fv {M N : xm_M} (h : tpM b M T sz) (s : smV b M N) : tpM b N T sz := ⟨h.1, by rw [s.1 _ _ (by omega)]; exact h.2.1, fun j hj => by rw [s.1 _ _ (by omega)]; exact h.2.2 j hj⟩
theorem flM.fv {M N : xm_M} {F : Flt} (h : flM b M F) (s : smV b M N) : flM b N F := fun i hi => by
  rw [s.1 _ _ (by omega), s.1 _ _ (by omega), s.1 _ _ (by omega), s.1 _ _ (by omega), s.1 _ _ (by omega)]; exact h i hi
theorem fcM.fv {n : Nat} {M N : xm_M} {C : Nat → Option Nat} {f : Nat → Nat} (h : fcM b M n C f) (s : smV b M N) : fcM b N n C f := fun j hj => by rw [s.1 _ _ (by omega), s.1 _ _ (by omega)]; exact h j hj
def PmV (b : Nat) (c p : Bool) (Q : Option Value → xm_M → Prop) (M : xm_M) (o : Except FpT Nat) : Prop :=
  (∀ e, o = .error e → ∀ M1, smV b M M1 → E3 b M1 e → xm_st b c p M1 → Q none M1) ∧ ∀ v, o = .ok v → ∀ M1, smV b M M1 → O3 b M M1 v → xm_st b c p M1 → Q none M1
def enI (o t i e : Int32) : Int32 := if e = 0 then (if o = 0 then -1 else if o = 13 then -1 else i + 1) else if o ≤ 12 then -1 else t
theorem s11_end {i : Nat} {e : Int32} {M : xm_M} (hi : i < 48) (hS : xm_st b c p M) (h : xm_st b c p M → Q (some (.int (enI (xm_gi M (b + 155) i) (xm_gi M (b + 159) i) (Int32.ofNat i) e))) M) : xm_C l E y11_end rm11_end [.ref (b + 154), .int (Int32.ofNat i), .int e] M Q := by
  have ii : vp_in (Int32.ofNat i) 48 := xn_in hi (by decide)
  refine xm_enter (by decide) (Nat.le_of_ble_eq_true rfl) (t11_end_0 M _ e hS ?_)
  rw [xn_c (by omega)]
  unfold enI at h
  refine ⟨fun g => ⟨ii, fun g2 => ?_, fun g2 => ⟨ii, ?_⟩⟩, fun g => ⟨ii, fun g2 => ?_, fun g2 => ⟨ii, fun g3 => ?_, fun g3 => ?_⟩⟩⟩
  · rw [if_neg g, if_pos g2] at h; exact h
  · rw [if_neg g, if_neg g2] at h; exact h
  · rw [if_pos g, if_pos g2] at h; exact h
  · rw [if_pos g, if_neg g2, if_neg g3] at h; exact h
  · rw [if_pos g, if_neg g2, if_pos g3] at h; exact h
theorem s11_readEdge_f {i : Nat} {e : Int32} {M : xm_M} (hi : i < 48) (h0 : ¬ xm_gi M (b + 154) 31 = 0) (hS : xm_st b c p M) (h : xm_st b c p M → Q none M) : xm_C l E y11_readEdge rm11_readEdge [.ref (b + 154), .int (Int32.ofNat i), .int e] M Q :=
  xm_enter (by decide) (Nat.le_of_ble_eq_true rfl) (t11_readEdge_0 M _ e hS (s11_end hi hS (fun hS => ⟨_, rfl, hS, fun _ => h, fun _ => ⟨fun z => absurd z h0, fun _ => h⟩⟩)))
theorem s11_readEdge_n {i : Nat} {e : Int32} {M : xm_M} (hi : i < 48) (hn : enI (xm_gi M (b + 155) i) (xm_gi M (b + 159) i) (Int32.ofNat i) e = -1) (hS : xm_st b c p M) (h : xm_st b c p M → Q none M) : xm_C l E y11_readEdge rm11_readEdge [.ref (b + 154), .int (Int32.ofNat i), .int e] M Q :=
  xm_enter (by decide) (Nat.le_of_ble_eq_true rfl) (t11_readEdge_0 M _ e hS (s11_end hi hS (fun hS => ⟨_, rfl, hS, fun _ => h, fun z => absurd (by rw [hn]; decide) z⟩)))
theorem lp_re104 {j m f : Nat} {L : List NsT} (hj : j < 48) (hm : m ≤ 24) (hf : f + 3 * m ≤ sz) (hlen : L.length ≤ 1200) : ∀ (k y u : Nat) (M : xm_M), y + k = m → lsM b M L → xm_gi M (b + 175) j = Int32.ofNat m → xm_gi M (b + 174) j = Int32.ofNat f → xm_gi M (b + 154) 31 = 0 → tpM b M T sz → xm_gi M (b + 154) 30 = Int32.ofNat u → u ≤ sz → xm_st b c p M → Pm3 b c p Q M (rrF (lkS L) T sz f k y u) →
    xm_X l E y11_readEdge rm11_readEdge Q 104 [(0, .ref (b + 154)), (3, .int (Int32.ofNat j)), (6, .int (Int32.ofNat y))] [] 0 0 M := by
  have ij : vp_in (Int32.ofNat j) 48 := xn_in hj (by decide)
  intro k
  induction k with
  | zero =>
    intro y u M hy hL e1 e2 h0 hT hu hu2 hS h
    refine t11_readEdge_104 M _ _ hS ⟨ij, fun _ hS => h.2 u rfl M sm3.rf ⟨h0, hu, rfl⟩ hS, fun g => ?_⟩
    rw [xn_c (by omega), e1] at g
    exact absurd ((xn_le (by omega) (by omega)).mpr (by omega)) g
  | succ k ih =>
    intro y u M hy hL e1 e2 h0 hT hu hu2 hS h
    have hT0 := hT
    obtain ⟨t1, t2, t3⟩ := hT
    refine t11_readEdge_104 M _ _ hS ⟨ij, fun g => ?_, fun _ => ⟨fun z => absurd h0 z, fun _ => ⟨ij, ?_⟩⟩⟩
    · rw [xn_c (by omega), e1] at g
      exact absurd ((xn_le (by omega) (by omega)).mp g) (by omega)
    rw [xn_c (by omega), e2, ix3, ix1, ix2, xn_s, xn_c (by omega), xn_c (by omega), xn_c (by omega), t3 (f + 3 * y) (by omega), t3 (f + 3 * y + 1) (by omega), t3 (f + 3 * y + 2) (by omega)]
    have v0 : ∀ z, z < sz → vp_in (Int32.ofNat z) 20000 := fun z hz => xn_in (by omega) (by decide)
    have hl : rrF (lkS L) T sz f (k + 1) y u = (match rrS (lkS L) T sz (T (f + 3 * y)) (T (f + 3 * y + 1)) (Int32.toInt64 (T (f + 3 * y + 2))) u with
      | .error e => .error e
      | .ok v => rrF (lkS L) T sz f k (y + 1) v) := rfl
    refine ⟨v0 _ (by omega), v0 _ (by omega), v0 _ (by omega), s11_readReason hL hlen h0 hT0 hu hu2 hS ⟨fun e hr M1 s1 e1' hS => ⟨rfl, hS, fun hS => ?_⟩, fun v hr M1 s1 o1 hS => ⟨rfl, hS, fun hS => ?_⟩⟩⟩
    · have fin := h.1 e (by rw [hl, hr]) M1 s1 e1'
      exact t11_readEdge_104 M1 _ _ hS ⟨ij, fun _ => fin, fun _ => ⟨fun _ => fin, fun z => absurd z e1'.nz⟩⟩
    · rw [hr] at hl
      exact ih (y + 1) v M1 (by omega) (hL.f3 s1) (by rw [s1.1 _ _ (by omega)]; exact e1) (by rw [s1.1 _ _ (by omega)]; exact e2) o1.1 (hT0.f3 s1) o1.2.1 (rrS_ok hr) hS ⟨fun e q M2 s2 e2 hS => h.1 e (hl.trans q) M2 (s1.tr s2) e2 hS, fun w q M2 s2 o2 hS => h.2 w (hl.trans q) M2 (s1.tr s2) ⟨o2.1, o2.2.1, o2.2.2.trans o1.2.2⟩ hS⟩
theorem tsL_len {o a q k : Int32} {j : Bool} {T : Nat → Int32} {f m : Nat} (hm : m ≤ 24) : (tsL o a q k j T f m).length ≤ 1200 := by
  have h1 := kpL_len (o := o) (a := a) (q := q) (k := k) (T := T) (f := f) m 0
  have h2 := fuL_len (o := o) (a := a) (q := q) (k := k) (jump := j) (n := Int32.ofNat m)
  have h3 : ∀ n v, (suL a q T f m n v).length ≤ m * n := by
    intro n
    induction n with
    | zero => exact fun v => Nat.zero_le _
    | succ n ih =>
      intro v
      unfold suL
      rw [List.length_append]
      have := suR_len (a := a) (q := q) (T := T) (f := f) (m := m) (x := v) m 0
      have := ih (v + 1)
      have : m * (n + 1) = m * n + m := Nat.mul_succ m n
      omega
  have h4 := h3 m 0
  have hmm : m * m ≤ 24 * 24 := Nat.mul_le_mul hm hm
  unfold tsL
  rw [List.length_append, List.length_append]
  by_cases g : o = 4
  · rw [if_pos g]; omega
  · rw [if_neg g]; show _ + 0 ≤ _; omega
theorem s11_readEdge {i j m u : Nat} {e : Bool} {F : Flt} {n : Nat} {C : Nat → Option Nat} {f : Nat → Nat} {M : xm_M} (hn : n ≤ 48) (hi : i < n) (hj : j < n) (hF : flM b M F) (hend : enI (F.1 i) (F.2.2.2.2 i) (Int32.ofNat i) (xz e) = Int32.ofNat j) (hc : C i = some m) (hX : fcM b M n C f) (hK : fcK sz n C f) (h0 : xm_gi M (b + 154) 31 = 0) (hT : tpM b M T sz) (hu : xm_gi M (b + 154) 30 = Int32.ofNat u) (hu2 : u ≤ sz) (hS : xm_st b c p M) (h : PmV b c p Q M (e1S (fsI F i e T (f i) m) T sz (C j) (f j) u)) : xm_C l E y11_readEdge rm11_readEdge [.ref (b + 154), .int (Int32.ofNat i), .int (xz e)] M Q := by
  obtain ⟨k0, k1, k2, k3, k4⟩ := hF i (by omega)
  obtain ⟨x1, x2⟩ := hX i hi
  rw [hc] at x1
  have x1 : xm_gi M (b + 175) i = Int32.ofNat m := x1
  obtain ⟨m1, m2⟩ := (hK i hi).2 m hc
  obtain ⟨y1, y2⟩ := hX j hj
  have hfs : fsI F i e T (f i) m = lkS (tsL (F.1 i) (F.2.1 i) (F.2.2.1 i) (F.2.2.2.1 i) e T (f i) m) := funext (fun x => (lk_E m1 x).symm)
  rw [hfs] at h
  have hlen := tsL_len (o := F.1 i) (a := F.2.1 i) (q := F.2.2.1 i) (k := F.2.2.2.1 i) (j := e) (T := T) (f := f i) m1
  refine xm_enter (by decide) (Nat.le_of_ble_eq_true rfl) (t11_readEdge_0 M _ _ hS (s11_end (by omega) hS (fun hS => ⟨_, rfl, hS, ?_⟩)))
  rw [k0, k4, hend]
  refine ⟨fun z => absurd ((xn_lt (b := 0) (by omega) (by decide)).mp z) (by omega), fun _ => ⟨fun _ => ?_, fun z => absurd h0 z⟩⟩
  refine s11_readIn h0 hT hu hu2 hS (fun er hr M1 v s1 e1 hS => ⟨_, rfl, hS, fun z => absurd z e1.nz, fun _ hS => ?_⟩) (fun r hr M1 s1 o1 hS => ⟨_, rfl, hS, fun _ => ?_, fun z => absurd o1.1 z⟩)
  · exact h.1 er (by unfold e1S; rw [hr]) M1 s1.v e1 hS
  generalize hLs : tsL (F.1 i) (F.2.1 i) (F.2.2.1 i) (F.2.2.2.1 i) e T (f i) m = L at h hlen
  have hl : e1S (lkS L) T sz (C j) (f j) u = (if r.1 = 0 then e1C (lkS L) T sz (C j) (f j) u r.2 else (match rdW T sz 0 9 r.2 with
      | .error e => .error e
      | .ok (y, w) => rrS (lkS L) T sz y y (-1) w)) := by
    unfold e1S
    rw [hr]
    obtain ⟨r1, r2⟩ := r
    rfl
  obtain ⟨g1, g2, g3, g4⟩ := rdW_ok hr
  subst g2
  have hz := hT.1
  have e5 : xm_gi M1 (b + 154) 30 - 1 = Int32.ofNat u := by
    rw [o1.2.1, show Int32.ofNat (u + 1) = Int32.ofNat u + 1 from Int32.ofNat_add u 1]
    exact Int32.add_sub_cancel _ _
  rw [e5]
  have t01 : T u = 0 ∨ T u = 1 := by
    have g4 : T u ≤ 1 := g4
    have g3 : ¬ T u < 0 := g3
    rw [Int32.le_iff_toInt_le, show (1 : Int32).toInt = 1 by decide] at g4
    rw [Int32.lt_iff_toInt_lt, show (0 : Int32).toInt = 0 by decide] at g3
    have : (T u).toInt = 0 ∨ (T u).toInt = 1 := by omega
    exact this.imp (fun q => Int32.toInt_inj.mp (by rw [q]; decide)) (fun q => Int32.toInt_inj.mp (by rw [q]; decide))
  refine s11_tapeSteps (F := F) (by omega) m1 m2 (hT.f3 s1) (fun i' hi' => by rw [s1.1 _ _ (by omega), s1.1 _ _ (by omega), s1.1 _ _ (by omega), s1.1 _ _ (by omega), s1.1 _ _ (by omega)]; exact hF i' hi') (by rw [s1.1 _ _ (by omega)]; exact x1) (by rw [s1.1 _ _ (by omega)]; exact x2) hS (fun M2 s2 l2 hS => ⟨rfl, hS, ?_⟩)
  rw [hLs] at l2
  have s12 : smV b M M2 := s1.v.tr s2.v
  have o2 : O3 b M M2 (u + 1) := ⟨by rw [s2.1 _ _ (by omega)]; exact o1.1, by rw [s2.1 _ _ (by omega)]; exact o1.2.1, by rw [s2.1 _ _ (by omega)]; exact o1.2.2⟩
  refine ⟨fun g => ⟨xn_in (by omega) (by decide), ?_⟩, fun g => ?_⟩
  · have g : T u = 0 := t01.resolve_right g
    have hl := hl.trans (if_pos g)
    have y1' : xm_gi M2 (b + 175) j = cI (C j) := by rw [s12.1 _ _ (by omega)]; exact y1
    have y2' : xm_gi M2 (b + 174) j = Int32.ofNat (f j) := by rw [s12.1 _ _ (by omega)]; exact y2
    have hKj := (hK j hj).2
    rw [xn_c (by omega), y1']
    generalize C j = cj at h hl y1' hKj
    cases cj with
    | none =>
      refine ⟨fun z => absurd z (by decide), fun _ => s11_fail o2.1 (by decide) hS (fun M3 s3 e3 _ hS => ⟨rfl, hS, fun hS => ?_⟩)⟩
      exact h.1 _ hl M3 (s12.tr s3.v) e3 hS
    | some mj =>
      obtain ⟨n1, n2⟩ := hKj mj rfl
      refine ⟨fun _ hS => ?_, fun z => absurd ((xn_le (a := 0) (by decide) (by omega)).mpr (Nat.zero_le _)) z⟩
      exact lp_re104 (by omega) n1 n2 hlen mj 0 (u + 1) M2 (by omega) l2 y1' y2' o2.1 (hT.fv s12) o2.2.1 (by omega) hS ⟨fun er q M3 s3 e3 hS => h.1 er (hl.trans q) M3 (s12.tr s3.v) e3 hS, fun w q M3 s3 o3 hS => h.2 w (hl.trans q) M3 (s12.tr s3.v) ⟨o3.1, o3.2.1, o3.2.2.trans o2.2.2⟩ hS⟩
  · have hl := hl.trans (if_neg (fun q => by rw [g] at q; exact absurd q (by decide)))
    refine s11_readIn o2.1 (hT.fv s12) o2.2.1 (by omega) hS (fun er hr2 M3 v s3 e3 hS => ⟨_, rfl, hS, fun _ hS => ?_, fun z => absurd z e3.nz⟩) (fun r hr2 M3 s3 o3 hS => ⟨_, rfl, hS, fun z => absurd o3.1 z, fun _ => ?_⟩)
    · exact h.1 er (by rw [hl, hr2]) M3 (s12.tr s3.v) e3 hS
    · rw [hr2] at hl
      obtain ⟨g5, g6, _⟩ := rdW_ok hr2
      subst g6
      exact s11_readReason (l2.f3 s3) hlen o3.1 ((hT.fv s12).f3 s3) o3.2.1 (by omega) hS ⟨fun er q M4 s4 e4 hS => ⟨rfl, hS, fun hS => h.1 er (hl.trans q) M4 (s12.tr (s3.tr s4).v) e4 hS⟩, fun w q M4 s4 o4 hS => ⟨rfl, hS, fun hS => h.2 w (hl.trans q) M4 (s12.tr (s3.tr s4).v) ⟨o4.1, o4.2.1, o4.2.2.trans (o3.2.2.trans o2.2.2)⟩ hS⟩⟩
end QM
