/-! the class's tables of facts -/
def cI : Option Nat → Int32
  | none => -1
  | some m => Int32.ofNat m
def cN (x : Int32) : Option Nat := if x = -1 then none else some x.toNatClampNeg
def upN {α : Type} (C : Nat → α) (i : Nat) (v : α) : Nat → α := fun j => if j = i then v else C j
def rdI (T : Nat → Int32) (sz : Nat) : Nat → Nat → Nat → (Nat → Option Nat) → (Nat → Nat) → Except FpT ((Nat → Option Nat) × (Nat → Nat) × Nat)
  | 0, _, u, C, f => if C 0 = none then .error (7, 0) else .ok (C, f, u)
  | k + 1, i, u, C, f => match rdW T sz (-1) 24 u with
    | .error e => .error e
    | .ok (x, v) => match rdK T sz x.toNatClampNeg v with
      | .error e => .error e
      | .ok w => rdI T sz k (i + 1) w (upN C i (cN x)) (upN f i v)
theorem cl_le {x : Int32} {j : Nat} (hj : j < 2 ^ 31) : x ≤ Int32.ofNat j ↔ x.toNatClampNeg ≤ j := by
  rw [Int32.le_iff_toInt_le, toInt_of rfl hj]
  show x.toInt ≤ (j : Int) ↔ x.toInt.toNat ≤ j
  omega
theorem cl_24 {x : Int32} (h : x ≤ 24) : x.toNatClampNeg ≤ 24 := (cl_le (j := 24) (by decide)).mp h
theorem cN_I {x : Int32} (h : ¬ x < -1) (h2 : x ≤ 24) : x = cI (cN x) := by
  unfold cN
  by_cases g : x = -1
  · rw [if_pos g]; exact g
  · rw [if_neg g]
    rw [Int32.lt_iff_toInt_lt, show (-1 : Int32).toInt = -1 by decide] at h
    have g2 : ¬ x.toInt = -1 := fun q => g (Int32.toInt_inj.mp (by rw [q]; decide))
    have := cl_24 h2
    show x = Int32.ofNat x.toNatClampNeg
    refine Int32.toInt_inj.mp ?_
    rw [toInt_of rfl (by omega)]
    show x.toInt = (x.toInt.toNat : Int)
    omega
theorem cN_le {x : Int32} (h2 : x ≤ 24) {m : Nat} (h : cN x = some m) : m = x.toNatClampNeg ∧ m ≤ 24 := by
  unfold cN at h
  by_cases g : x = -1
  · rw [if_pos g] at h; cases h
  · rw [if_neg g] at h; cases h; exact ⟨rfl, cl_24 h2⟩
def smQ (b : Nat) (M N : xm_M) : Prop := (∀ x k, ¬ (b + 145 ≤ x ∧ x ≤ b + 150) → xm_gi N x k = xm_gi M x k) ∧ ∀ x k, ¬ (b + 145 ≤ x ∧ x ≤ b + 150) → xm_gl N x k = xm_gl M x k
theorem smQ.rf {b : Nat} {M : xm_M} : smQ b M M := ⟨fun _ _ _ => rfl, fun _ _ _ => rfl⟩
theorem smQ.tr {b : Nat} {M N P : xm_M} (h : smQ b M N) (g : smQ b N P) : smQ b M P := ⟨fun x k q => (g.1 x k q).trans (h.1 x k q), fun x k q => (g.2 x k q).trans (h.2 x k q)⟩
theorem smR.q {b : Nat} {M N : xm_M} (h : smR b M N) : smQ b M N := ⟨fun x k q => h.1 x k (by omega), fun x k q => h.2 x k (by omega)⟩
theorem smQ.pi {b a k : Nat} {M N : xm_M} {v : Int32} (h : smQ b M N) (ha : b + 145 ≤ a ∧ a ≤ b + 150) : smQ b M (xm_pi N a k v) := ⟨fun x j hx => (if_neg (fun q => hx (by rw [q.1]; exact ha))).trans (h.1 x j hx), h.2⟩
theorem tpX.fq {b sz : Nat} {M N : xm_M} {T : Nat → Int32} (h : tpX b M T sz) (s : smQ b M N) : tpX b N T sz := ⟨h.1, by rw [s.1 _ _ (by omega)]; exact h.2.1, fun j hj => by rw [s.1 _ _ (by omega)]; exact h.2.2 j hj⟩
def fcX (b : Nat) (M : xm_M) (n : Nat) (C : Nat → Option Nat) (f : Nat → Nat) : Prop := ∀ j, j < n → xm_gi M (b + 146) j = cI (C j) ∧ xm_gi M (b + 147) j = Int32.ofNat (f j)
def fcK (sz n : Nat) (C : Nat → Option Nat) (f : Nat → Nat) : Prop := ∀ j, j < n → f j ≤ sz ∧ ∀ m, C j = some m → m ≤ 24 ∧ f j + 3 * m ≤ sz
theorem fcX.fr {b n : Nat} {M N : xm_M} {C : Nat → Option Nat} {f : Nat → Nat} (h : fcX b M n C f) (s : smR b M N) : fcX b N n C f := fun j hj => by rw [s.1 _ _ (by omega), s.1 _ _ (by omega)]; exact h j hj
theorem fcK_up {T : Nat → Int32} {sz i u w : Nat} {C : Nat → Option Nat} {f : Nat → Nat} {r : Int32 × Nat} (h : fcK sz i C f) (hr : rdW T sz (-1) 24 u = .ok r) (hk : rdK T sz r.1.toNatClampNeg r.2 = .ok w) : fcK sz (i + 1) (upN C i (cN r.1)) (upN f i r.2) := fun j hj => by
  obtain ⟨g1, g2, g3, g4⟩ := rdW_ok hr
  subst g2
  unfold upN
  by_cases e : j = i
  · rw [if_pos e, if_pos e]
    have := rdK_ok _ (show u + 1 ≤ sz by omega) hk
    refine ⟨by show u + 1 ≤ sz; omega, fun m hm => ?_⟩
    obtain ⟨q1, q2⟩ := cN_le g4 hm
    refine ⟨q2, ?_⟩
    show u + 1 + 3 * m ≤ sz
    rw [q1]; exact this.2
  · rw [if_neg e, if_neg e]; exact h j (by omega)
theorem rdI_ok {T : Nat → Int32} {sz : Nat} : ∀ (k i u : Nat) (C : Nat → Option Nat) (f : Nat → Nat) (r : (Nat → Option Nat) × (Nat → Nat) × Nat), u ≤ sz → fcK sz i C f → rdI T sz k i u C f = .ok r → fcK sz (i + k) r.1 r.2.1 ∧ r.2.2 ≤ sz ∧ ¬ r.1 0 = none
  | 0, i, u, C, f, r, hu, hf, h => by
    unfold rdI at h
    by_cases g : C 0 = none
    · rw [if_pos g] at h; cases h
    · rw [if_neg g] at h; cases h; exact ⟨hf, hu, g⟩
  | k + 1, i, u, C, f, r, hu, hf, h => by
    unfold rdI at h
    cases h1 : rdW T sz (-1) 24 u with
    | error e => rw [h1] at h; cases h
    | ok s =>
      rw [h1] at h
      simp only at h
      cases h2 : rdK T sz s.1.toNatClampNeg s.2 with
      | error e => rw [h2] at h; cases h
      | ok w =>
        rw [h2] at h
        have h3 := fcK_up hf h1 h2
        obtain ⟨g1, g2, _⟩ := rdW_ok h1
        have h4 := (rdK_ok _ (show s.2 ≤ sz by rw [g2]; show u + 1 ≤ sz; omega) h2)
        have := rdI_ok k (i + 1) w _ _ r (by omega) h3 h
        rw [show i + (k + 1) = i + 1 + k by omega]; exact this
section RF
variable {l : Launch} {E : xm_E} {b : Nat} {c p : Bool} {Q : Option Value → xm_M → Prop} {T : Nat → Int32} {sz : Nat}
theorem lp_rf47 {i m : Nat} (hi : i < 48) (hm : m ≤ 24) : ∀ (k j u : Nat) (M : xm_M), j + k = m → tpX b M T sz → xm_gi M (b + 145) 7 = Int32.ofNat u → u ≤ sz → (xm_gi M (b + 146) i).toNatClampNeg = m → xm_st b true p M →
    (∀ e, rdK T sz k u = .error e → ∀ M1, smR b M M1 → xm_st b true p M1 → xm_gi M1 (b + 145) 9 = e.1 → xm_gi M1 (b + 145) 10 = e.2 → Q (some (.int 0)) M1) →
    (∀ v, rdK T sz k u = .ok v → ∀ M1, smR b M M1 → xm_st b true p M1 → xm_gi M1 (b + 145) 9 = xm_gi M (b + 145) 9 → xm_gi M1 (b + 145) 10 = xm_gi M (b + 145) 10 → okU b v M1 → xm_X l E y9_readFacts rm9_readFacts Q 2 [(0, .ref (b + 145)), (1, .int (Int32.ofNat (i + 1)))] [] 0 0 M1) →
    xm_X l E y9_readFacts rm9_readFacts Q 47 [(0, .ref (b + 145)), (1, .int (Int32.ofNat i)), (2, .int (Int32.ofNat j))] [] 0 0 M := by
  intro k
  induction k with
  | zero =>
    intro j u M hj hT hu hu2 hc hS he ho
    refine t9_readFacts_47 (c := true) M _ _ hS ⟨xn_in hi (by decide), fun g hS => ?_, fun g => ?_⟩
    · rw [xn_s]; exact ho u rfl M smR.rf hS rfl rfl hu
    · rw [xn_c (by omega)] at g
      exact absurd ((cl_le (by omega)).mpr (by omega)) g
  | succ k ih =>
    intro j u M hj hT hu hu2 hc hS he ho
    refine t9_readFacts_47 (c := true) M _ _ hS ⟨xn_in hi (by decide), fun g hS => ?_, fun g => ?_⟩
    · rw [xn_c (by omega)] at g
      exact absurd ((cl_le (by omega)).mp g) (by omega)
    · refine s9_readFact hT hu hu2 hS ⟨fun e hr M1 s1 hS e1 e2 => ⟨false, rfl, hS, fun q => absurd rfl q, fun _ hS => ?_⟩, fun v hr M1 s1 hS e1 e2 e3 => ⟨true, rfl, hS, fun _ hS => ?_, fun q => absurd q (by decide)⟩⟩
      · exact he e (by unfold rdK; rw [hr]) M1 s1 hS e1 e2
      · rw [xn_s]
        obtain ⟨v1, v2⟩ := rdF_ok hr
        have hk : rdK T sz (k + 1) u = rdK T sz k v := by
          show (match rdF T sz u with | .error e => Except.error e | .ok v => rdK T sz k v) = _
          rw [hr]
        refine ih (j + 1) v M1 (by omega) (hT.fr s1) e3 (by omega) (by rw [s1.1 _ _ (by omega)]; exact hc) hS (fun e q M2 s2 hS a1 a2 => ?_) (fun w q M2 s2 hS a1 a2 a3 => ?_)
        · exact he e (hk.trans q) M2 (s1.tr s2) hS a1 a2
        · exact ho w (hk.trans q) M2 (s1.tr s2) hS (a1.trans e1) (a2.trans e2) a3
theorem lp_rf2 {n : Nat} (hn : n ≤ 48) : ∀ (k i u : Nat) (M : xm_M) (C : Nat → Option Nat) (f : Nat → Nat), i + k = n → 0 < n → tpX b M T sz → xm_gi M (b + 1) 2 = Int32.ofNat n → xm_gi M (b + 145) 7 = Int32.ofNat u → u ≤ sz → fcX b M i C f → fcK sz i C f → xm_st b true p M →
    (∀ e, rdI T sz k i u C f = .error e → ∀ M1, smQ b M M1 → xm_st b true p M1 → xm_gi M1 (b + 145) 9 = e.1 → xm_gi M1 (b + 145) 10 = e.2 → Q (some (.int 0)) M1) →
    (∀ r, rdI T sz k i u C f = .ok r → ∀ M1, smQ b M M1 → xm_st b true p M1 → xm_gi M1 (b + 145) 9 = xm_gi M (b + 145) 9 → xm_gi M1 (b + 145) 10 = xm_gi M (b + 145) 10 → okU b r.2.2 M1 → fcX b M1 n r.1 r.2.1 → Q (some (.int 1)) M1) →
    xm_X l E y9_readFacts rm9_readFacts Q 2 [(0, .ref (b + 145)), (1, .int (Int32.ofNat i))] [] 0 0 M := by
  intro k
  induction k with
  | zero =>
    intro i u M C f hi h0 hT hc hu hu2 hX hK hS he ho
    have hi : i = n := by omega
    subst hi
    refine t9_readFacts_2 (c := true) M _ hS ⟨fun g => ?_, fun g => ?_⟩
    · have c0 : (0 : Int32).toNatClampNeg = 0 := by decide
      have e0 := (hX 0 h0).1
      rw [c0, e0]
      refine ⟨fun g2 hS => ?_, fun g2 => s9_refuse hS (fun M1 s1 hS a1 a2 => ⟨false, rfl, hS, fun _ hS => ?_, fun q => absurd rfl q⟩)⟩
      · have hne : ¬ C 0 = none := fun q => g2 (by rw [q]; rfl)
        exact ho (C, f, u) (if_neg hne) M smQ.rf hS rfl rfl hu hX
      · have hne : C 0 = none := by
          cases hq : C 0 with
          | none => rfl
          | some m =>
            rw [hq] at g2
            have := (hK 0 h0).2 m hq
            have g3 := congrArg Int32.toInt g2
            rw [show (cI (some m)).toInt = (m : Int) from toInt_of rfl (by omega), show (-1 : Int32).toInt = -1 by decide] at g3
            omega
        exact he (7, 0) (if_pos hne) M1 s1.q hS a1 a2
    · rw [hc] at g
      exact absurd ((xn_le (by omega) (by omega)).mpr (Nat.le_refl _)) g
  | succ k ih =>
    intro i u M C f hi h0 hT hc hu hu2 hX hK hS he ho
    have ii : vp_in (Int32.ofNat i) 48 := xn_in (by omega) (by decide)
    refine t9_readFacts_2 (c := true) M _ hS ⟨fun g => ?_, fun g => ?_⟩
    · rw [hc] at g
      exact absurd ((xn_le (by omega) (by omega)).mp g) (by omega)
    · refine s9_readWithin hT hu hu2 hS ⟨fun e hr M1 s1 hS e1 e2 => ⟨false, rfl, hS, fun q => absurd rfl q, fun _ hS => ?_⟩, fun r hr M1 s1 hS e1 e2 e3 => ⟨true, rfl, hS, fun _ => ⟨ii, ii, fun hS => ?_⟩, fun q => absurd q (by decide)⟩⟩
      · exact he e (by unfold rdI; rw [hr]) M1 s1.q hS e1 e2
      · have hk0 : rdI T sz (k + 1) i u C f = (match rdK T sz r.1.toNatClampNeg r.2 with | .error e => Except.error e | .ok w => rdI T sz k (i + 1) w (upN C i (cN r.1)) (upN f i r.2)) := by
          show (match rdW T sz (-1) 24 u with | .error e => Except.error e | .ok (x, v) => match rdK T sz x.toNatClampNeg v with | .error e => Except.error e | .ok w => rdI T sz k (i + 1) w (upN C i (cN x)) (upN f i v)) = _
          rw [hr]
        obtain ⟨g1, g2, g3, g4⟩ := rdW_ok hr
        subst g2
        obtain ⟨e3, e4⟩ := e3
        rw [xn_c (by omega)] at hS ⊢
        have e5 : xm_gi (xm_pi M1 (b + 146) i (xm_gi M1 (b + 145) 8)) (b + 145) 7 = Int32.ofNat (u + 1) := by rw [gi_pi, if_neg (by omega)]; exact e4
        rw [e5] at hS ⊢
        rw [e3] at hS ⊢
        have sQ : smQ b M1 (xm_pi (xm_pi M1 (b + 146) i (T u)) (b + 147) i (Int32.ofNat (u + 1))) := (smQ.rf.pi (by omega)).pi (by omega)
        have f45 : ∀ k, xm_gi (xm_pi (xm_pi M1 (b + 146) i (T u)) (b + 147) i (Int32.ofNat (u + 1))) (b + 145) k = xm_gi M1 (b + 145) k := fun k => by rw [gi_pi, if_neg (by omega), gi_pi, if_neg (by omega)]
        have f46 : xm_gi (xm_pi (xm_pi M1 (b + 146) i (T u)) (b + 147) i (Int32.ofNat (u + 1))) (b + 146) i = T u := by rw [gi_pi, if_neg (by omega), gi_pi, if_pos ⟨rfl, rfl⟩]
        have hX2 : fcX b (xm_pi (xm_pi M1 (b + 146) i (T u)) (b + 147) i (Int32.ofNat (u + 1))) (i + 1) (upN C i (cN (T u))) (upN f i (u + 1)) := fun j hj => by
          unfold upN
          rw [gi_pi, if_neg (by omega), gi_pi, gi_pi]
          by_cases e : j = i
          · rw [if_pos ⟨rfl, e⟩, if_pos e, if_pos ⟨rfl, e⟩, if_pos e]
            exact ⟨cN_I g3 g4, rfl⟩
          · rw [if_neg (fun q => e q.2), if_neg e, if_neg (fun q => e q.2), if_neg e, gi_pi, if_neg (by omega)]
            exact (hX.fr s1) j (by omega)
        generalize xm_pi (xm_pi M1 (b + 146) i (T u)) (b + 147) i (Int32.ofNat (u + 1)) = M2 at sQ f45 f46 hX2 hS ⊢
        have s2 : smQ b M M2 := s1.q.tr sQ
        refine lp_rf47 (by omega) (cl_24 g4) (T u).toNatClampNeg 0 (u + 1) M2 (by omega) (hT.fq s2) (by rw [f45]; exact e4) (by omega) (by rw [f46]) hS (fun e hr2 M3 s3 hS a1 a2 => ?_) (fun w hr2 M3 s3 hS a1 a2 a3 => ?_)
        · exact he e (by rw [hk0]; show (match rdK T sz (T u).toNatClampNeg (u + 1) with | .error e => Except.error e | .ok w => _) = _; rw [hr2]) M3 (s2.tr s3.q) hS a1 a2
        · have hk1 : rdI T sz (k + 1) i u C f = rdI T sz k (i + 1) w (upN C i (cN (T u))) (upN f i (u + 1)) := by
            rw [hk0]; show (match rdK T sz (T u).toNatClampNeg (u + 1) with | .error e => Except.error e | .ok w => _) = _; rw [hr2]
          have := rdK_ok _ (show u + 1 ≤ sz by omega) hr2
          refine ih (i + 1) w M3 _ _ (by omega) h0 (hT.fq (s2.tr s3.q)) (by rw [(s2.tr s3.q).1 _ _ (by omega)]; exact hc) a3 (by omega) (hX2.fr s3) (fcK_up hK hr hr2) hS (fun e q M4 s4 hS c1 c2 => ?_) (fun r q M4 s4 hS c1 c2 c3 c4 => ?_)
          · exact he e (hk1.trans q) M4 ((s2.tr s3.q).tr s4) hS c1 c2
          · exact ho r (hk1.trans q) M4 ((s2.tr s3.q).tr s4) hS (c1.trans (a1.trans ((f45 9).trans e1))) (c2.trans (a2.trans ((f45 10).trans e2))) c3 c4
end RF
