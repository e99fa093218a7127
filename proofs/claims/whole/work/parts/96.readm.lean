/-! the reference's reading -/
def sm3 (b : Nat) (M N : xm_M) : Prop := (∀ x k, ¬ (x = b + 154 ∧ (k = 9 ∨ k = 30 ∨ k = 31)) → xm_gi N x k = xm_gi M x k) ∧ ∀ x k, xm_gl N x k = xm_gl M x k
theorem sm3.rf {b : Nat} {M : xm_M} : sm3 b M M := ⟨fun _ _ _ => rfl, fun _ _ => rfl⟩
theorem sm3.tr {b : Nat} {M N P : xm_M} (h : sm3 b M N) (g : sm3 b N P) : sm3 b M P := ⟨fun x k q => (g.1 x k q).trans (h.1 x k q), fun x k => (g.2 x k).trans (h.2 x k)⟩
theorem sm3.pi {b k : Nat} {M N : xm_M} {v : Int32} (h : sm3 b M N) (hk : k = 9 ∨ k = 30 ∨ k = 31) : sm3 b M (xm_pi N (b + 154) k v) := ⟨fun x j hx => (if_neg (fun q => hx ⟨q.1, by rw [q.2]; exact hk⟩)).trans (h.1 x j hx), h.2⟩
def E3 (b : Nat) (M1 : xm_M) (e : FpT) : Prop := xm_gi M1 (b + 154) 31 = e.1 ∧ ¬ e.1 = 0 ∧ xm_gi M1 (b + 154) 9 = e.2
def O3 (b : Nat) (M M1 : xm_M) (u : Nat) : Prop := xm_gi M1 (b + 154) 31 = 0 ∧ xm_gi M1 (b + 154) 30 = Int32.ofNat u ∧ xm_gi M1 (b + 154) 9 = xm_gi M (b + 154) 9
theorem tpM.f3 {b sz : Nat} {T : Nat → Int32} {M N : xm_M} (h : tpM b M T sz) (s : sm3 b M N) : tpM b N T sz := ⟨h.1, by rw [s.1 _ _ (by omega)]; exact h.2.1, fun j hj => by rw [s.1 _ _ (by omega)]; exact h.2.2 j hj⟩
theorem lsM.f3 {b : Nat} {M N : xm_M} {L : List NsT} (h : lsM b M L) (s : sm3 b M N) : lsM b N L := ⟨by rw [s.1 _ _ (by omega)]; exact h.1, fun j t ht => by rw [s.1 _ _ (by omega), s.1 _ _ (by omega), s.1 _ _ (by omega), s.2]; exact h.2 j t ht⟩
theorem E3.nz {b : Nat} {M1 : xm_M} {e : FpT} (h : E3 b M1 e) : ¬ xm_gi M1 (b + 154) 31 = 0 := fun q => h.2.1 (h.1.symm.trans q)
def Pm3 (b : Nat) (c p : Bool) (Q : Option Value → xm_M → Prop) (M : xm_M) (o : Except FpT Nat) : Prop :=
  (∀ e, o = .error e → ∀ M1, sm3 b M M1 → E3 b M1 e → xm_st b c p M1 → Q none M1) ∧ ∀ v, o = .ok v → ∀ M1, sm3 b M M1 → O3 b M M1 v → xm_st b c p M1 → Q none M1
section RM
variable {l : Launch} {E : xm_E} {b : Nat} {c p : Bool} {Q : Option Value → xm_M → Prop} {T : Nat → Int32} {sz : Nat}
theorem s11_fail {w q : Int32} {M : xm_M} (h0 : xm_gi M (b + 154) 31 = 0) (hw : ¬ w = 0) (hS : xm_st b c p M) (h : ∀ M1, sm3 b M M1 → E3 b M1 (w, q) → xm_gi M1 (b + 154) 30 = xm_gi M (b + 154) 30 → xm_st b c p M1 → Q none M1) : xm_C l E y11_fail rm11_fail [.ref (b + 154), .int w, .int q] M Q :=
  xm_enter (by decide) (Nat.le_of_ble_eq_true rfl) (t11_fail_0 M w q hS ⟨fun _ hS => h _ ((sm3.rf.pi (by omega)).pi (by omega)) ⟨by rw [gi_pi, if_neg (by omega), gi_pi, if_pos ⟨rfl, rfl⟩], hw, by rw [gi_pi, if_pos ⟨rfl, rfl⟩]⟩ (by rw [gi_pi, if_neg (by omega), gi_pi, if_neg (by omega)]) hS, fun z => absurd h0 z⟩)
theorem s11_read {u : Nat} {M : xm_M} (h0 : xm_gi M (b + 154) 31 = 0) (hT : tpM b M T sz) (hu : xm_gi M (b + 154) 30 = Int32.ofNat u) (hu2 : u ≤ sz) (hS : xm_st b c p M)
    (he : ∀ e, rdA T sz u = .error e → ∀ M1, sm3 b M M1 → E3 b M1 e → xm_st b c p M1 → Q (some (.int 0)) M1) (ho : ∀ r, rdA T sz u = .ok r → ∀ M1, sm3 b M M1 → O3 b M M1 r.2 → xm_st b c p M1 → Q (some (.int r.1)) M1) : xm_C l E y11_read rm11_read [.ref (b + 154)] M Q := by
  obtain ⟨h1, h2, h3⟩ := hT
  refine xm_enter (by decide) (Nat.le_of_ble_eq_true rfl) (t11_read_0 M hS ⟨fun _ => ?_, fun z => absurd h0 z⟩)
  rw [hu, h2]
  have eq : Int32.ofNat u = Int32.ofNat sz ↔ u = sz := by
    refine ⟨fun q => ?_, fun q => by rw [q]⟩
    have := congrArg Int32.toInt q
    rw [toInt_of rfl (by omega), toInt_of rfl (by omega)] at this
    omega
  refine ⟨fun g => ?_, fun g => ?_⟩
  · have g : u < sz := by have : ¬ u = sz := fun q => g (eq.mpr q)
                          omega
    have e1 : xm_gi (xm_pi M (b + 154) 30 (Int32.ofNat u + 1)) (b + 154) 30 - 1 = Int32.ofNat u := by
      rw [gi_pi, if_pos ⟨rfl, rfl⟩]; exact Int32.add_sub_cancel _ _
    rw [e1, xn_c (by omega)]
    refine ⟨xn_in (by omega) (by decide), fun hS => ?_⟩
    have e2 : xm_gi (xm_pi M (b + 154) 30 (Int32.ofNat u + 1)) (b + 160) u = T u := by rw [gi_pi, if_neg (by omega)]; exact h3 u g
    rw [e2]
    exact ho (T u, u + 1) (if_pos g) _ (sm3.rf.pi (by omega)) ⟨by rw [gi_pi, if_neg (by omega)]; exact h0, by rw [gi_pi, if_pos ⟨rfl, rfl⟩]; exact ix1 u, by rw [gi_pi, if_neg (by omega)]⟩ hS
  · have g := eq.mp g
    exact s11_fail h0 (by decide) hS (fun M1 s1 e1 _ hS => ⟨rfl, hS, fun hS => he _ (if_neg (by omega)) M1 s1 e1 hS⟩)
theorem s11_read_f {M : xm_M} (h0 : ¬ xm_gi M (b + 154) 31 = 0) (hS : xm_st b c p M) (h : xm_st b c p M → Q (some (.int 0)) M) : xm_C l E y11_read rm11_read [.ref (b + 154)] M Q :=
  xm_enter (by decide) (Nat.le_of_ble_eq_true rfl) (t11_read_0 M hS ⟨fun z => absurd z h0, fun _ => h⟩)
theorem s11_readIn {u : Nat} {lo hi : Int32} {M : xm_M} (h0 : xm_gi M (b + 154) 31 = 0) (hT : tpM b M T sz) (hu : xm_gi M (b + 154) 30 = Int32.ofNat u) (hu2 : u ≤ sz) (hS : xm_st b c p M)
    (he : ∀ e, rdW T sz lo hi u = .error e → ∀ M1 v, sm3 b M M1 → E3 b M1 e → xm_st b c p M1 → Q (some (.int v)) M1) (ho : ∀ r, rdW T sz lo hi u = .ok r → ∀ M1, sm3 b M M1 → O3 b M M1 r.2 → xm_st b c p M1 → Q (some (.int r.1)) M1) : xm_C l E y11_readIn rm11_readIn [.ref (b + 154), .int lo, .int hi] M Q := by
  refine xm_enter (by decide) (Nat.le_of_ble_eq_true rfl) (t11_readIn_0 M lo hi hS (s11_read h0 hT hu hu2 hS (fun e hr M1 s1 e1 hS => ⟨_, rfl, hS, fun _ hS => ?_, fun z => absurd z e1.nz⟩) (fun r hr M1 s1 o1 hS => ⟨_, rfl, hS, fun z => absurd o1.1 z, fun _ => ?_⟩)))
  · exact he e (by unfold rdW; rw [hr]) M1 _ s1 e1 hS
  · obtain ⟨g1, g2⟩ := rdA_ok hr
    subst g2
    have e5 : xm_gi M1 (b + 154) 30 - 1 = Int32.ofNat u := by
      rw [o1.2.1, show Int32.ofNat (u + 1) = Int32.ofNat u + 1 from Int32.ofNat_add u 1]
      exact Int32.add_sub_cancel _ _
    rw [e5]
    refine ⟨fun g => s11_fail o1.1 (by decide) hS (fun M2 s2 e2 _ hS => ⟨rfl, hS, fun hS => ?_⟩), fun g => ⟨fun g2 hS => ?_, fun g2 => s11_fail o1.1 (by decide) hS (fun M2 s2 e2 _ hS => ⟨rfl, hS, fun hS => ?_⟩)⟩⟩
    · exact he (3, Int32.ofNat u) (by unfold rdW; rw [hr]; exact if_pos g) M2 _ (s1.tr s2) e2 hS
    · exact ho (T u, u + 1) (by unfold rdW; rw [hr]; exact (if_neg g).trans (if_pos g2)) M1 s1 o1 hS
    · exact he (3, Int32.ofNat u) (by unfold rdW; rw [hr]; exact (if_neg g).trans (if_neg g2)) M2 _ (s1.tr s2) e2 hS
theorem s11_readIn_f {lo hi : Int32} {M : xm_M} (h0 : ¬ xm_gi M (b + 154) 31 = 0) (hS : xm_st b c p M) (h : xm_st b c p M → Q (some (.int 0)) M) : xm_C l E y11_readIn rm11_readIn [.ref (b + 154), .int lo, .int hi] M Q :=
  xm_enter (by decide) (Nat.le_of_ble_eq_true rfl) (t11_readIn_0 M lo hi hS (s11_read_f h0 hS (fun hS => ⟨_, rfl, hS, fun _ => h, fun z => absurd z h0⟩)))
theorem rf27_f {x y : Int32} {M : xm_M} (h0 : ¬ xm_gi M (b + 154) 31 = 0) (hS : xm_st b c p M) (h : xm_st b c p M → Q none M) : xm_X l E y11_readFacts rm11_readFacts Q 27 [(0, .ref (b + 154)), (2, .int x), (3, .int y)] [] 0 0 M :=
  t11_readFacts_27 M x y hS ⟨fun _ => h, fun _ => ⟨fun _ => h, fun z => absurd z h0⟩⟩
theorem lp_rf27 {x : Int32} {m : Nat} (hx : x.toNatClampNeg = m) (hm : m ≤ 24) : ∀ (k j u : Nat) (M : xm_M), j + k = m → xm_gi M (b + 154) 31 = 0 → tpM b M T sz → xm_gi M (b + 154) 30 = Int32.ofNat u → u ≤ sz → xm_st b c p M → Pm3 b c p Q M (rdK T sz k u) →
    xm_X l E y11_readFacts rm11_readFacts Q 27 [(0, .ref (b + 154)), (2, .int x), (3, .int (Int32.ofNat j))] [] 0 0 M := by
  intro k
  induction k with
  | zero =>
    intro j u M hj h0 hT hu hu2 hS h
    refine t11_readFacts_27 M x _ hS ⟨fun _ hS => h.2 u rfl M sm3.rf ⟨h0, hu, rfl⟩ hS, fun g => ?_⟩
    exact absurd ((cl_le (by omega)).mpr (by omega)) g
  | succ k ih =>
    intro j u M hj h0 hT hu hu2 hS h
    refine t11_readFacts_27 M x _ hS ⟨fun g => absurd ((cl_le (by omega)).mp g) (by omega), fun _ => ⟨fun z => absurd h0 z, fun _ => ?_⟩⟩
    have hl : rdK T sz (k + 1) u = (match rdF T sz u with | .error e => Except.error e | .ok v => rdK T sz k v) := rfl
    refine s11_readIn h0 hT hu hu2 hS (fun e hr M1 v s1 e1 hS => ⟨_, rfl, hS, ?_⟩) (fun r hr M1 s1 o1 hS => ⟨_, rfl, hS, ?_⟩)
    · have hF : rdF T sz u = .error e := by unfold rdF; rw [hr]
      rw [hF] at hl
      exact s11_readIn_f e1.nz hS (fun hS => ⟨_, rfl, hS, fun _ => s11_read_f e1.nz hS (fun hS => ⟨_, rfl, hS, fun hS => rf27_f e1.nz hS (fun hS => h.1 e hl M1 s1 e1 hS)⟩), fun z => absurd z e1.nz⟩)
    · obtain ⟨g1, g2, _⟩ := rdW_ok hr
      subst g2
      refine s11_readIn o1.1 (hT.f3 s1) o1.2.1 (by omega) hS (fun e hr2 M2 v s2 e2 hS => ⟨_, rfl, hS, fun _ => ?_, fun z => absurd z e2.nz⟩) (fun r hr2 M2 s2 o2 hS => ⟨_, rfl, hS, fun z => absurd o2.1 z, fun _ => ?_⟩)
      · have hF : rdF T sz u = .error e := by unfold rdF; rw [hr]; simp only; rw [hr2]
        rw [hF] at hl
        exact s11_read_f e2.nz hS (fun hS => ⟨_, rfl, hS, fun hS => rf27_f e2.nz hS (fun hS => h.1 e hl M2 (s1.tr s2) e2 hS)⟩)
      · obtain ⟨g3, g4, _⟩ := rdW_ok hr2
        subst g4
        have e5 : xm_gi M2 (b + 154) 30 - 1 = Int32.ofNat (u + 1) := by
          rw [o2.2.1, show Int32.ofNat (u + 1 + 1) = Int32.ofNat (u + 1) + 1 from Int32.ofNat_add (u + 1) 1]
          exact Int32.add_sub_cancel _ _
        rw [e5]
        refine ⟨fun g => s11_read o2.1 ((hT.f3 s1).f3 s2) o2.2.1 (by omega) hS (fun e hr3 M3 s3 e3 hS => ⟨_, rfl, hS, fun hS => ?_⟩) (fun r hr3 M3 s3 o3 hS => ⟨_, rfl, hS, fun hS => ?_⟩), fun g => s11_fail o2.1 (by decide) hS (fun M3 s3 e3 _ hS => ⟨rfl, hS, s11_read_f e3.nz hS (fun hS => ⟨_, rfl, hS, fun hS => ?_⟩)⟩)⟩
        · have hF : rdF T sz u = .error e := by unfold rdF; rw [hr]; simp only; rw [hr2]; simp only; rw [if_neg g, hr3]
          rw [hF] at hl
          exact rf27_f e3.nz hS (fun hS => h.1 e hl M3 ((s1.tr s2).tr s3) e3 hS)
        · have hF : rdF T sz u = .ok r.2 := by unfold rdF; rw [hr]; simp only; rw [hr2]; simp only; rw [if_neg g, hr3]
          rw [hF] at hl
          obtain ⟨v1, v2⟩ := rdF_ok hF
          have s4 := (s1.tr s2).tr s3
          rw [xn_s]
          exact ih (j + 1) r.2 M3 (by omega) o3.1 (hT.f3 s4) o3.2.1 (by omega) hS ⟨fun e q M4 s5 e4 hS => h.1 e (hl.trans q) M4 (s4.tr s5) e4 hS, fun w q M4 s5 o4 hS => h.2 w (hl.trans q) M4 (s4.tr s5) ⟨o4.1, o4.2.1, o4.2.2.trans (o3.2.2.trans (o2.2.2.trans o1.2.2))⟩ hS⟩
        · have hF : rdF T sz u = .error (3, Int32.ofNat (u + 1)) := by unfold rdF; rw [hr]; simp only; rw [hr2]; simp only; rw [if_pos g]
          rw [hF] at hl
          exact rf27_f e3.nz hS (fun hS => h.1 _ hl M3 ((s1.tr s2).tr s3) e3 hS)
def smF (b : Nat) (M N : xm_M) : Prop := (∀ x k, ¬ ((x = b + 154 ∧ (k = 9 ∨ k = 30 ∨ k = 31)) ∨ x = b + 174 ∨ x = b + 175) → xm_gi N x k = xm_gi M x k) ∧ ∀ x k, xm_gl N x k = xm_gl M x k
theorem smF.tr {b : Nat} {M N P : xm_M} (h : smF b M N) (g : smF b N P) : smF b M P := ⟨fun x k q => (g.1 x k q).trans (h.1 x k q), fun x k => (g.2 x k).trans (h.2 x k)⟩
theorem sm3.f {b : Nat} {M N : xm_M} (h : sm3 b M N) : smF b M N := ⟨fun x k q => h.1 x k (by omega), h.2⟩
theorem tpM.ff {M N : xm_M} (h : tpM b M T sz) (s : smF b M N) : tpM b N T sz := ⟨h.1, by rw [s.1 _ _ (by omega)]; exact h.2.1, fun j hj => by rw [s.1 _ _ (by omega)]; exact h.2.2 j hj⟩
def fcM (b : Nat) (M : xm_M) (n : Nat) (C : Nat → Option Nat) (f : Nat → Nat) : Prop := ∀ j, j < n → xm_gi M (b + 175) j = cI (C j) ∧ xm_gi M (b + 174) j = Int32.ofNat (f j)
theorem fcM.f3 {n : Nat} {M N : xm_M} {C : Nat → Option Nat} {f : Nat → Nat} (h : fcM b M n C f) (s : sm3 b M N) : fcM b N n C f := fun j hj => by rw [s.1 _ _ (by omega), s.1 _ _ (by omega)]; exact h j hj
/-- one instruction's facts -/
theorem s11_readFacts {i u : Nat} {M : xm_M} {C : Nat → Option Nat} {f : Nat → Nat} (hi : i < 48) (h0 : xm_gi M (b + 154) 31 = 0) (hT : tpM b M T sz) (hu : xm_gi M (b + 154) 30 = Int32.ofNat u) (hu2 : u ≤ sz) (hX : fcM b M i C f) (hS : xm_st b c p M)
    (he1 : ∀ e, rdW T sz (-1) 24 u = .error e → ∀ M1, smF b M M1 → E3 b M1 e → xm_st b c p M1 → Q none M1)
    (he2 : ∀ r e, rdW T sz (-1) 24 u = .ok r → rdK T sz r.1.toNatClampNeg r.2 = .error e → ∀ M1, smF b M M1 → E3 b M1 e → xm_st b c p M1 → Q none M1)
    (ho : ∀ r w, rdW T sz (-1) 24 u = .ok r → rdK T sz r.1.toNatClampNeg r.2 = .ok w → ∀ M1, smF b M M1 → O3 b M M1 w → fcM b M1 (i + 1) (upN C i (cN r.1)) (upN f i r.2) → xm_st b c p M1 → Q none M1) : xm_C l E y11_readFacts rm11_readFacts [.ref (b + 154), .int (Int32.ofNat i)] M Q := by
  have ii : vp_in (Int32.ofNat i) 48 := xn_in hi (by decide)
  have put : ∀ (M1 : xm_M) (v w : Int32), sm3 b M1 (xm_pi (xm_pi M1 (b + 175) i v) (b + 174) i w) → True := fun _ _ _ _ => trivial
  refine xm_enter (by decide) (Nat.le_of_ble_eq_true rfl) (t11_readFacts_0 M _ hS (s11_readIn h0 hT hu hu2 hS (fun e hr M1 v s1 e1 hS => ⟨_, rfl, hS, ii, ii, fun hS => ?_⟩) (fun r hr M1 s1 o1 hS => ⟨_, rfl, hS, ii, ii, fun hS => ?_⟩)))
  · rw [xn_c (by omega)] at hS ⊢
    have sF : ∀ w, smF b M1 (xm_pi (xm_pi M1 (b + 175) i v) (b + 174) i w) := fun w => ⟨fun x k q => by rw [gi_pi, if_neg (by omega), gi_pi, if_neg (by omega)], fun _ _ => rfl⟩
    have e2 : E3 b (xm_pi (xm_pi M1 (b + 175) i v) (b + 174) i (xm_gi (xm_pi M1 (b + 175) i v) (b + 154) 30)) e := ⟨by rw [gi_pi, if_neg (by omega), gi_pi, if_neg (by omega)]; exact e1.1, e1.2.1, by rw [gi_pi, if_neg (by omega), gi_pi, if_neg (by omega)]; exact e1.2.2⟩
    exact rf27_f e2.nz hS (fun hS => he1 e hr _ (s1.f.tr (sF _)) e2 hS)
  · rw [xn_c (by omega)] at hS ⊢
    obtain ⟨g1, g2, g3, g4⟩ := rdW_ok hr
    subst g2
    have e5 : xm_gi (xm_pi M1 (b + 175) i (T u)) (b + 154) 30 = Int32.ofNat (u + 1) := by rw [gi_pi, if_neg (by omega)]; exact o1.2.1
    show xm_X l E y11_readFacts rm11_readFacts Q 27 [(0, .ref (b + 154)), (2, .int (T u)), (3, .int (Int32.ofNat 0))] [] 0 0 (xm_pi (xm_pi M1 (b + 175) i (T u)) (b + 174) i (xm_gi (xm_pi M1 (b + 175) i (T u)) (b + 154) 30))
    have hS : xm_st b c p (xm_pi (xm_pi M1 (b + 175) i (T u)) (b + 174) i (xm_gi (xm_pi M1 (b + 175) i (T u)) (b + 154) 30)) := hS
    rw [e5] at hS ⊢
    have sF : smF b M1 (xm_pi (xm_pi M1 (b + 175) i (T u)) (b + 174) i (Int32.ofNat (u + 1))) := ⟨fun x k q => by rw [gi_pi, if_neg (by omega), gi_pi, if_neg (by omega)], fun _ _ => rfl⟩
    have f54 : ∀ k, xm_gi (xm_pi (xm_pi M1 (b + 175) i (T u)) (b + 174) i (Int32.ofNat (u + 1))) (b + 154) k = xm_gi M1 (b + 154) k := fun k => by rw [gi_pi, if_neg (by omega), gi_pi, if_neg (by omega)]
    have hX2 : fcM b (xm_pi (xm_pi M1 (b + 175) i (T u)) (b + 174) i (Int32.ofNat (u + 1))) (i + 1) (upN C i (cN (T u))) (upN f i (u + 1)) := fun j hj => by
      unfold upN
      rw [gi_pi, if_neg (by omega), gi_pi, gi_pi]
      by_cases e : j = i
      · rw [if_pos ⟨rfl, e⟩, if_pos e, if_pos ⟨rfl, e⟩, if_pos e]
        exact ⟨cN_I g3 g4, rfl⟩
      · rw [if_neg (fun q => e q.2), if_neg e, if_neg (fun q => e q.2), if_neg e, gi_pi, if_neg (by omega)]
        exact (hX.f3 s1) j (by omega)
    generalize xm_pi (xm_pi M1 (b + 175) i (T u)) (b + 174) i (Int32.ofNat (u + 1)) = M2 at sF f54 hX2 hS ⊢
    have s2 := s1.f.tr sF
    refine lp_rf27 rfl (cl_24 g4) _ 0 (u + 1) M2 (Nat.zero_add _) (by rw [f54]; exact o1.1) (hT.ff s2) (by rw [f54]; exact o1.2.1) (by omega) hS ⟨fun e q M3 s3 e3 hS => he2 _ e hr q M3 (s2.tr s3.f) e3 hS, fun w q M3 s3 o3 hS => ho _ w hr q M3 (s2.tr s3.f) ⟨o3.1, o3.2.1, o3.2.2.trans ((f54 9).trans o1.2.2)⟩ (hX2.f3 s3) hS⟩
end RM
