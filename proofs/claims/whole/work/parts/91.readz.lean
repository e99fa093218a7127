section RZ
variable {l : Launch} {E : xm_E} {b : Nat} {c p : Bool} {Q : Option Value → xm_M → Prop} {T : Nat → Int32} {sz : Nat}
theorem fso_e {i m f : Nat} {e : Int32} {F : Flt} {M : xm_M} (hi : i < 48) (hm : m ≤ 24) (hf : f + 3 * m ≤ sz) (hL : flX b M F) (e1 : xm_gi M (b + 146) i = Int32.ofNat m) (e2 : xm_gi M (b + 147) i = Int32.ofNat f) (he : ¬ e = -1) : FsO b M T sz (Int32.ofNat i) e (fsI F i (jB (F.1 i) e) T f m) := by
  obtain ⟨l0, l1, l2, l3, l4⟩ := hL i hi
  refine Or.inr ⟨i, f, m, hi, hm, hf, rfl, e1, e2, Or.inr ⟨he, fun x => ?_⟩⟩
  rw [l0, l1, l2, l3]; rfl
theorem lp_re_end {i : Nat} {e : Int32} {F : Flt} {M : xm_M} (hi : i < 48) (hL : flX b M F) (hle : ecN (F.1 i) ≤ e) (hS : xm_st b true p M) (h : xm_st b true p M → Q (some (.int 1)) M) : xm_X l E y9_readEdges rm9_readEdges Q 12 [(0, .ref (b + 145)), (1, .int (Int32.ofNat i)), (2, .ref (b + 3 + i)), (3, .int e)] [] 0 0 M := by
  obtain ⟨l0, _⟩ := hL i hi
  exact t9_readEdges_12 (c := true) M _ _ e (shf_2 hi) hS (s2_edgeCount (shf_2 hi) hS (fun hS => ⟨_, rfl, hS, fun _ => h, fun g => absurd (by rw [l0]; exact hle) g⟩))
theorem fOk_nx {F : Flt} {n i : Nat} (h : fOk F n) (hi : i < n) (h0 : ¬ F.1 i = 0) : i + 1 < n := by
  have : ¬ i = n - 1 := fun q => h0 (by rw [q]; exact h.2.2.1)
  omega
theorem fOk_t {F : Flt} {n i : Nat} (h : fOk F n) (hi : i < n) (h13 : ¬ F.1 i < 13) : (F.2.2.2.2 i).toNatClampNeg < n ∧ F.2.2.2.2 i = Int32.ofNat (F.2.2.2.2 i).toNatClampNeg := by
  obtain ⟨_, _, _, h4⟩ := h.2.2.2 i hi
  have := h4 h13
  exact ⟨this.2.1, this.2.2⟩
theorem s9_readEdges {i m n u : Nat} {F : Flt} {C : Nat → Option Nat} {f : Nat → Nat} {M : xm_M} (hF : fOk F n) (hi : i < n) (hc : C i = some m) (hX : fcX b M n C f) (hK : fcK sz n C f) (hL : flX b M F) (hT : tpX b M T sz) (hu : xm_gi M (b + 145) 7 = Int32.ofNat u) (hu2 : u ≤ sz) (hS : xm_st b true p M) (h : Pr2 b p Q M (egS F C f T sz i m u) (okU b)) : xm_C l E y9_readEdges rm9_readEdges [.ref (b + 145), .int (Int32.ofNat i)] M Q := by
  have hn := hF.1
  have hi48 : i < 48 := by omega
  obtain ⟨x1, x2⟩ := hX i hi
  rw [hc] at x1
  have x1 : xm_gi M (b + 146) i = Int32.ofNat m := x1
  obtain ⟨m1, m2⟩ := (hK i hi).2 m hc
  refine xm_enter (by decide) (Nat.le_of_ble_eq_true rfl) (t9_readEdges_0 (c := true) M _ hS ⟨xn_in hi48 (by decide), fun hS => ?_⟩)
  rw [xn_c (by omega)]
  have fo : ∀ (e : Int32) (M1 : xm_M), smR b M M1 → ¬ e = -1 → FsO b M1 T sz (Int32.ofNat i) e (fsI F i (jB (F.1 i) e) T (f i) m) := fun e M1 s1 he => (fso_e hi48 m1 m2 hL x1 x2 he).fr s1
  by_cases g0 : F.1 i = 0
  · refine lp_re_end hi48 hL (by rw [g0]; decide) hS (fun hS => h.2 u (if_pos g0) M smR.rf hS rfl rfl hu)
  · have hl0 : egS F C f T sz i m u = _ := if_neg g0
    by_cases g13 : F.1 i = 13
    · have hl1 := hl0.trans (if_pos g13)
      have j13 : jB (F.1 i) 0 = true := by rw [g13]; decide
      obtain ⟨t1, t2⟩ := fOk_t hF hi (by rw [g13]; decide)
      obtain ⟨y1, y2⟩ := hX _ t1
      have fo0 := fo 0 M smR.rf (by decide)
      rw [j13] at fo0
      refine lp_re12 hi48 (by omega) hL (by rw [if_pos j13]; exact t2) (by rw [g13]; decide) fo0 y1 y2 (hK _ t1).2 hT hu hu2 hS (fun er hr M1 s1 hS a1 a2 => ?_) (fun v hr M1 s1 hS a1 a2 a3 => ?_)
      · exact h.1 er (hl1.trans hr) M1 s1 hS a1 a2
      · exact lp_re_end hi48 (hL.fr s1.q) (by rw [g13]; decide) hS (fun hS => h.2 v (hl1.trans hr) M1 s1 hS a1 a2 a3)
    · have hl1 := hl0.trans (if_neg g13)
      have hx := fOk_nx hF hi g0
      have j0 : jB (F.1 i) 0 = false := by unfold jB; rw [decide_eq_false g13, show decide ((0 : Int32) = 1) = false by decide, Bool.and_false]; rfl
      obtain ⟨y1, y2⟩ := hX _ hx
      have ec0 : ¬ ecN (F.1 i) ≤ 0 := by
        unfold ecN
        rw [if_neg g0]
        by_cases q : F.1 i < 14
        · rw [if_pos q]; decide
        · rw [if_neg q]; decide
      have fo0 := fo 0 M smR.rf (by decide)
      rw [j0] at fo0
      refine lp_re12 hi48 (by omega) hL (by rw [if_neg (by rw [j0]; decide)]; exact ix1 i) ec0 fo0 y1 y2 (hK _ hx).2 hT hu hu2 hS (fun er hr M1 s1 hS a1 a2 => ?_) (fun v hr M1 s1 hS a1 a2 a3 => ?_)
      · exact h.1 er (by rw [hl1, hr]) M1 s1 hS a1 a2
      · rw [hr] at hl1
        simp only at hl1
        show xm_X l E y9_readEdges rm9_readEdges Q 12 [(0, .ref (b + 145)), (1, .int (Int32.ofNat i)), (2, .ref (b + 3 + i)), (3, .int 1)] [] 0 0 M1
        by_cases g14 : F.1 i < 14
        · exact lp_re_end hi48 (hL.fr s1.q) (by unfold ecN; rw [if_neg g0, if_pos g14]; decide) hS (fun hS => h.2 v (hl1.trans (if_pos g14)) M1 s1 hS a1 a2 a3)
        · have hl2 := hl1.trans (if_neg g14)
          have j1 : jB (F.1 i) 1 = true := by unfold jB; rw [decide_eq_false g14, show decide ((1 : Int32) = 1) = true by decide]; simp
          obtain ⟨t1, t2⟩ := fOk_t hF hi (fun q => g14 (by rw [Int32.lt_iff_toInt_lt, show (14 : Int32).toInt = 14 by decide]; rw [Int32.lt_iff_toInt_lt, show (13 : Int32).toInt = 13 by decide] at q; omega))
          obtain ⟨z1, z2⟩ := hX.fr s1 _ t1
          have fo1 := fo 1 M1 s1 (by decide)
          rw [j1] at fo1
          refine lp_re12 hi48 (by omega) (hL.fr s1.q) (by rw [if_pos j1]; exact t2) (by unfold ecN; rw [if_neg g0, if_neg g14]; decide) fo1 z1 z2 (hK _ t1).2 (hT.fr s1) a3 (e1S_ok hr) hS (fun er hr M2 s2 hS c1 c2 => ?_) (fun v hr M2 s2 hS c1 c2 c3 => ?_)
          · exact h.1 er (hl2.trans hr) M2 (s1.tr s2) hS c1 c2
          · show xm_X l E y9_readEdges rm9_readEdges Q 12 [(0, .ref (b + 145)), (1, .int (Int32.ofNat i)), (2, .ref (b + 3 + i)), (3, .int 2)] [] 0 0 M2
            exact lp_re_end hi48 (hL.fr (s1.tr s2).q) (by unfold ecN; rw [if_neg g0, if_neg g14]; decide) hS (fun hS => h.2 v (hl2.trans hr) M2 (s1.tr s2) hS (c1.trans a1) (c2.trans a2) c3)
/-- behind the reading -/
def PrZ (b : Nat) (p : Bool) (Q : Option Value → xm_M → Prop) (M : xm_M) (o : Except FpT Unit) : Prop := ∀ M1, smQ b M M1 → xm_st b true p M1 → xm_gi M1 (b + 145) 10 = (vS o).2 → Q (some (.int (vS o).1)) M1
theorem rd73_no {i : Int32} {M : xm_M} (hS : xm_st b true p M) (h : xm_st b true p M → Q (some (.int (xm_gi M (b + 145) 9))) M) : xm_X l E y9_read rm9_read Q 73 [(0, .ref (b + 145)), (1, .ref (b + 1)), (2, .ref (b + 51)), (4, .int 0), (5, .int i)] [] 0 0 M :=
  t9_read_73 M 0 i hS ⟨fun _ => ⟨fun _ => h, fun q => absurd rfl q⟩, fun q => absurd rfl q⟩
theorem lp_rd73 {F : Flt} {n : Nat} {C : Nat → Option Nat} {f : Nat → Nat} (hF : fOk F n) (hK : fcK sz n C f) : ∀ (k i u : Nat) (M : xm_M), i + k = n → fcX b M n C f → flX b M F → tpX b M T sz → xm_gi M (b + 1) 2 = Int32.ofNat n → xm_gi M (b + 145) 7 = Int32.ofNat u → u ≤ sz → xm_gi M (b + 145) 9 = 0 → xm_gi M (b + 145) 10 = -2 → xm_st b true p M → PrZ b p Q M (mnS F C f T sz k i u) →
    xm_X l E y9_read rm9_read Q 73 [(0, .ref (b + 145)), (1, .ref (b + 1)), (2, .ref (b + 51)), (4, .int 1), (5, .int (Int32.ofNat i))] [] 0 0 M := by
  have hn := hF.1
  intro k
  induction k with
  | zero =>
    intro i u M hi hX hL hT hc hu hu2 h9 h10 hS h
    have hz := hT.1
    refine t9_read_73 M 1 _ hS ⟨fun q => absurd q (by decide), fun _ => ⟨fun _ => ⟨fun q => absurd q (by decide), fun _ => ?_⟩, fun g => absurd (by rw [hc]; exact (xn_le (by omega) (by omega)).mpr (by omega)) g⟩⟩
    rw [hT.2.1, hu]
    refine ⟨fun g hS => ?_, fun g => ?_⟩
    · have g := (xn_le (by omega) (by omega)).mp g
      have hl : mnS F C f T sz 0 i u = .ok () := if_neg (by omega)
      rw [hl] at h
      rw [h9]
      exact h M smQ.rf hS h10
    · have g : u < sz := Nat.not_le.mp fun q => g ((xn_le (by omega) (by omega)).mpr q)
      have hl : mnS F C f T sz 0 i u = .error (8, Int32.ofNat u) := if_pos g
      rw [hl] at h
      exact s9_refuse hS (fun M1 s1 hS a1 a2 => ⟨false, rfl, hS, fun hS => by rw [a1]; exact h M1 s1.q hS a2⟩)
  | succ k ih =>
    intro i u M hi hX hL hT hc hu hu2 h9 h10 hS h
    have hin : i < n := by omega
    refine t9_read_73 M 1 _ hS ⟨fun q => absurd q (by decide), fun _ => ⟨fun g => ?_, fun _ => ⟨xn_in (by omega) (by decide), ?_⟩⟩⟩
    · rw [hc] at g
      exact absurd ((xn_le (by omega) (by omega)).mp g) (by omega)
    · rw [xn_c (by omega), xn_s]
      obtain ⟨x1, x2⟩ := hX i hin
      rw [x1]
      cases hci : C i with
      | none =>
        refine ⟨fun _ hS => ?_, fun q => absurd rfl q⟩
        have hl : mnS F C f T sz (k + 1) i u = mnS F C f T sz k (i + 1) u := by
          show (match C i with | none => mnS F C f T sz k (i + 1) u | some m => _) = _
          rw [hci]
        rw [hl] at h
        exact ih (i + 1) u M (by omega) hX hL hT hc hu hu2 h9 h10 hS h
      | some m =>
        obtain ⟨m1, m2⟩ := (hK i hin).2 m hci
        rw [hci] at x1
        have x1 : xm_gi M (b + 146) i = Int32.ofNat m := x1
        have hl : mnS F C f T sz (k + 1) i u = (match acS (F.1 i) (F.2.2.1 i) (F.2.2.2.1 i) (fsP T (f i) m) T sz u with
            | .error e => .error e
            | .ok v => match egS F C f T sz i m v with
              | .error e => .error e
              | .ok w => mnS F C f T sz k (i + 1) w) := by
          show (match C i with | none => mnS F C f T sz k (i + 1) u | some m => match acS (F.1 i) (F.2.2.1 i) (F.2.2.2.1 i) (fsP T (f i) m) T sz u with
            | .error e => .error e
            | .ok v => match egS F C f T sz i m v with
              | .error e => .error e
              | .ok w => mnS F C f T sz k (i + 1) w) = _
          rw [hci]
        refine ⟨fun g => ?_, fun _ => ?_⟩
        · have g3 := congrArg Int32.toInt g
          rw [show (cI (some m)).toInt = (m : Int) from toInt_of rfl (by omega), show (-1 : Int32).toInt = -1 by decide] at g3
          omega
        · refine s9_readAccess (by omega) m1 m2 hL hT x1 x2 hu hu2 hS ⟨fun er hr M1 s1 hS a1 a2 => ⟨false, rfl, hS, fun _ hS => ?_, fun q => absurd rfl q⟩, fun v hr M1 s1 hS a1 a2 a3 => ⟨true, rfl, hS, fun q => absurd q (by decide), fun _ => ?_⟩⟩
          · rw [hl, hr] at h
            exact rd73_no hS (fun hS => by rw [a1]; exact h M1 s1.q hS a2)
          · rw [hr] at hl
            simp only at hl
            have hv := acS_ok hu2 hr
            refine s9_readEdges hF hin hci (hX.fr s1) hK (hL.fr s1.q) (hT.fr s1) a3 hv hS ⟨fun er hr M2 s2 hS c1 c2 => ⟨false, rfl, hS, fun _ hS => ?_, fun q => absurd rfl q⟩, fun w hr M2 s2 hS c1 c2 c3 => ⟨true, rfl, hS, fun q => absurd q (by decide), fun _ hS => ?_⟩⟩
            · rw [hl, hr] at h
              exact rd73_no hS (fun hS => by rw [c1]; exact h M2 (s1.tr s2).q hS c2)
            · rw [hl, hr] at h
              have s3 := s1.tr s2
              exact ih (i + 1) w M2 (by omega) (hX.fr s3) (hL.fr s3.q) (hT.fr s3) (by rw [s3.1 _ _ (by omega)]; exact hc) c3 (egS_ok hv hr) (by rw [c1, a1]; exact h9) (by rw [c2, a2]; exact h10) hS (fun M3 s4 hS d => h M3 (s3.q.tr s4) hS d)
theorem s9_read {F : Flt} {n : Nat} {M : xm_M} (hn : n ≤ 48) (hc : xm_gi M (b + 1) 2 = Int32.ofNat n) (hL : flX b M F) (hT : tpX b M T sz) (hok : wpo (fun i => gdX M (b + 3 + i) (Int32.ofNat i) (Int32.ofNat n)) (decide (0 < n) && decide (xm_gi M (b + 3 + (n - 1)) 0 = 0)) n 0 = none → fOk F n) (hS : xm_st b c p M)
    (hw : ∀ j, wpo (fun i => gdX M (b + 3 + i) (Int32.ofNat i) (Int32.ofNat n)) (decide (0 < n) && decide (xm_gi M (b + 3 + (n - 1)) 0 = 0)) n 0 = some j → ∀ M1, smQ b M M1 → xm_st b true p M1 → xm_gi M1 (b + 145) 10 = Int32.ofNat j → Q (some (.int 1)) M1)
    (h : wpo (fun i => gdX M (b + 3 + i) (Int32.ofNat i) (Int32.ofNat n)) (decide (0 < n) && decide (xm_gi M (b + 3 + (n - 1)) 0 = 0)) n 0 = none → PrZ b p Q M (chS F (xm_gi M (b + 1) 0) n T sz)) : xm_C l E y9_read rm9_read [.ref (b + 145), .ref (b + 1), .ref (b + 51)] M Q := by
  refine xm_enter (by decide) (Nat.le_of_ble_eq_true rfl) (t9_read_0 M hS ?_)
  have hS1 := hS.toC.pi (a := b + 145) (k := 7) (v := 0) |>.pi (a := b + 145) (k := 9) (v := 0) |>.pi (a := b + 145) (k := 10) (v := -2)
  have s0 : smQ b M (xm_pi (xm_pi (xm_pi (xm_pr (xm_pr M (b + 145) 5 (some (b + 1))) (b + 145) 6 (some (b + 51))) (b + 145) 7 0) (b + 145) 9 0) (b + 145) 10 (-2)) := by
    refine ((smQ.pi ?_ (by omega)).pi (by omega)).pi (by omega)
    exact ⟨fun _ _ _ => rfl, fun _ _ _ => rfl⟩
  have d7 : xm_gi (xm_pi (xm_pi (xm_pi (xm_pr (xm_pr M (b + 145) 5 (some (b + 1))) (b + 145) 6 (some (b + 51))) (b + 145) 7 0) (b + 145) 9 0) (b + 145) 10 (-2)) (b + 145) 7 = 0 := by rw [gi_pi, if_neg (by omega), gi_pi, if_neg (by omega), gi_pi, if_pos ⟨rfl, rfl⟩]
  have d9 : xm_gi (xm_pi (xm_pi (xm_pi (xm_pr (xm_pr M (b + 145) 5 (some (b + 1))) (b + 145) 6 (some (b + 51))) (b + 145) 7 0) (b + 145) 9 0) (b + 145) 10 (-2)) (b + 145) 9 = 0 := by rw [gi_pi, if_neg (by omega), gi_pi, if_pos ⟨rfl, rfl⟩]
  have d10 : xm_gi (xm_pi (xm_pi (xm_pi (xm_pr (xm_pr M (b + 145) 5 (some (b + 1))) (b + 145) 6 (some (b + 51))) (b + 145) 7 0) (b + 145) 9 0) (b + 145) 10 (-2)) (b + 145) 10 = -2 := by rw [gi_pi, if_pos ⟨rfl, rfl⟩]
  generalize xm_pi (xm_pi (xm_pi (xm_pr (xm_pr M (b + 145) 5 (some (b + 1))) (b + 145) 6 (some (b + 51))) (b + 145) 7 0) (b + 145) 9 0) (b + 145) 10 (-2) = M0 at hS1 s0 d7 d9 d10 ⊢
  have weq : wpo (fun i => gdX M0 (b + 3 + i) (Int32.ofNat i) (Int32.ofNat n)) (decide (0 < n) && decide (xm_gi M0 (b + 3 + (n - 1)) 0 = 0)) n 0 = wpo (fun i => gdX M (b + 3 + i) (Int32.ofNat i) (Int32.ofNat n)) (decide (0 < n) && decide (xm_gi M (b + 3 + (n - 1)) 0 = 0)) n 0 := by
    rw [s0.1 _ _ (by omega)]
    refine wpo_congr n 0 (fun j _ hj => ?_)
    show gdX M0 (b + 3 + j) _ _ = gdX M (b + 3 + j) _ _
    unfold gdX
    rw [s0.1 _ _ (by omega), s0.1 _ _ (by omega), s0.1 _ _ (by omega), s0.1 _ _ (by omega), s0.1 _ _ (by omega)]
  have hc0 : xm_gi M0 (b + 1) 2 = Int32.ofNat n := by rw [s0.1 _ _ (by omega)]; exact hc
  refine s1_wrongPlace hn hc0 hS1 (fun hS => ⟨_, rfl, hS, ?_⟩)
  rw [weq]
  have wle := fun j => wpo_le (g := fun i => gdX M (b + 3 + i) (Int32.ofNat i) (Int32.ofNat n)) (z := decide (0 < n) && decide (xm_gi M (b + 3 + (n - 1)) 0 = 0)) n 0 j
  generalize wpo (fun i => gdX M (b + 3 + i) (Int32.ofNat i) (Int32.ofNat n)) (decide (0 < n) && decide (xm_gi M (b + 3 + (n - 1)) 0 = 0)) n 0 = w at hw h hok wle ⊢
  cases w with
  | some j =>
    have hj := wle j rfl
    refine ⟨fun _ => s9_refuse hS (fun M1 s1 hS a1 a2 => ⟨false, rfl, hS, fun hS => rd73_no hS (fun hS => by rw [a1]; exact hw j rfl M1 (s0.tr s1.q) hS a2)⟩), fun q => ?_⟩
    have q := congrArg Int32.toInt q
    rw [show (wpv (-2) (some j)).toInt = (j : Int) from toInt_of rfl (by omega), show (-2 : Int32).toInt = -2 by decide] at q
    omega
  | none =>
    have hF := hok rfl
    have h := h rfl
    refine ⟨fun q => absurd rfl q, fun _ => ?_⟩
    have hT0 : tpX b M0 T sz := hT.fq s0
    have fK0 : fcK sz 0 (fun _ => none) (fun _ => 0) := fun j hj => absurd hj (Nat.not_lt_zero j)
    refine xm_enter (by decide) (Nat.le_of_ble_eq_true rfl) (t9_readFacts_0 (c := true) M0 hS (fun hS => lp_rf2 hn n 0 0 M0 (fun _ => none) (fun _ => 0) (by omega) hF.2.1 hT0 hc0 d7 (Nat.zero_le _) (fun j hj => absurd hj (Nat.not_lt_zero j)) fK0 hS (fun e hr M1 s1 hS a1 a2 => ⟨false, rfl, hS, fun _ hS => ?_, fun q => absurd rfl q⟩) (fun r hr M1 s1 hS a1 a2 a3 a4 => ⟨true, rfl, hS, fun q => absurd q (by decide), fun _ => ?_⟩)))
    · have hl : chS F (xm_gi M (b + 1) 0) n T sz = .error e := by unfold chS; rw [hr]
      rw [hl] at h
      exact rd73_no hS (fun hS => by rw [a1]; exact h M1 (s0.tr s1) hS a2)
    · have hl : chS F (xm_gi M (b + 1) 0) n T sz = (match rrF (fun x => begO x (xm_gi M (b + 1) 0)) T sz (r.2.1 0) ((r.1 0).getD 0) 0 r.2.2 with
          | .error e => .error e
          | .ok v => mnS F r.1 r.2.1 T sz n 0 v) := by
        unfold chS
        rw [hr]
        obtain ⟨r1, r2, r3⟩ := r
        rfl
      obtain ⟨k1, k2, k3⟩ := rdI_ok n 0 0 _ _ r (Nat.zero_le _) fK0 hr
      rw [Nat.zero_add] at k1
      have h0 := hF.2.1
      cases hc0m : r.1 0 with
      | none => exact absurd hc0m k3
      | some m =>
        rw [hc0m] at hl
        obtain ⟨m1, m2⟩ := (k1 0 h0).2 m hc0m
        obtain ⟨x1, x2⟩ := a4 0 h0
        rw [hc0m] at x1
        have s01 := s0.tr s1
        have fo : FsO b M1 T sz (-1) (-1) (fun x => begO x (xm_gi M (b + 1) 0)) := Or.inl ⟨rfl, fun x => by rw [s01.1 _ _ (by omega)]⟩
        show xm_C l E y9_readReasonsFor rm9_readReasonsFor [.ref (b + 145), .int (Int32.ofNat 0), .int (-1), .int (-1)] M1 _
        refine s9_readReasonsFor (by decide) m1 m2 fo (hT.fq s01) x1 x2 a3 k2 hS ⟨fun er hr M2 s2 hS c1 c2 => ⟨false, rfl, hS, fun _ hS => ?_, fun q => absurd rfl q⟩, fun v hr M2 s2 hS c1 c2 c3 => ⟨true, rfl, hS, fun q => absurd q (by decide), fun _ hS => ?_⟩⟩
        · have hl : chS F (xm_gi M (b + 1) 0) n T sz = .error er := by rw [hl]; show (match rrF _ T sz (r.2.1 0) m 0 r.2.2 with | .error e => _ | .ok v => _) = _; rw [hr]
          rw [hl] at h
          exact rd73_no hS (fun hS => by rw [c1]; exact h M2 (s01.tr s2.q) hS c2)
        · have hl : chS F (xm_gi M (b + 1) 0) n T sz = mnS F r.1 r.2.1 T sz n 0 v := by rw [hl]; show (match rrF _ T sz (r.2.1 0) m 0 r.2.2 with | .error e => _ | .ok v => _) = _; rw [hr]
          rw [hl] at h
          have s02 := s01.tr s2.q
          refine lp_rd73 hF k1 n 0 v M2 (by omega) (a4.fr s2) (hL.fr s02) (hT.fq s02) (by rw [s02.1 _ _ (by omega)]; exact hc) c3 (rrF_ok _ _ _ _ k2 hr) (by rw [c1, a1]; exact d9) (by rw [c2, a2]; exact d10) hS (fun M3 s4 hS d => h M3 (s02.tr s4) hS d)
end RZ
