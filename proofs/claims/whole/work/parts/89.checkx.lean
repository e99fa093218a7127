/-! the class's reasons -/
/-- reasons for the facts j, j + 1 .. of a list that begins at f -/
def rrF (fs : Int32 → Option StT) (T : Nat → Int32) (sz f : Nat) : Nat → Nat → Nat → Except FpT Nat
  | 0, _, u => .ok u
  | k + 1, j, u => match rrS fs T sz (ftT T f j).1 (ftT T f j).2.1 (ftT T f j).2.2 u with
    | .error e => .error e
    | .ok v => rrF fs T sz f k (j + 1) v
theorem rrF_ok {fs : Int32 → Option StT} {T : Nat → Int32} {sz f : Nat} : ∀ (k j u v : Nat), u ≤ sz → rrF fs T sz f k j u = .ok v → v ≤ sz
  | 0, j, u, v, hu, h => by cases h; exact hu
  | k + 1, j, u, v, hu, h => by
    unfold rrF at h
    cases h1 : rrS fs T sz (ftT T f j).1 (ftT T f j).2.1 (ftT T f j).2.2 u with
    | error e => rw [h1] at h; cases h
    | ok w => rw [h1] at h; exact rrF_ok k (j + 1) w v (rrS_ok h1) h
section RQ
variable {l : Launch} {E : xm_E} {b : Nat} {c p : Bool} {Q : Option Value → xm_M → Prop} {T : Nat → Int32} {sz : Nat}
theorem lp_rr34 {v1 v2 to : Int32} {most : Int64} {fs : Int32 → Option StT} {head : Nat} : ∀ (k u : Nat) (M : xm_M) (pt : Int32) (sum : Int64), k ≤ 12 → FsO b M T sz v1 v2 fs → tpX b M T sz → xm_gi M (b + 145) 7 = Int32.ofNat u → u ≤ sz → xm_st b true p M → Pr2 b p Q M (rrL fs T sz to most head k u pt sum) (okU b) →
    xm_X l E y9_readReason rm9_readReason Q 34 [(0, .ref (b + 145)), (1, .int v1), (2, .int v2), (4, .int to), (5, .long most), (7, .int (Int32.ofNat head)), (9, .int pt), (10, .long sum), (12, .int (Int32.ofNat k))] [] 0 0 M := by
  intro k
  induction k with
  | zero =>
    intro u M pt sum hk hF hT hu hu2 hS h
    refine t9_readReason_34 (c := true) M _ _ _ _ _ _ _ _ hS ⟨fun _ => ⟨fun g hS => ?_, fun g => s9_refuse hS (fun M1 s1 hS e1 e2 => ⟨false, rfl, hS, fun _ hS => ?_, fun q => absurd rfl q⟩)⟩, fun g => ?_⟩
    · exact h.2 u (if_pos g) M smR.rf hS rfl rfl hu
    · exact h.1 _ (if_neg g) M1 s1 hS e1 e2
    · exact absurd (by decide) g
  | succ k ih =>
    intro u M pt sum hk hF hT hu hu2 hS h
    have hk1 : Int32.ofNat (k + 1) + Int32.ofInt (-1) = Int32.ofNat k := by
      rw [show Int32.ofNat (k + 1) = Int32.ofNat k + 1 from Int32.ofNat_add k 1, Int32.add_assoc]
      exact Int32.add_zero _
    refine t9_readReason_34 (c := true) M _ _ _ _ _ _ _ _ hS ⟨fun g => ?_, fun g => ?_⟩
    · have g := (xn_le (b := 0) (by omega) (by decide)).mp g
      omega
    have hz := hT.1
    have hl : rrL fs T sz to most head (k + 1) u pt sum = (match rdA T sz u with
      | .error e => .error e
      | .ok (x, v) => match fs x with
        | none => .error (4, Int32.ofNat u)
        | some s => if s.1 = pt ∧ (¬ k = 0 ∨ s.2.1 = to) then rrL fs T sz to most head k v s.2.1 (sum + s.2.2) else .error (5, Int32.ofNat u)) := rfl
    refine s9_readAny hT hu hu2 hS ⟨fun e hr M1 s1 hS e1 e2 => ⟨false, rfl, hS, fun q => absurd rfl q, fun _ hS => ?_⟩, fun r hr M1 s1 hS e1 e2 e3 => ⟨true, rfl, hS, fun _ => ?_, fun q => absurd q (by decide)⟩⟩
    · exact h.1 e (by rw [hl, hr]) M1 s1 hS e1 e2
    · obtain ⟨g1, g2⟩ := rdA_ok hr
      subst g2
      obtain ⟨e3, e4⟩ := e3
      rw [hr] at hl
      simp only at hl
      rw [e3]
      have e5 : Int32.ofNat (u + 1) - 1 = Int32.ofNat u := by
        rw [show Int32.ofNat (u + 1) = Int32.ofNat u + 1 from Int32.ofNat_add u 1]
        exact Int32.add_sub_cancel _ _
      refine s9_findStep (hF.fr s1) (hT.fr s1) hS (fun M2 s2 a1 hS => ⟨_, rfl, hS, fun q => ?_, fun q => ?_⟩)
      · have q := xz_ne q
        have f45 : ∀ k, xm_gi M2 (b + 145) k = xm_gi M1 (b + 145) k := fun k => s2.1 _ _ (by omega)
        rw [f45, e4, e5]
        cases hs : fs (T u) with
        | none => rw [hs] at q; cases q
        | some s =>
          rw [hs] at hl
          simp only at hl
          have a1 := a1 s hs
          have c1 : xm_gi M2 (b + 148) 0 = s.1 := by rw [← a1]; rfl
          have c2 : xm_gi M2 (b + 148) 1 = s.2.1 := by rw [← a1]; rfl
          have c3 : xm_gl M2 (b + 148) 2 = s.2.2 := by rw [← a1]; rfl
          rw [c1, c2, c3, hk1]
          have s3 := s1.tr s2.r
          have bad : ¬ (s.1 = pt ∧ (¬ k = 0 ∨ s.2.1 = to)) → xm_C l E y9_refuse rm9_refuse [.ref (b + 145), .int (5 : Int32), .int (Int32.ofNat u)] M2 (fun r M7 => ∃ r8 : Bool, r = some (.int (xz r8)) ∧ xm_st b true p M7 ∧ (xm_st b true p M7 → Q (some (.int (xz r8))) M7)) := fun g => s9_refuse hS (fun M3 s4 hS d1 d2 => ⟨false, rfl, hS, fun hS => h.1 _ (hl.trans (if_neg g)) M3 (s3.tr s4) hS d1 d2⟩)
          have good : (s.1 = pt ∧ (¬ k = 0 ∨ s.2.1 = to)) → xm_st b true p M2 → xm_X l E y9_readReason rm9_readReason Q 34 [(0, .ref (b + 145)), (1, .int v1), (2, .int v2), (4, .int to), (5, .long most), (7, .int (Int32.ofNat head)), (9, .int s.2.1), (10, .long (sum + s.2.2)), (12, .int (Int32.ofNat k))] [] 0 0 M2 := fun g hS => by
            refine ih (u + 1) M2 _ _ (by omega) (hF.fr s3) (hT.fr s3) (by rw [f45]; exact e4) (by omega) hS ⟨fun e q M3 s4 hS d1 d2 => ?_, fun w q M3 s4 hS d1 d2 d3 => ?_⟩
            · exact h.1 e (hl.trans ((if_pos g).trans q)) M3 (s3.tr s4) hS d1 d2
            · exact h.2 w (hl.trans ((if_pos g).trans q)) M3 (s3.tr s4) hS (by rw [d1, f45, e1]) (by rw [d2, f45, e2]) d3
          have k1 : Int32.ofNat (k + 1) = 1 ↔ k = 0 := by
            refine ⟨fun q => ?_, fun q => by rw [q]; rfl⟩
            have := congrArg Int32.toInt q
            rw [toInt_of rfl (by omega), show (1 : Int32).toInt = 1 by decide] at this
            omega
          refine ⟨fun g => bad (fun q => g q.1), fun g => ⟨fun g2 => good ⟨g, Or.inl (fun q => g2 (k1.mpr q))⟩, fun g2 => ⟨fun g3 => good ⟨g, Or.inr g3⟩, fun g3 => bad (fun q => q.2.elim (fun z => z (k1.mp g2)) g3)⟩⟩⟩
      · have q := xz_0.mp q
        have f45 : ∀ k, xm_gi M2 (b + 145) k = xm_gi M1 (b + 145) k := fun k => s2.1 _ _ (by omega)
        rw [f45, e4, e5]
        cases hs : fs (T u) with
        | some s => rw [hs] at q; cases q
        | none =>
          rw [hs] at hl
          exact s9_refuse hS (fun M3 s4 hS d1 d2 => ⟨false, rfl, hS, fun hS => h.1 _ hl M3 ((s1.tr s2.r).tr s4) hS d1 d2⟩)
theorem s9_readReason {v1 v2 fr to : Int32} {most : Int64} {fs : Int32 → Option StT} {u : Nat} {M : xm_M} (hF : FsO b M T sz v1 v2 fs) (hT : tpX b M T sz) (hu : xm_gi M (b + 145) 7 = Int32.ofNat u) (hu2 : u ≤ sz) (hS : xm_st b true p M) (h : Pr2 b p Q M (rrS fs T sz fr to most u) (okU b)) : xm_C l E y9_readReason rm9_readReason [.ref (b + 145), .int v1, .int v2, .int fr, .int to, .long most] M Q := by
  refine xm_enter (by decide) (Nat.le_of_ble_eq_true rfl) (t9_readReason_0 (c := true) M _ _ _ _ _ hS (s9_readWithin hT hu hu2 hS ⟨fun e hr M1 s1 hS e1 e2 => ⟨false, rfl, hS, fun q => absurd rfl q, fun _ hS => ?_⟩, fun r hr M1 s1 hS e1 e2 e3 => ⟨true, rfl, hS, fun _ hS => ?_, fun q => absurd q (by decide)⟩⟩))
  · exact h.1 e (by unfold rrS; rw [hr]) M1 s1 hS e1 e2
  · have hl : rrS fs T sz fr to most u = rrL fs T sz to most u r.1.toNatClampNeg r.2 fr 0 := by unfold rrS; rw [hr]
    obtain ⟨g1, g2, g3, g4⟩ := rdW_ok hr
    subst g2
    obtain ⟨e3, e4⟩ := e3
    have hx0 : ¬ T u < 0 := fun q => g3 (by rw [Int32.lt_iff_toInt_lt] at q ⊢; rw [show (0 : Int32).toInt = 0 by decide] at q; rw [show (1 : Int32).toInt = 1 by decide]; omega)
    have e5 := i32_of hx0
    rw [e3, hu]
    rw [hl] at h
    have h12 : (T u).toNatClampNeg ≤ 12 := (cl_le (j := 12) (by decide)).mp g4
    show xm_X l E y9_readReason rm9_readReason Q 34 [(0, .ref (b + 145)), (1, .int v1), (2, .int v2), (4, .int to), (5, .long most), (7, .int (Int32.ofNat u)), (9, .int fr), (10, .long (0 : Int64)), (12, .int (T u))] [] 0 0 M1
    simp only at h
    generalize (T u).toNatClampNeg = k at h e5 h12
    rw [e5]
    refine lp_rr34 k (u + 1) M1 fr 0 h12 (hF.fr s1) (hT.fr s1) e4 (by omega) hS ⟨fun e q M2 s2 hS a1 a2 => h.1 e q M2 (s1.tr s2) hS a1 a2, fun w q M2 s2 hS a1 a2 a3 => h.2 w q M2 (s1.tr s2) hS (a1.trans e1) (a2.trans e2) a3⟩
theorem lp_rs3 {v2 v3 : Int32} {fs : Int32 → Option StT} {i f m : Nat} (hi : i < 48) (hm : m ≤ 24) (hf : f + 3 * m ≤ sz) : ∀ (k j u : Nat) (M : xm_M), j + k = m → FsO b M T sz v2 v3 fs → tpX b M T sz → xm_gi M (b + 146) i = Int32.ofNat m → xm_gi M (b + 147) i = Int32.ofNat f → xm_gi M (b + 145) 7 = Int32.ofNat u → u ≤ sz → xm_st b true p M → Pr2 b p Q M (rrF fs T sz f k j u) (okU b) →
    xm_X l E y9_readReasonsFor rm9_readReasonsFor Q 3 [(0, .ref (b + 145)), (1, .int (Int32.ofNat i)), (2, .int v2), (3, .int v3), (4, .int (Int32.ofNat j))] [] 0 0 M := by
  intro k
  induction k with
  | zero =>
    intro j u M hj hF hT e1 e2 hu hu2 hS h
    refine t9_readReasonsFor_3 (c := true) M _ _ _ _ hS ⟨xn_in hi (by decide), fun g hS => h.2 u rfl M smR.rf hS rfl rfl hu, fun g => ?_⟩
    rw [xn_c (by omega), e1] at g
    exact absurd ((xn_le (by omega) (by omega)).mpr (by omega)) g
  | succ k ih =>
    intro j u M hj hF hT e1 e2 hu hu2 hS h
    have hz := hT.1
    refine t9_readReasonsFor_3 (c := true) M _ _ _ _ hS ⟨xn_in hi (by decide), fun g => ?_, fun g => ⟨xn_in hi (by decide), ?_⟩⟩
    · rw [xn_c (by omega), e1] at g
      exact absurd ((xn_le (by omega) (by omega)).mp g) (by omega)
    · rw [xn_c (by omega), e2, ix3, ix1, ix2]
      refine s3_get hT (by omega) hS (fun hS => ⟨_, rfl, hS, s3_get hT (by omega) hS (fun hS => ⟨_, rfl, hS, s3_get hT (by omega) hS (fun hS => ⟨_, rfl, hS, ?_⟩)⟩)⟩)
      have hl : rrF fs T sz f (k + 1) j u = (match rrS fs T sz (T (f + 3 * j)) (T (f + 3 * j + 1)) (Int32.toInt64 (T (f + 3 * j + 2))) u with
        | .error e => .error e
        | .ok v => rrF fs T sz f k (j + 1) v) := rfl
      refine s9_readReason hF hT hu hu2 hS ⟨fun e hr M1 s1 hS a1 a2 => ⟨false, rfl, hS, fun q => absurd rfl q, fun _ hS => ?_⟩, fun v hr M1 s1 hS a1 a2 a3 => ⟨true, rfl, hS, fun _ hS => ?_, fun q => absurd q (by decide)⟩⟩
      · exact h.1 e (by rw [hl, hr]) M1 s1 hS a1 a2
      · rw [hr] at hl
        rw [xn_s]
        refine ih (j + 1) v M1 (by omega) (hF.fr s1) (hT.fr s1) (by rw [s1.1 _ _ (by omega)]; exact e1) (by rw [s1.1 _ _ (by omega)]; exact e2) a3 (rrS_ok hr) hS ⟨fun e q M2 s2 hS c1 c2 => h.1 e (hl.trans q) M2 (s1.tr s2) hS c1 c2, fun w q M2 s2 hS c1 c2 c3 => h.2 w (hl.trans q) M2 (s1.tr s2) hS (c1.trans a1) (c2.trans a2) c3⟩
theorem s9_readReasonsFor {v2 v3 : Int32} {fs : Int32 → Option StT} {i f m u : Nat} {M : xm_M} (hi : i < 48) (hm : m ≤ 24) (hf : f + 3 * m ≤ sz) (hF : FsO b M T sz v2 v3 fs) (hT : tpX b M T sz) (e1 : xm_gi M (b + 146) i = Int32.ofNat m) (e2 : xm_gi M (b + 147) i = Int32.ofNat f) (hu : xm_gi M (b + 145) 7 = Int32.ofNat u) (hu2 : u ≤ sz) (hS : xm_st b true p M) (h : Pr2 b p Q M (rrF fs T sz f m 0 u) (okU b)) : xm_C l E y9_readReasonsFor rm9_readReasonsFor [.ref (b + 145), .int (Int32.ofNat i), .int v2, .int v3] M Q :=
  xm_enter (by decide) (Nat.le_of_ble_eq_true rfl) (t9_readReasonsFor_0 (c := true) M _ _ _ hS (fun hS => lp_rs3 hi hm hf m 0 u M (by omega) hF hT e1 e2 hu hu2 hS h))
end RQ
