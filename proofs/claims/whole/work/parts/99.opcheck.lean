theorem xm_st.wk {b : Nat} {c p : Bool} {M : xm_M} (h : xm_st b true p M) : xm_st b c p M := ⟨h.1, h.2.1, fun _ => h.2.2.1 rfl, h.2.2.2⟩
theorem s11_check {l : Launch} {E : xm_E} {b : Nat} {c p : Bool} {Q : Option Value → xm_M → Prop} {T : Nat → Int32} {sz : Nat} {F : Flt} {n : Nat} {M : xm_M} (hn : n ≤ 48) (hc : xm_gi M (b + 154) 1 = Int32.ofNat n) (hF : flM b M F) (hT : tpM b M T sz) (hok : wpM b M n = none → fOk F n) (hS : xm_st b c p M)
    (hw : ∀ j, wpM b M n = some j → ∀ M1, smW b M M1 → xm_gi M1 (b + 154) 9 = Int32.ofNat j → xm_st b c p M1 → Q (some (.int (-1))) M1)
    (h : wpM b M n = none → PmZ b c p Q M (chS F (xm_gi M (b + 154) 0) n T sz)) : xm_C l E y11_check rm11_check [.ref (b + 154)] M Q := by
  have wle := wpM_le (b := b) (M := M) hn
  refine xm_enter (by decide) (Nat.le_of_ble_eq_true rfl) (t11_check_0 M hS (s11_wrong hn hc hS (fun hS => ⟨_, rfl, hS, ?_⟩)))
  show ((xm_gi (xm_pi M (b + 154) 9 (wpv (-1) (wpM b M n))) (b + 154) 9 < 0 → _) ∧ _)
  have e9 : ∀ v : Int32, xm_gi (xm_pi M (b + 154) 9 v) (b + 154) 9 = v := fun v => by rw [gi_pi, if_pos ⟨rfl, rfl⟩]
  change ((xm_gi (xm_pi M (b + 154) 9 (wpv (-1) (wpM b M n))) (b + 154) 9 < 0 → (xm_st b c p (xm_pi (xm_pi (xm_pi (xm_pi M (b + 154) 9 (wpv (-1) (wpM b M n))) (b + 154) 9 (-2)) (b + 154) 31 0) (b + 154) 30 0) → xm_X l E y11_check rm11_check Q 35 [(0, .ref (b + 154)), (1, .int (0 : Int32))] [] 0 0 (xm_pi (xm_pi (xm_pi (xm_pi M (b + 154) 9 (wpv (-1) (wpM b M n))) (b + 154) 9 (-2)) (b + 154) 31 0) (b + 154) 30 0))) ∧ (¬ xm_gi (xm_pi M (b + 154) 9 (wpv (-1) (wpM b M n))) (b + 154) 9 < 0 → (xm_st b c p (xm_pi M (b + 154) 9 (wpv (-1) (wpM b M n))) → Q (some (.int (-1))) (xm_pi M (b + 154) 9 (wpv (-1) (wpM b M n))))))
  rw [e9]
  generalize wpM b M n = w at hok hw h wle ⊢
  cases w with
  | some j =>
    have hj := wle j rfl
    refine ⟨fun z => absurd ((xn_lt (b := 0) (a := j) (by omega) (by decide)).mp z) (by omega), fun _ hS => ?_⟩
    exact hw j rfl _ ⟨fun x k q => by rw [gi_pi, if_neg (by omega)], fun x k _ => rfl⟩ (e9 _) hS
  | none =>
    have hO := hok rfl
    have h := h rfl
    refine ⟨fun _ hS => ?_, fun z => absurd (by decide) z⟩
    have s0 : smW b M (xm_pi (xm_pi (xm_pi (xm_pi M (b + 154) 9 (wpv (-1) none)) (b + 154) 9 (-2)) (b + 154) 31 0) (b + 154) 30 0) := ⟨fun x k q => by rw [gi_pi, if_neg (by omega), gi_pi, if_neg (by omega), gi_pi, if_neg (by omega), gi_pi, if_neg (by omega)], fun x k _ => rfl⟩
    have d9 : xm_gi (xm_pi (xm_pi (xm_pi (xm_pi M (b + 154) 9 (wpv (-1) none)) (b + 154) 9 (-2)) (b + 154) 31 0) (b + 154) 30 0) (b + 154) 9 = -2 := by rw [gi_pi, if_neg (by omega), gi_pi, if_neg (by omega), gi_pi, if_pos ⟨rfl, rfl⟩]
    have d31 : xm_gi (xm_pi (xm_pi (xm_pi (xm_pi M (b + 154) 9 (wpv (-1) none)) (b + 154) 9 (-2)) (b + 154) 31 0) (b + 154) 30 0) (b + 154) 31 = 0 := by rw [gi_pi, if_neg (by omega), gi_pi, if_pos ⟨rfl, rfl⟩]
    have d30 : xm_gi (xm_pi (xm_pi (xm_pi (xm_pi M (b + 154) 9 (wpv (-1) none)) (b + 154) 9 (-2)) (b + 154) 31 0) (b + 154) 30 0) (b + 154) 30 = 0 := by rw [gi_pi, if_pos ⟨rfl, rfl⟩]
    generalize xm_pi (xm_pi (xm_pi (xm_pi M (b + 154) 9 (wpv (-1) none)) (b + 154) 9 (-2)) (b + 154) 31 0) (b + 154) 30 0 = M0 at s0 d9 d31 d30 hS ⊢
    have h54 : xm_gi M0 (b + 154) 0 = xm_gi M (b + 154) 0 := s0.1 _ _ (by omega)
    show xm_X l E y11_check rm11_check Q 35 [(0, .ref (b + 154)), (1, .int (Int32.ofNat 0))] [] 0 0 M0
    refine lp_ck35 (T := T) hO n 0 0 M0 (fun _ => none) (fun _ => 0) (by omega) (fun j hj => absurd hj (Nat.not_lt_zero j)) (fun j hj => absurd hj (Nat.not_lt_zero j)) (fun i hi => by rw [s0.1 _ _ (by omega), s0.1 _ _ (by omega), s0.1 _ _ (by omega), s0.1 _ _ (by omega), s0.1 _ _ (by omega)]; exact hF i hi) ⟨hT.1, by rw [s0.1 _ _ (by omega)]; exact hT.2.1, fun j hj => by rw [s0.1 _ _ (by omega)]; exact hT.2.2 j hj⟩ (by rw [s0.1 _ _ (by omega)]; exact hc) d30 (Nat.zero_le _) d31 d9 hS (fun M1 s1 d hS => ?_)
    rw [h54] at d ⊢
    exact h M1 (s0.tr s1) d hS
theorem op_check {l : Launch} {E : xm_E} {b : Nat} : OpT l E b y0_check rm0_check [.ref (b + 0)] y11_check rm11_check [.ref (b + 154)] := by
  intro M K hR hS hK
  have hR0 := hR
  obtain ⟨⟨n, m, h1, h2, h3, h4, h5, h6, h7, h8⟩, ⟨t, t1, t2, t3, t4⟩, rW, rP, rR, rD⟩ := hR
  have rF : RlF b M := hR0.1
  have rT : RlT b M := hR0.2.1
  have hwp := wp_same (b := b) (M := M) h1 h7
  have hok : wpM b M n = none → fOk (fltM b M) n := fun q => fOk_of h1 h8 q
  have hX : flX b M (fltM b M) := fun i hi => h7 i hi
  have hTX : tpX b M (xm_gi M (b + 160)) t := ⟨t1, t2, t4⟩
  refine xm_enter (by decide) (Nat.le_of_ble_eq_true rfl) (t0_check_0 M hS ?_)
  -- the class's answer and place, then the reference
  have main : ∀ (v : FpT), (∀ j, wpM b M n = some j → v = (1, Int32.ofNat j)) → (wpM b M n = none → v = vS (chS (fltM b M) (Int32.ofNat m) n (xm_gi M (b + 160)) t)) → ∀ M1, smQ b M M1 → xm_st b true false M1 → xm_gi M1 (b + 145) 10 = v.2 → ∃ r2 : Int32, some (Value.int v.1) = some (.int r2) ∧ xm_st b false false M1 ∧ (xm_st b false false (xm_pi M1 (b + 0) 6 (xm_gi M1 (b + 145) 10)) → ∃ r1 : Int32, some (Value.int (-r2)) = some (.int r1) ∧ xm_st b false false (xm_pi M1 (b + 0) 6 (xm_gi M1 (b + 145) 10)) ∧ xm_C l E y11_check rm11_check [.ref (b + 154)] (xm_pi M1 (b + 0) 6 (xm_gi M1 (b + 145) 10)) (fun r M2 => ∃ r2 : Int32, r = some (.int r2) ∧ xm_st b false false M2 ∧ K r1 r2 M2)) := by
    intro v v1 v2 M1 s1 hS1 e10
    refine ⟨_, rfl, hS1.wk, fun hS => ⟨_, rfl, hS, ?_⟩⟩
    rw [e10] at hS ⊢
    have s2 : (∀ x k, ¬ ((b + 145 ≤ x ∧ x ≤ b + 150) ∨ (x = b + 0 ∧ k = 6)) → xm_gi (xm_pi M1 (b + 0) 6 v.2) x k = xm_gi M x k) ∧ ∀ x k, ¬ (b + 145 ≤ x ∧ x ≤ b + 150) → xm_gl (xm_pi M1 (b + 0) 6 v.2) x k = xm_gl M x k := ⟨fun x k q => by rw [gi_pi, if_neg (by omega)]; exact s1.1 x k (by omega), fun x k q => s1.2 x k q⟩
    have d0 : xm_gi (xm_pi M1 (b + 0) 6 v.2) (b + 0) 6 = v.2 := by rw [gi_pi, if_pos ⟨rfl, rfl⟩]
    generalize xm_pi M1 (b + 0) 6 v.2 = M2 at hS s2 d0 ⊢
    have weq : wpM b M2 n = wpM b M n := by
      unfold wpM isZ
      rw [s2.1 _ _ (by omega)]
      refine wpo_congr n 0 (fun j _ _ => ?_)
      unfold gdM
      rw [s2.1 _ _ (by omega), s2.1 _ _ (by omega), s2.1 _ _ (by omega), s2.1 _ _ (by omega), s2.1 _ _ (by omega)]
    have fin : ∀ M3, smW b M2 M3 → xm_gi M3 (b + 154) 9 = v.2 → xm_st b false false M3 → K (-v.1) (-v.1) M3 := fun M3 s3 d9 hS => by
      have sa : ∀ x k, ¬ ((b + 145 ≤ x ∧ x ≤ b + 150) ∨ (x = b + 0 ∧ k = 6) ∨ (x = b + 154 ∧ (k = 9 ∨ k = 14 ∨ k = 19 ∨ k = 30 ∨ k = 31)) ∨ (b + 162 ≤ x ∧ x ≤ b + 164) ∨ x = b + 174 ∨ x = b + 175) → xm_gi M3 x k = xm_gi M x k := fun x k q => by rw [s3.1 x k (by omega), s2.1 x k (by omega)]
      refine hK _ _ ⟨rF.frame (fun a k h => sa a k (by unfold arF at h; omega)), rT.frame (fun a k h => sa a k (by unfold arT at h; omega)), ?_, rP.frame (fun a k h => sa a k (by unfold arP at h; omega)), rR.frame (fun a k h => sa a k (by unfold arR at h; omega)), rD.frame (fun i u _ _ => by rw [s3.2 _ _ (by omega), s2.2 _ _ (by omega)])⟩ hS
      show xm_gi M3 (b + 0) 6 = xm_gi M3 (b + 154) 9
      rw [d9, s3.1 _ _ (by omega)]; exact d0
    have e54 : xm_gi M2 (b + 154) 0 = Int32.ofNat m := by rw [s2.1 _ _ (by omega)]; exact h6
    refine s11_check (F := fltM b M) (T := xm_gi M (b + 160)) (sz := t) h1 (by rw [s2.1 _ _ (by omega)]; exact h4) (fun i hi => by rw [s2.1 _ _ (by omega), s2.1 _ _ (by omega), s2.1 _ _ (by omega), s2.1 _ _ (by omega), s2.1 _ _ (by omega)]; exact ⟨rfl, rfl, rfl, rfl, rfl⟩) ⟨t1, by rw [s2.1 _ _ (by omega)]; exact t3, fun j hj => s2.1 _ _ (by omega)⟩ (fun q => hok (weq.symm.trans q)) hS (fun j q M3 s3 d9 hS => ?_) (fun q M3 s3 d9 hS => ?_)
    · have ev := v1 j (weq.symm.trans q)
      refine ⟨_, rfl, hS, ?_⟩
      have := fin M3 s3 (by rw [ev]; exact d9) hS
      rw [ev] at this ⊢
      exact this
    · have ev := v2 (weq.symm.trans q)
      rw [e54] at d9 ⊢
      refine ⟨_, rfl, hS, ?_⟩
      rw [← ev] at d9 ⊢
      exact fin M3 s3 d9 hS
  refine s9_read (F := fltM b M) h1 h3 hX hTX (fun q => hok (hwp.symm.trans q)) hS (fun j q M1 s1 hS e10 => ?_) (fun q M1 s1 hS e10 => ?_)
  · exact main (1, Int32.ofNat j) (fun j' q' => by rw [← hwp, q] at q'; cases q'; rfl) (fun q' => by rw [← hwp, q] at q'; cases q') M1 s1 hS e10
  · rw [h5] at e10 ⊢
    exact main _ (fun j' q' => by rw [← hwp, q] at q'; cases q') (fun _ => rfl) M1 s1 hS e10
