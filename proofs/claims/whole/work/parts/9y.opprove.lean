/-! prove: both agree -/
theorem wpM_cg {b n : Nat} {M N : xm_M} (h : ∀ x k, b + 155 ≤ x → x ≤ b + 159 → xm_gi N x k = xm_gi M x k) : wpM b N n = wpM b M n := by
  unfold wpM isZ
  rw [h _ _ (by omega) (by omega)]
  refine wpo_congr n 0 (fun j _ _ => ?_)
  unfold gdM
  rw [h _ _ (by omega) (by omega), h _ _ (by omega) (by omega), h _ _ (by omega) (by omega), h _ _ (by omega) (by omega), h _ _ (by omega) (by omega)]
theorem xm_st.wp {b : Nat} {c p : Bool} {M : xm_M} (h : xm_st b c true M) : xm_st b c p M := ⟨h.1, h.2.1, h.2.2.1, fun _ => h.2.2.2 rfl⟩
section OPP
variable {l : Launch} {E : xm_E} {b : Nat} {c p : Bool} {Q : Option Value → xm_M → Prop} {F : Flt} {n m : Nat}
theorem s11_prove {M : xm_M} (hn : n ≤ 48) (hm : m ≤ 1024) (hc : xm_gi M (b + 154) 1 = Int32.ofNat n) (h0 : xm_gi M (b + 154) 0 = Int32.ofNat m) (hL : flM b M F) (hok : wpM b M n = none → fOk F n) (hS : xm_st b c p M)
    (hw : ∀ j, wpM b M n = some j → ∀ M1, smPv b M M1 → xm_gi M1 (b + 154) 9 = Int32.ofNat j → xm_gi M1 (b + 154) 8 = 0 → xm_st b c p M1 → Q (some (.int (-1))) M1)
    (hl : wpM b M n = none → ∀ j, ndS F (bdE F (Int32.ofNat m) n) n (fun _ => noN) = .inl j → ∀ M1, smPv b M M1 → xm_gi M1 (b + 154) 9 = Int32.ofNat j → xm_gi M1 (b + 154) 8 = 0 → xm_st b c p M1 → Q (some (.int (-2))) M1)
    (h1 : wpM b M n = none → ∀ ndE, ndS F (bdE F (Int32.ofNat m) n) n (fun _ => noN) = .inr ndE → (prT F (Int32.ofNat m) (bdE F (Int32.ofNat m) n) ndE n).length ≤ 20000 → ∀ M1, smPv b M M1 → xm_gi M1 (b + 154) 9 = -2 → xm_gi M1 (b + 154) 8 = Int32.ofNat (prT F (Int32.ofNat m) (bdE F (Int32.ofNat m) n) ndE n).length → (∀ x v, (prT F (Int32.ofNat m) (bdE F (Int32.ofNat m) n) ndE n)[x]? = some v → xm_gi M1 (b + 160) x = v) → xm_st b c p M1 → Q (some (.int (Int32.ofNat (prT F (Int32.ofNat m) (bdE F (Int32.ofNat m) n) ndE n).length))) M1)
    (h2 : wpM b M n = none → ∀ ndE, ndS F (bdE F (Int32.ofNat m) n) n (fun _ => noN) = .inr ndE → ¬ (prT F (Int32.ofNat m) (bdE F (Int32.ofNat m) n) ndE n).length ≤ 20000 → ∀ M1, smPv b M M1 → xm_gi M1 (b + 154) 9 = Int32.ofNat n → xm_gi M1 (b + 154) 8 = 0 → xm_st b c p M1 → Q (some (.int (-2))) M1) :
    xm_C l E y11_prove rm11_prove [.ref (b + 154)] M Q := by
  have wle := wpM_le (b := b) (M := M) hn
  have weq : wpM b (xm_pi M (b + 154) 8 0) n = wpM b M n := wpM_cg (fun x k q1 q2 => by rw [gi_pi, if_neg (by omega)])
  have e8 : xm_gi (xm_pi M (b + 154) 8 0) (b + 154) 8 = 0 := by rw [gi_pi, if_pos ⟨rfl, rfl⟩]
  have sA : smPv b M (xm_pi M (b + 154) 8 0) := ⟨fun x k q => by rw [gi_pi, if_neg (by omega)], fun _ _ _ => rfl⟩
  have cA : xm_gi (xm_pi M (b + 154) 8 0) (b + 154) 1 = Int32.ofNat n := by rw [gi_pi, if_neg (by omega)]; exact hc
  have hSA : xm_st b c p (xm_pi M (b + 154) 8 0) := hS.pi
  refine xm_enter (by decide) (Nat.le_of_ble_eq_true rfl) (t11_prove_0 M hS ?_)
  generalize xm_pi M (b + 154) 8 0 = MA at weq e8 sA cA hSA ⊢
  refine s11_wrong hn cA hSA (fun hS => ⟨_, rfl, hS, ?_⟩)
  have ew : wpo (fun i => gdM MA b i (Int32.ofNat n)) (decide (0 < n) && decide (xm_gi MA (b + 155) (n - 1) = 0)) n 0 = wpM b M n := weq
  rw [ew]
  have e9 : ∀ v : Int32, xm_gi (xm_pi MA (b + 154) 9 v) (b + 154) 9 = v := fun v => by rw [gi_pi, if_pos ⟨rfl, rfl⟩]
  rw [e9]
  generalize wpM b M n = w at hok hw hl h1 h2 wle ⊢
  cases w with
  | some j =>
    have hj := wle j rfl
    refine ⟨fun z => absurd ((xn_lt (b := 0) (a := j) (by omega) (by decide)).mp z) (by omega), fun _ hS => ?_⟩
    exact hw j rfl _ (sA.tr ⟨fun x k q => by rw [gi_pi, if_neg (by omega)], fun x k _ => rfl⟩) (e9 _) (by rw [gi_pi, if_neg (by omega)]; exact e8) hS
  | none =>
    have hF := hok rfl
    have hl := hl rfl
    have h1 := h1 rfl
    have h2 := h2 rfl
    refine ⟨fun _ => ?_, fun z => absurd (by decide) z⟩
    have sB : smPv b M (xm_pi (xm_pi MA (b + 154) 9 (wpv (-1) none)) (b + 154) 9 (-2)) := sA.tr ⟨fun x k q => by rw [gi_pi, if_neg (by omega), gi_pi, if_neg (by omega)], fun x k _ => rfl⟩
    have d9 : xm_gi (xm_pi (xm_pi MA (b + 154) 9 (wpv (-1) none)) (b + 154) 9 (-2)) (b + 154) 9 = -2 := by rw [gi_pi, if_pos ⟨rfl, rfl⟩]
    have d8 : xm_gi (xm_pi (xm_pi MA (b + 154) 9 (wpv (-1) none)) (b + 154) 9 (-2)) (b + 154) 8 = 0 := by rw [gi_pi, if_neg (by omega), gi_pi, if_neg (by omega)]; exact e8
    have hSB : xm_st b c p (xm_pi (xm_pi MA (b + 154) 9 (wpv (-1) none)) (b + 154) 9 (-2)) := hS.pi.pi
    generalize xm_pi (xm_pi MA (b + 154) 9 (wpv (-1) none)) (b + 154) 9 (-2) = MB at sB d9 d8 hSB ⊢
    have LB : flM b MB F := fun i hi => by
      rw [sB.1 _ _ (by omega), sB.1 _ _ (by omega), sB.1 _ _ (by omega), sB.1 _ _ (by omega), sB.1 _ _ (by omega)]; exact hL i hi
    have cB : xm_gi MB (b + 154) 1 = Int32.ofNat n := by rw [sB.1 _ _ (by omega)]; exact hc
    have lB : xm_gi MB (b + 154) 0 = Int32.ofNat m := by rw [sB.1 _ _ (by omega)]; exact h0
    refine xm_enter (by decide) (Nat.le_of_ble_eq_true rfl) (t11_findBounds_0 MB hSB (fun hS => lp_fm2 hF (bg_same hm) n 0 MB (by omega) (fun x hx => absurd hx (Nat.not_lt_zero x)) LB cB lB (bg_fw hm).1 hS (fun M1 s1 x1 i1 hS => ⟨rfl, hS, fun hS => ?_⟩)))
    have c1 : xm_gi M1 (b + 154) 1 = Int32.ofNat n := by rw [s1.1 _ _ (by omega)]; exact cB
    have C1 : cnM b M1 F n (Int32.ofNat m) (bdE F (Int32.ofNat m) n) := ⟨LB.h s1, x1, i1, c1, by rw [s1.1 _ _ (by omega)]; exact lB⟩
    refine lp_pv34 hF (100 * n) 0 M1 (by omega) c1 (fun y hy => absurd hy (Nat.not_lt_zero y)) hS (fun M2 g1 g2 z2 hS => ?_)
    have C2 := C1.fr (N := M2) (fun x k q => g1 _ _ (by omega)) (fun x k q => g2 _ _)
    have s2 : smPv b M M2 := sB.tr (s1.pv.tr ⟨fun x k q => g1 _ _ (by omega), fun x k q => g2 _ _⟩)
    have f9 : xm_gi M2 (b + 154) 9 = -2 := by rw [g1 _ _ (by omega), s1.1 _ _ (by omega)]; exact d9
    have f8 : xm_gi M2 (b + 154) 8 = 0 := by rw [g1 _ _ (by omega), s1.1 _ _ (by omega)]; exact d8
    exact lp_pv65 hm hF rfl n (fun _ => noN) M2 (Nat.le_refl n) rfl C2 z2 (fun y a1 a2 => absurd a1 (by omega)) (fun y a1 a2 => absurd a1 (by omega)) hS (fun j hj M3 s3 e9 e8 hS => hl j hj M3 (s2.tr s3) e9 (e8.trans f8) hS) (fun ndE hj q M3 s3 e9 e8 e6 hS => h1 ndE hj q M3 (s2.tr s3) (e9.trans f9) e8 e6 hS) (fun ndE hj q M3 s3 e9 e8 hS => h2 ndE hj q M3 (s2.tr s3) e9 (e8.trans f8) hS)
theorem s3_keep0 {t : Nat} {M : xm_M} (ht : t ≤ 20000) (h1 : xm_gi M (b + 51) 1 = Int32.ofNat t) (hS : xm_st b c p M) (h : xm_st b c p (xm_pi M (b + 51) 1 0) → Q (some (.int (xz true))) (xm_pi M (b + 51) 1 0)) : xm_C l E y3_keep rm3_keep [.ref (b + 51), .int 0] M Q := by
  refine xm_enter (by decide) (Nat.le_of_ble_eq_true rfl) (t3_keep_0 M _ hS ⟨fun g => absurd g (by decide), fun _ => ?_⟩)
  rw [h1, show (0 : Int32) = Int32.ofNat 0 from rfl]
  exact ⟨fun _ => h, fun g => absurd ((xn_le (by decide) (by omega)).mpr (Nat.zero_le _)) g⟩
/-- what the class's prove changes -/
def smCp (b : Nat) (M N : xm_M) : Prop := (∀ x k, ¬ ((x = b + 0 ∧ k = 6) ∨ (x = b + 51 ∧ k = 1) ∨ x = b + 52 ∨ (x = b + 55 ∧ (k = 10 ∨ k = 11)) ∨ (b + 105 ≤ x ∧ x ≤ b + 144)) → xm_gi N x k = xm_gi M x k) ∧ ∀ x k, ¬ ((b + 57 ≤ x ∧ x < b + 105) ∨ (b + 110 ≤ x ∧ x ≤ b + 144)) → xm_gl N x k = xm_gl M x k
theorem smCp.tr {b : Nat} {M N P : xm_M} (h : smCp b M N) (g : smCp b N P) : smCp b M P := ⟨fun x k q => (g.1 x k q).trans (h.1 x k q), fun x k q => (g.2 x k q).trans (h.2 x k q)⟩
theorem smPd.cp {b : Nat} {M N : xm_M} (h : smPd b M N) : smCp b M N := ⟨fun x k q => h.1 x k (by omega), fun x k q => h.2 x k (by omega)⟩
theorem smCp.p6 {b : Nat} {M : xm_M} {v : Int32} : smCp b M (xm_pi M (b + 0) 6 v) := ⟨fun x k q => by rw [gi_pi, if_neg (by omega)], fun _ _ _ => rfl⟩
theorem smCp.p51 {b : Nat} {M : xm_M} {v : Int32} : smCp b M (xm_pi M (b + 51) 1 v) := ⟨fun x k q => by rw [gi_pi, if_neg (by omega)], fun _ _ _ => rfl⟩
theorem rl_end {M N O : xm_M} {v : Int32} {t : Nat} (hR : Rl b M) (c1 : smCp b M N) (r1 : smPv b N O) (hD : RlD b N) (h6 : xm_gi N (b + 0) 6 = v) (h9 : xm_gi O (b + 154) 9 = v) (ht : t ≤ 20000) (ha : xm_gi N (b + 51) 1 = Int32.ofNat t) (hb : xm_gi O (b + 154) 8 = Int32.ofNat t) (he : ∀ j, j < t → xm_gi N (b + 52) j = xm_gi O (b + 160) j) : Rl b O := by
  obtain ⟨rF, rT, rW, rP, rR, rD⟩ := hR
  refine ⟨rF.frame (fun a k h => ?_), ⟨t, ht, ?_, hb, fun i hi => ?_⟩, ?_, rP.frame (fun a k h => ?_), rR.frame (fun a k h => ?_), fun i u hi hu => ?_⟩
  · unfold arF at h; rw [r1.1 _ _ (by omega), c1.1 _ _ (by omega)]
  · rw [r1.1 _ _ (by omega)]; exact ha
  · rw [r1.1 _ _ (by omega)]; exact he i hi
  · show xm_gi O (b + 0) 6 = xm_gi O (b + 154) 9
    rw [h9, r1.1 _ _ (by omega)]; exact h6
  · unfold arP at h; rw [r1.1 _ _ (by omega), c1.1 _ _ (by omega)]
  · unfold arR at h; rw [r1.1 _ _ (by omega), c1.1 _ _ (by omega)]
  · rw [r1.2 _ _ (by omega)]; exact hD i u hi hu
theorem ndS_le {F : Flt} {s : BdT} {j : Nat} : ∀ (i : Nat) (nd : NdT), ndS F s i nd = .inl j → j < i
  | 0, _, h => by cases h
  | i + 1, nd, h => by
    unfold ndS at h
    by_cases g : s.1 i = true
    · rw [if_pos g] at h
      cases h1 : gvI F s nd i with
      | none => rw [h1] at h; cases h; exact Nat.lt_succ_self _
      | some R =>
        rw [h1] at h
        have h : (if rkN (mkI (F.1 i) R noN) 100 ≤ 24 then ndS F s i (udN nd i (mkI (F.1 i) R noN)) else .inl i) = .inl j := h
        by_cases g2 : rkN (mkI (F.1 i) R noN) 100 ≤ 24
        · rw [if_pos g2] at h
          have := ndS_le i _ h
          omega
        · rw [if_neg g2] at h; cases h; exact Nat.lt_succ_self _
    · rw [if_neg g] at h
      have := ndS_le i _ h
      omega
theorem of_m2 {j : Nat} (hj : j < 2 ^ 31) : ¬ Int32.ofNat j = (-2 : Int32) := fun z => by
  have := congrArg Int32.toInt z
  rw [toInt_of rfl hj, show (-2 : Int32).toInt = -2 by decide] at this
  omega
theorem op_prove : OpT l E b y0_prove rm0_prove [.ref (b + 0)] y11_prove rm11_prove [.ref (b + 154)] := by
  intro M K hR hS hK
  have hR0 := hR
  obtain ⟨⟨n, m, g1, g2, g3, g4, g5, g6, g7, g8⟩, ⟨t, t1, t2, t3, t4⟩, rW, rP, rR, rD⟩ := hR
  have hle := wpM_le (b := b) (M := M) g1
  have hX : flX b M (fltM b M) := fun i hi => g7 i hi
  have hok : wpM b M n = none → fOk (fltM b M) n := fun q => fOk_of g1 g8 q
  -- the reference, after the class
  have ref : ∀ (N : xm_M) (r : Int32) (v : Int32) (u : Nat), smCp b M N → RlD b N → xm_gi N (b + 0) 6 = v → u ≤ 20000 → xm_gi N (b + 51) 1 = Int32.ofNat u → xm_st b false false N →
      (∀ j, wpM b M n = some j → r = -1 ∧ v = Int32.ofNat j ∧ u = 0) →
      (wpM b M n = none → ∀ j, ndS (fltM b M) (bdE (fltM b M) (Int32.ofNat m) n) n (fun _ => noN) = .inl j → r = -2 ∧ v = Int32.ofNat j ∧ u = 0) →
      (wpM b M n = none → ∀ ndE, ndS (fltM b M) (bdE (fltM b M) (Int32.ofNat m) n) n (fun _ => noN) = .inr ndE → (prT (fltM b M) (Int32.ofNat m) (bdE (fltM b M) (Int32.ofNat m) n) ndE n).length ≤ 20000 → r = Int32.ofNat (prT (fltM b M) (Int32.ofNat m) (bdE (fltM b M) (Int32.ofNat m) n) ndE n).length ∧ v = -2 ∧ u = (prT (fltM b M) (Int32.ofNat m) (bdE (fltM b M) (Int32.ofNat m) n) ndE n).length ∧ ∀ x w, (prT (fltM b M) (Int32.ofNat m) (bdE (fltM b M) (Int32.ofNat m) n) ndE n)[x]? = some w → xm_gi N (b + 52) x = w) →
      (wpM b M n = none → ∀ ndE, ndS (fltM b M) (bdE (fltM b M) (Int32.ofNat m) n) n (fun _ => noN) = .inr ndE → ¬ (prT (fltM b M) (Int32.ofNat m) (bdE (fltM b M) (Int32.ofNat m) n) ndE n).length ≤ 20000 → r = -2 ∧ v = Int32.ofNat n ∧ u = 0) →
      xm_C l E y11_prove rm11_prove [.ref (b + 154)] N (fun q M2 => ∃ r2 : Int32, q = some (.int r2) ∧ xm_st b false false M2 ∧ K r r2 M2) := by
    intro N r v u cN dN p6 hu h51 hSN a1 a2 a3 a4
    have weq : wpM b N n = wpM b M n := wpM_cg (fun x k q1 q2 => cN.1 _ _ (by omega))
    have LN : flM b N (fltM b M) := fun i hi => by
      rw [cN.1 _ _ (by omega), cN.1 _ _ (by omega), cN.1 _ _ (by omega), cN.1 _ _ (by omega), cN.1 _ _ (by omega)]; exact ⟨rfl, rfl, rfl, rfl, rfl⟩
    refine s11_prove (F := fltM b M) g1 g2 (by rw [cN.1 _ _ (by omega)]; exact g4) (by rw [cN.1 _ _ (by omega)]; exact g6) LN (fun q => hok (weq.symm.trans q)) hSN (fun j q M2 s2 e9 e8 hS => ?_) (fun q j hj M2 s2 e9 e8 hS => ?_) (fun q ndE hj hle M2 s2 e9 e8 e6 hS => ?_) (fun q ndE hj hle M2 s2 e9 e8 hS => ?_)
    · obtain ⟨b1, b2, b3⟩ := a1 j (weq.symm.trans q)
      subst b1 b2 b3
      exact ⟨_, rfl, hS, hK _ _ (rl_end hR0 cN s2 dN p6 e9 hu h51 e8 (fun j hj => absurd hj (Nat.not_lt_zero j))) hS⟩
    · obtain ⟨b1, b2, b3⟩ := a2 (weq.symm.trans q) j hj
      subst b1 b2 b3
      exact ⟨_, rfl, hS, hK _ _ (rl_end hR0 cN s2 dN p6 e9 hu h51 e8 (fun j hj => absurd hj (Nat.not_lt_zero j))) hS⟩
    · obtain ⟨b1, b2, b3, b4⟩ := a3 (weq.symm.trans q) ndE hj hle
      subst b1 b2 b3
      refine ⟨_, rfl, hS, hK _ _ (rl_end hR0 cN s2 dN p6 e9 hu h51 e8 (fun j hj => ?_)) hS⟩
      obtain ⟨w, hw⟩ : ∃ w, (prT (fltM b M) (Int32.ofNat m) (bdE (fltM b M) (Int32.ofNat m) n) ndE n)[j]? = some w := ⟨_, List.getElem?_eq_getElem hj⟩
      rw [b4 j w hw, e6 j w hw]
    · obtain ⟨b1, b2, b3⟩ := a4 (weq.symm.trans q) ndE hj hle
      subst b1 b2 b3
      exact ⟨_, rfl, hS, hK _ _ (rl_end hR0 cN s2 dN p6 e9 hu h51 e8 (fun j hj => absurd hj (Nat.not_lt_zero j))) hS⟩
  refine xm_enter (by decide) (Nat.le_of_ble_eq_true rfl) (t0_prove_0 M hS (s3_keep0 t1 t2 hS (fun hS => ⟨true, rfl, hS, ?_⟩)))
  have sA : smCp b M (xm_pi M (b + 51) 1 0) := smCp.p51
  have d51 : xm_gi (xm_pi M (b + 51) 1 0) (b + 51) 1 = 0 := by rw [gi_pi, if_pos ⟨rfl, rfl⟩]
  have dA : RlD b (xm_pi M (b + 51) 1 0) := fun i u hi hu => rD i u hi hu
  generalize xm_pi M (b + 51) 1 0 = MA at sA d51 dA hS ⊢
  have wA : wpo (fun i => gdX MA (b + 3 + i) (Int32.ofNat i) (Int32.ofNat n)) (decide (0 < n) && decide (xm_gi MA (b + 3 + (n - 1)) 0 = 0)) n 0 = wpM b M n := by
    have h7 : ∀ i, i < 48 → xm_gi MA (b + 3 + i) 0 = xm_gi MA (b + 155) i ∧ xm_gi MA (b + 3 + i) 1 = xm_gi MA (b + 156) i ∧ xm_gi MA (b + 3 + i) 2 = xm_gi MA (b + 157) i ∧ xm_gi MA (b + 3 + i) 3 = xm_gi MA (b + 158) i ∧ xm_gi MA (b + 3 + i) 4 = xm_gi MA (b + 159) i := fun i hi => by
      rw [sA.1 _ _ (by omega), sA.1 _ _ (by omega), sA.1 _ _ (by omega), sA.1 _ _ (by omega), sA.1 _ _ (by omega), sA.1 _ _ (by omega), sA.1 _ _ (by omega), sA.1 _ _ (by omega), sA.1 _ _ (by omega), sA.1 _ _ (by omega)]; exact g7 i hi
    rw [wp_same g1 h7]
    exact wpM_cg (fun x k q1 q2 => sA.1 _ _ (by omega))
  refine s1_wrongPlace g1 (by rw [sA.1 _ _ (by omega)]; exact g3) hS (fun hS => ⟨_, rfl, hS, ?_⟩)
  rw [wA]
  have e6 : ∀ (N : xm_M) (v : Int32), xm_gi (xm_pi N (b + 0) 6 v) (b + 0) 6 = v := fun N v => by rw [gi_pi, if_pos ⟨rfl, rfl⟩]
  rw [e6]
  obtain ⟨v1, v2, v3⟩ := wpv_2 hle
  have sB : ∀ v, smCp b M (xm_pi MA (b + 0) 6 v) := fun v => sA.tr smCp.p6
  refine ⟨fun g => ?_, fun g hS => ?_⟩
  · have hw := v1.mp g
    have hF := hok hw
    have hSB : xm_st b false false (xm_pi MA (b + 0) 6 (wpv (-2) (wpM b M n))) := hS.pi
    have sB1 := sB (wpv (-2) (wpM b M n))
    have dB : RlD b (xm_pi MA (b + 0) 6 (wpv (-2) (wpM b M n))) := fun i u hi hu => dA i u hi hu
    have e51 : xm_gi (xm_pi MA (b + 0) 6 (wpv (-2) (wpM b M n))) (b + 51) 1 = 0 := by rw [gi_pi, if_neg (by omega)]; exact d51
    generalize xm_pi MA (b + 0) 6 (wpv (-2) (wpM b M n)) = MB at hSB sB1 dB e51 ⊢
    have XB : flX b MB (fltM b M) := fun i hi => by
      rw [sB1.1 _ _ (by omega), sB1.1 _ _ (by omega), sB1.1 _ _ (by omega), sB1.1 _ _ (by omega), sB1.1 _ _ (by omega)]; exact hX i hi
    -- a failure
    have fail : ∀ (N : xm_M) (j u : Nat), j < 2 ^ 31 → u ≤ 20000 → smPd b MB N → RlD b N → xm_gi N (b + 51) 1 = Int32.ofNat u → xm_st b false true N → ((∀ q, ndS (fltM b M) (bdE (fltM b M) (Int32.ofNat m) n) n (fun _ => noN) = .inl q → q = j) ∧ (∀ ndE, ndS (fltM b M) (bdE (fltM b M) (Int32.ofNat m) n) n (fun _ => noN) = .inr ndE → ¬ (prT (fltM b M) (Int32.ofNat m) (bdE (fltM b M) (Int32.ofNat m) n) ndE n).length ≤ 20000 ∧ n = j)) → xm_C l E y3_keep rm3_keep [.ref (b + 51), .int 0] (xm_pi N (b + 0) 6 (Int32.ofNat j)) (fun r M7 => ∃ r8 : Bool, r = some (.int (xz r8)) ∧ xm_st b false false M7 ∧ (xm_st b false false M7 → ∃ r1 : Int32, some (Value.int (-2)) = some (.int r1) ∧ xm_st b false false M7 ∧ xm_C l E y11_prove rm11_prove [.ref (b + 154)] M7 (fun r M2 => ∃ r2 : Int32, r = some (.int r2) ∧ xm_st b false false M2 ∧ K r1 r2 M2))) := by
      intro N j u hj hu sN dN h51 hSN hcase
      have sC : smCp b M (xm_pi N (b + 0) 6 (Int32.ofNat j)) := sB1.tr (sN.cp.tr smCp.p6)
      have hSC : xm_st b false false (xm_pi N (b + 0) 6 (Int32.ofNat j)) := hSN.wp.pi
      refine s3_keep0 hu (by rw [gi_pi, if_neg (by omega)]; exact h51) hSC (fun hS => ⟨true, rfl, hS, fun hS => ⟨_, rfl, hS, ?_⟩⟩)
      refine ref _ (-2) (Int32.ofNat j) 0 (sC.tr smCp.p51) (fun i u hi hu => dN i u hi hu) (by rw [gi_pi, if_neg (by omega)]; exact e6 N _) (by decide) (by rw [gi_pi, if_pos ⟨rfl, rfl⟩]; rfl) hS (fun q hq => by rw [hw] at hq; cases hq) (fun _ q hq => ⟨rfl, by rw [hcase.1 q hq], rfl⟩) (fun _ ndE hq hle => absurd hle (hcase.2 ndE hq).1) (fun _ ndE hq _ => ⟨rfl, by rw [(hcase.2 ndE hq).2], rfl⟩)
    refine s5_produce g2 hF dB XB (by rw [sB1.1 _ _ (by omega)]; exact g3) (by rw [sB1.1 _ _ (by omega)]; exact g5) e51 hSB (fun j hj M1 s1 d1 z1 hS => ⟨_, rfl, hS.wp, ?_⟩) (fun ndE hj M1 s1 d1 z1 hS => ?_)
    · have hjn := ndS_le n _ hj
      rw [e6]
      refine ⟨fun z => absurd z (of_m2 (by omega)), fun _ => fail M1 j 0 (by omega) (by decide) s1 d1 z1 hS ⟨fun q hq => by rw [hj] at hq; cases hq; rfl, fun ndE hq => by rw [hj] at hq; cases hq⟩⟩
    · by_cases hlen : (prT (fltM b M) (Int32.ofNat m) (bdE (fltM b M) (Int32.ofNat m) n) ndE n).length ≤ 20000
      · rw [if_pos hlen]
        refine ⟨_, rfl, hS.wp, ?_⟩
        rw [e6]
        refine ⟨fun _ hS => ⟨_, rfl, hS, ?_⟩, fun z => absurd rfl z⟩
        have h51 : xm_gi (xm_pi M1 (b + 0) 6 (-2)) (b + 51) 1 = Int32.ofNat (prT (fltM b M) (Int32.ofNat m) (bdE (fltM b M) (Int32.ofNat m) n) ndE n).length := by
          rw [gi_pi, if_neg (by omega), z1.2.1, show min (prT (fltM b M) (Int32.ofNat m) (bdE (fltM b M) (Int32.ofNat m) n) ndE n).length 20000 = (prT (fltM b M) (Int32.ofNat m) (bdE (fltM b M) (Int32.ofNat m) n) ndE n).length by omega]
        rw [h51]
        refine ref _ _ (-2) (prT (fltM b M) (Int32.ofNat m) (bdE (fltM b M) (Int32.ofNat m) n) ndE n).length (sB1.tr (s1.cp.tr smCp.p6)) (fun i u hi hu => d1 i u hi hu) (e6 M1 _) hlen h51 hS (fun q hq => by rw [hw] at hq; cases hq) (fun _ q hq => by rw [hj] at hq; cases hq) (fun _ ndE' hq _ => ?_) (fun _ ndE' hq hno => ?_)
        · rw [hj] at hq
          cases hq
          refine ⟨rfl, rfl, rfl, fun x w hx => ?_⟩
          have hxl := (List.getElem?_eq_some_iff.mp hx).1
          rw [gi_pi, if_neg (by omega)]
          exact z1.2.2.1 x w hx (by omega)
        · rw [hj] at hq
          cases hq
          exact absurd hlen hno
      · rw [if_neg hlen]
        refine ⟨_, rfl, hS.wp, ?_⟩
        rw [e6]
        refine ⟨fun z => absurd z (of_m2 (by omega)), fun _ => fail M1 n 20000 (by omega) (by decide) s1 d1 ?_ hS ⟨fun q hq => (by rw [hj] at hq; cases hq), fun ndE' hq => (by rw [hj] at hq; cases hq; exact ⟨hlen, rfl⟩)⟩⟩
        rw [z1.2.1, show min (prT (fltM b M) (Int32.ofNat m) (bdE (fltM b M) (Int32.ofNat m) n) ndE n).length 20000 = 20000 by omega]
  · have hw : ¬ wpM b M n = none := fun q => g (v1.mpr q)
    cases hj : wpM b M n with
    | none => exact absurd hj hw
    | some j =>
      rw [hj] at hS
      refine ⟨_, rfl, hS, ref _ (-1) (Int32.ofNat j) 0 (sB _) (fun i u hi hu => dA i u hi hu) (e6 MA _) (by decide) (by rw [gi_pi, if_neg (by omega)]; exact d51) hS (fun q hq => by rw [hj] at hq; cases hq; exact ⟨rfl, rfl, rfl⟩) (fun q => absurd q hw) (fun q => absurd q hw) (fun q => absurd q hw)⟩
end OPP
