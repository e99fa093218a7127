def fltM (b : Nat) (M : xm_M) : Flt := (xm_gi M (b + 155), xm_gi M (b + 156), xm_gi M (b + 157), xm_gi M (b + 158), xm_gi M (b + 159))
def isZ (b : Nat) (M : xm_M) (n : Nat) : Bool := decide (0 < n) && decide (xm_gi M (b + 155) (n - 1) = 0)
def wpM (b : Nat) (M : xm_M) (n : Nat) : Option Nat := wpo (fun i => gdM M b i (Int32.ofNat n)) (isZ b M n) n 0
theorem wp_same {b n : Nat} {M : xm_M} (hn : n ≤ 48) (h : ∀ i, i < 48 → xm_gi M (b + 3 + i) 0 = xm_gi M (b + 155) i ∧ xm_gi M (b + 3 + i) 1 = xm_gi M (b + 156) i ∧ xm_gi M (b + 3 + i) 2 = xm_gi M (b + 157) i ∧ xm_gi M (b + 3 + i) 3 = xm_gi M (b + 158) i ∧ xm_gi M (b + 3 + i) 4 = xm_gi M (b + 159) i) : wpo (fun i => gdX M (b + 3 + i) (Int32.ofNat i) (Int32.ofNat n)) (decide (0 < n) && decide (xm_gi M (b + 3 + (n - 1)) 0 = 0)) n 0 = wpM b M n := by
  unfold wpM isZ
  have e : (decide (0 < n) && decide (xm_gi M (b + 3 + (n - 1)) 0 = 0)) = (decide (0 < n) && decide (xm_gi M (b + 155) (n - 1) = 0)) := by
    by_cases h0 : 0 < n
    · rw [(h (n - 1) (by omega)).1]
    · rw [decide_eq_false h0]; rfl
  rw [e]
  refine wpo_congr n 0 (fun j _ hj => ?_)
  obtain ⟨a1, a2, a3, a4, a5⟩ := h j (by omega)
  show gdX M (b + 3 + j) _ _ = gdM M b j _
  unfold gdX gdM
  rw [a1, a2, a3, a4, a5]
theorem wpv_2 {r : Option Nat} (h : ∀ j, r = some j → j ≤ 48) : (wpv (-2) r = -2 ↔ r = none) ∧ (0 ≤ wpv (-1) r ↔ ¬ r = none) ∧ wpv (-1) r = (if r = none then -1 else wpv (-2) r) := by
  cases r with
  | none => exact ⟨⟨fun _ => rfl, fun _ => rfl⟩, ⟨fun q => absurd q (by decide), fun q => absurd rfl q⟩, rfl⟩
  | some j =>
    have hj := h j rfl
    refine ⟨⟨fun q => ?_, fun q => (by cases q)⟩, ⟨fun _ q => (by cases q), fun _ => ?_⟩, by rw [if_neg (fun q => (by cases q))]; rfl⟩
    · have := congrArg Int32.toInt q
      rw [show (wpv (-2) (some j)).toInt = (j : Int) from toInt_of rfl (by omega), show (-2 : Int32).toInt = -2 by decide] at this
      omega
    · rw [Int32.le_iff_toInt_le, show (wpv (-1) (some j)).toInt = (j : Int) from toInt_of rfl (by omega), show (0 : Int32).toInt = 0 by decide]; omega
theorem wpM_le {b n : Nat} {M : xm_M} (hn : n ≤ 48) : ∀ j, wpM b M n = some j → j ≤ 48 := fun j h => by
  have := wpo_le n 0 j h; omega
theorem fOk_of {b n : Nat} {M : xm_M} (hn : n ≤ 48) (ho : ∀ i, i < n → ∃ o : Nat, o ≤ 16 ∧ xm_gi M (b + 155) i = Int32.ofNat o) (h : wpM b M n = none) : fOk (fltM b M) n := by
  obtain ⟨hz, hg⟩ := wpo_none n 0 h
  unfold isZ at hz
  simp only [Bool.and_eq_true, decide_eq_true_eq] at hz
  refine ⟨hn, hz.1, hz.2, fun i hi => ?_⟩
  have g := hg i (by omega) (by omega)
  unfold gdM gdB at g
  simp only [Bool.and_eq_true] at g
  obtain ⟨⟨⟨g1, g2⟩, g3⟩, g4⟩ := g
  refine ⟨ho i hi, rgB_ok g1, rgB_ok g2, fun g5 => ?_⟩
  have g5 : ¬ xm_gi M (b + 155) i < 13 := g5
  unfold taB at g4
  rw [if_neg g5] at g4
  simp only [Bool.and_eq_true, Bool.not_eq_true', decide_eq_false_iff_not] at g4
  rw [Int32.le_iff_toInt_le, Int32.le_iff_toInt_le, toInt_of rfl (by omega), toInt_of rfl (by omega)] at g4
  have hin : vp_in (xm_gi M (b + 159) i) n := vp_in_iff.mpr (by omega)
  obtain ⟨j, hj, e⟩ := vp_in_of hin (by omega)
  have e : xm_gi M (b + 159) i = Int32.ofNat j := e
  show i < (xm_gi M (b + 159) i).toNatClampNeg ∧ (xm_gi M (b + 159) i).toNatClampNeg < n ∧ xm_gi M (b + 159) i = Int32.ofNat (xm_gi M (b + 159) i).toNatClampNeg
  rw [e, xn_c (by omega)]
  rw [e, toInt_of rfl (by omega)] at g4
  exact ⟨by omega, hj, rfl⟩
theorem op_run {l : Launch} {E : xm_E} {b : Nat} : OpT l E b y0_run rm0_run [.ref (b + 0)] y11_run rm11_run [.ref (b + 154)] := by
  intro M K hR hS hK
  have hR0 := hR
  obtain ⟨⟨n, m, h1, h2, h3, h4, h5, h6, h7, h8⟩, rT, rW, ⟨t, t1, t2, t3, t4⟩, rR, rD⟩ := hR
  have rF : RlF b M := hR0.1
  have rP : RlP b M := hR0.2.2.2.1
  have hle := wpM_le (b := b) (M := M) h1
  obtain ⟨v1, v2, v3⟩ := wpv_2 hle
  refine xm_enter (by decide) (Nat.le_of_ble_eq_true rfl) (t0_run_0 M hS (s1_wrongPlace h1 h3 hS (fun hS => ⟨_, rfl, hS, fun g hS => ?_, fun g => ⟨fun g2 => ?_, fun g2 hS => ?_⟩⟩)))
  · rw [wp_same h1 h7] at g
    have hw : ¬ wpM b M n = none := fun q => g (v1.mpr q)
    exact ⟨_, rfl, hS, xm_enter (by decide) (Nat.le_of_ble_eq_true rfl) (t11_run_0 M hS (s11_wrong h1 h4 hS (fun hS => ⟨_, rfl, hS, fun _ hS => ⟨_, rfl, hS, hK _ _ hR0 hS⟩, fun q => absurd (v2.mpr hw) q⟩)))⟩
  · rw [wp_same h1 h7] at g
    have hw := v1.mp g
    have hF := fOk_of h1 h8 hw
    rw [h5, t2] at g2
    refine xm_enter (by decide) (Nat.le_of_ble_eq_true rfl) (t10_execute_0 M hS (s_fill_I (n := 8) (hS.1 _ _ (sh_152 b)) (by decide) ⟨rfl, hS, s_fill_B (n := 32) (hS.1 _ _ (sh_153 b)) (by decide) (by decide) ⟨rfl, hS, fun hS2 => ?_⟩⟩))
    have c1 : (1 : Int32).toNatClampNeg = 1 := by decide
    have e53 : xm_gi (xm_fl_I (xm_fl_I M (b + 152) 8 0) (b + 153) 32 0) (b + 53) 1 = Int32.ofNat t := by
      show (if b + 53 = b + 153 ∧ 1 < 32 then (0 : Int32) else if b + 53 = b + 152 ∧ 1 < 8 then 0 else xm_gi M (b + 53) 1) = _
      rw [if_neg (by omega), if_neg (by omega)]; exact t2
    rw [c1, e53] at hS2 ⊢
    generalize hMs : xm_pi (xm_pi (xm_pi (xm_fl_I (xm_fl_I M (b + 152) 8 0) (b + 153) 32 0) (b + 152) 1 (Int32.ofNat t)) (b + 151) 2 0) (b + 151) 3 0 = Ms at hS2 ⊢
    have ss : smI (fun x j => (x = b + 151 ∧ (j = 2 ∨ j = 3)) ∨ x = b + 152 ∨ x = b + 153) M Ms := by
      rw [← hMs]
      refine smI.pi (smI.pi (smI.pi ⟨fun a k hk => ?_, fun a k => rfl⟩ (by omega)) (by omega)) (by omega)
      show (if a = b + 153 ∧ k < 32 then (0 : Int32) else if a = b + 152 ∧ k < 8 then 0 else xm_gi M a k) = _
      rw [if_neg (by omega), if_neg (by omega)]
    have mx : mcX b Ms (fun j => if j = 1 then Int32.ofNat t else 0) (fun _ => 0) := by
      rw [← hMs]
      refine ⟨fun j hj => ?_, fun j hj => ?_⟩
      · rw [gi_pi, if_neg (by omega), gi_pi, if_neg (by omega), gi_pi]
        show _ = if j = 1 then Int32.ofNat t else 0
        by_cases e : j = 1
        · rw [if_pos ⟨rfl, e⟩, if_pos e]
        · rw [if_neg (fun q => e q.2), if_neg e]
          show (if b + 152 = b + 153 ∧ j < 32 then (0 : Int32) else if b + 152 = b + 152 ∧ j < 8 then 0 else xm_gi M (b + 152) j) = _
          rw [if_neg (by omega), if_pos ⟨rfl, hj⟩]
      · rw [gi_pi, if_neg (by omega), gi_pi, if_neg (by omega), gi_pi, if_neg (by omega)]
        show (if b + 153 = b + 153 ∧ j < 32 then (0 : Int32) else _) &&& 255 = _
        rw [if_pos ⟨rfl, hj⟩]
        show (0 : Int32) &&& 255 = 0
        decide
    have fx : fvX b Ms (fltM b M) n t (xm_gi M (b + 54)) := by
      have : fvX b M (fltM b M) n t (xm_gi M (b + 54)) := ⟨h3, t2, fun _ => rfl, h7⟩
      exact this.frame (fun a k h => ss.1 a k (by omega))
    refine lp_execute hF t1 n 0 0 Ms _ _ (by omega) hF.2.1 (Nat.le_refl _) fx (by rw [← hMs, gi_pi, if_pos ⟨rfl, rfl⟩]; rfl) (by rw [← hMs, gi_pi, if_neg (by omega), gi_pi, if_pos ⟨rfl, rfl⟩]) mx hS2 (fun M1 s1 a1 a2 hS => ⟨_, rfl, hS, fun hS => ⟨_, rfl, hS, ?_⟩⟩)
    have sa : ∀ a k, ¬ ((a = b + 151 ∧ (k = 2 ∨ k = 3)) ∨ a = b + 152 ∨ a = b + 153) → xm_gi M1 a k = xm_gi M a k := fun a k hk => by rw [s1.1 a k hk, ss.1 a k hk]
    have gdeq : wpM b M1 n = wpM b M n := by
      unfold wpM isZ
      rw [sa _ _ (by omega)]
      refine wpo_congr n 0 (fun j _ _ => ?_)
      unfold gdM
      rw [sa _ _ (by omega), sa _ _ (by omega), sa _ _ (by omega), sa _ _ (by omega), sa _ _ (by omega)]
    have hw1 : wpM b M1 n = none := gdeq.trans hw
    refine xm_enter (by decide) (Nat.le_of_ble_eq_true rfl) (t11_run_0 M1 hS (s11_wrong h1 (by rw [sa _ _ (by omega)]; exact h4) hS (fun hS => ⟨_, rfl, hS, fun q => ?_, fun _ => ?_⟩)))
    · have q : 0 ≤ wpv (-1) (wpM b M1 n) := q
      rw [hw1] at q
      exact absurd q (by decide)
    · rw [sa _ _ (by omega), sa _ _ (by omega), h6, t3]
      refine ⟨fun _ hS => ?_, fun q => absurd g2 q⟩
      have sm : smI (arN b) M1 (xm_pi (xm_pi M1 (b + 154) 12 0) (b + 154) 13 0) := (smI.rf.pi (by unfold arN; omega)).pi (by unfold arN; omega)
      have d13 : xm_gi (xm_pi (xm_pi M1 (b + 154) 12 0) (b + 154) 13 0) (b + 154) 13 = 0 := by rw [gi_pi, if_pos ⟨rfl, rfl⟩]
      have d12 : xm_gi (xm_pi (xm_pi M1 (b + 154) 12 0) (b + 154) 13 0) (b + 154) 12 = 0 := by rw [gi_pi, if_neg (by omega), gi_pi, if_pos ⟨rfl, rfl⟩]
      generalize xm_pi (xm_pi M1 (b + 154) 12 0) (b + 154) 13 0 = M2 at sm d12 d13 hS ⊢
      have l2 : xm_gi M2 (b + 154) 11 = Int32.ofNat t := by rw [sm.1 _ _ (by unfold arN; omega), sa _ _ (by omega)]; exact t3
      refine lp_run32 (len := t) 8 0 M2 rfl l2 (fun j hj => absurd hj (Nat.not_lt_zero j)) hS (fun M3 s3 z3 hS => lp_run65 32 0 M3 rfl (fun j hj => absurd hj (Nat.not_lt_zero j)) hS (fun M4 s4 z4 hS => ?_))
      have s24 : ∀ a k, ¬ (a = b + 176 ∨ a = b + 177) → xm_gi M4 a k = xm_gi M2 a k := fun a k hk => by rw [s4.1 a k (by omega), s3.1 a k (by omega)]
      have s14 : ∀ a k, ¬ arN b a k → xm_gi M4 a k = xm_gi M1 a k := fun a k hk => by rw [s24 a k (by unfold arN at hk; omega), sm.1 a k hk]
      have fm : fvM b M4 (fltM b M) t (xm_gi M (b + 54)) := by
        have : fvM b M (fltM b M) t (xm_gi M (b + 54)) := ⟨t3, fun j hj => (t4 j hj).symm, fun i hi => ⟨rfl, rfl, rfl, rfl, rfl⟩⟩
        exact this.frame (fun a k h => by rw [s14 a k (by unfold arN; omega), sa a k (by omega)])
      have mm : mcM b M4 (fun j => if j = 1 then Int32.ofNat t else 0) (fun _ => 0) := ⟨fun j hj => by rw [s4.1 _ _ (by omega)]; exact z3 j hj, fun j hj => z4 j hj⟩
      refine lp_run88 hF t1 n 0 0 M4 _ _ (by omega) hF.2.1 fm (by rw [s24 _ _ (by omega)]; exact d13) (by rw [s24 _ _ (by omega)]; exact d12) mm hS (fun M5 s5 b1 b2 hS => ⟨_, rfl, hS, ?_⟩)
      have s05 : ∀ a k, ¬ (arN b a k ∨ (a = b + 151 ∧ (k = 2 ∨ k = 3)) ∨ a = b + 152 ∨ a = b + 153) → xm_gi M5 a k = xm_gi M a k := fun a k hk => by rw [s5.1 a k (fun q => hk (Or.inl q)), s14 a k (fun q => hk (Or.inl q)), sa a k (fun q => hk (Or.inr q))]
      refine hK _ _ ⟨rF.frame (fun a k h => s05 a k (by unfold arF at h; unfold arN; omega)), rT.frame (fun a k h => s05 a k (by unfold arT at h; unfold arN; omega)), rW.frame (fun a k h => s05 a k (by unfold arW at h; unfold arN; omega)), rP.frame (fun a k h => s05 a k (by unfold arP at h; unfold arN; omega)), ⟨?_, ?_⟩, rD.frame (fun i u _ _ => by rw [s5.2, s4.2, s3.2, sm.2, s1.2, ss.2])⟩ hS
      · rw [b1, s5.1 _ _ (by unfold arN; omega), s14 _ _ (by unfold arN; omega)]; exact a1
      · rw [b2, s5.1 _ _ (by unfold arN; omega), s14 _ _ (by unfold arN; omega)]; exact a2
  · rw [wp_same h1 h7] at g
    have hw := v1.mp g
    rw [h5, t2] at g2
    refine ⟨_, rfl, hS, xm_enter (by decide) (Nat.le_of_ble_eq_true rfl) (t11_run_0 M hS (s11_wrong h1 h4 hS (fun hS => ⟨_, rfl, hS, fun _ hS => ⟨_, rfl, hS, hK _ _ hR0 hS⟩, fun _ => ⟨fun q => ?_, fun _ hS => ⟨_, rfl, hS, hK _ _ hR0 hS⟩⟩⟩)))⟩
    rw [h6, t3] at q
    exact absurd q g2
