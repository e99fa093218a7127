section ON
variable {l : Launch} {E : xm_E} {b : Nat} {c p : Bool} {Q : Option Value → xm_M → Prop} {M : xm_M}
/-- what holds behind one instruction of the reference; nx: the next place, where there is no trap -/
def PfM (b : Nat) (c p : Bool) (Q : Option Value → xm_M → Prop) (M : xm_M) (a : Nat) (R S : Nat → Int32) (nx : Int32) (w : Int32 × Option Int32 × Option (Nat × Int32)) : Prop := ∀ M1, smI (fun x j => (x = b + 154 ∧ j = 36) ∨ x = b + 176 ∨ x = b + 177) M M1 → mcM b M1 (mRg a R w.2.1) (mSc S w.2.2) → (w.1 = 0 → xm_gi M1 (b + 154) 36 = nx) → xm_st b c p M1 → Q (some (.int w.1)) M1
variable {a : Nat} {R S : Nat → Int32} {nx : Int32}
theorem pm_reg {v : Int32} {w : Int32 × Option Int32 × Option (Nat × Int32)} (hX : mcM b M R S) (hn : xm_gi M (b + 154) 36 = nx) (ew : w = (0, some v, none)) (h : PfM b c p Q M a R S nx w) : xm_st b c p (xm_pi M (b + 176) a v) → Q (some (.int 0)) (xm_pi M (b + 176) a v) := fun hS => by
  subst ew
  refine h _ (smI.rf.pi (Or.inr (Or.inl rfl))) ⟨fun j hj => ?_, fun j hj => ?_⟩ (fun _ => by rw [gi_pi, if_neg (by omega)]; exact hn) hS
  · show (if b + 176 = b + 176 ∧ j = a then v else xm_gi M (b + 176) j) = if j = a then v else R j
    by_cases e : j = a
    · rw [if_pos ⟨rfl, e⟩, if_pos e]
    · rw [if_neg (fun q => e q.2), if_neg e]; exact hX.1 j hj
  · rw [gi_pi, if_neg (by omega)]; exact hX.2 j hj
theorem pm_none {t : Int32} {w : Int32 × Option Int32 × Option (Nat × Int32)} (hX : mcM b M R S) (hn : t = 0 → xm_gi M (b + 154) 36 = nx) (ew : w = (t, none, none)) (h : PfM b c p Q M a R S nx w) : xm_st b c p M → Q (some (.int t)) M := fun hS => by
  subst ew
  exact h _ smI.rf hX hn hS
theorem s11_isInt {w : Int64} (hS : xm_st b c p M) (h : xm_st b c p M → Q (some (.int (xz (decide (-2147483648 ≤ w.toInt ∧ w.toInt ≤ 2147483647))))) M) : xm_C l E y11_isInt rm11_isInt [.long w] M Q := by
  have e1 : (w < (-2147483648 : Int64)) ↔ w.toInt < -2147483648 := by rw [Int64.lt_iff_toInt_lt]; rfl
  have e2 : ((2147483647 : Int64) < w) ↔ 2147483647 < w.toInt := by rw [Int64.lt_iff_toInt_lt]; rfl
  refine xm_enter (by decide) (Nat.le_of_ble_eq_true rfl) (t11_isInt_0 M w hS ⟨fun g => ?_, fun g => ⟨fun g2 => ?_, fun g2 => ?_⟩⟩)
  · rw [decide_eq_false (by have := e1.mp g; omega)] at h; exact h
  · rw [decide_eq_false (by have := e2.mp g2; omega)] at h; exact h
  · rw [decide_eq_true ⟨Int.not_lt.mp (fun q => g (e1.mpr q)), Int.not_lt.mp (fun q => g2 (e2.mpr q))⟩] at h; exact h
theorem s11_sizeOf {o : Int32} (hS : xm_st b c p M) (h : xm_st b c p M → Q (some (.int (Int32.ofNat (szO o)))) M) : xm_C l E y11_sizeOf rm11_sizeOf [.int o] M Q := by
  refine xm_enter (by decide) (Nat.le_of_ble_eq_true rfl) (t11_sizeOf_0 M o hS ⟨fun g => ⟨fun g2 => ?_, fun g2 => ?_⟩, fun g => ?_⟩)
  · rw [show szO o = 4 by unfold szO; rw [if_neg g, if_neg g2]] at h; exact h
  · rw [show szO o = 2 by unfold szO; rw [if_neg g, if_pos g2]] at h; exact h
  · rw [show szO o = 1 by unfold szO; rw [if_pos g]] at h; exact h
theorem one96 {i : Nat} {w : Int64} {u : Int32 × Option Int32 × Option (Nat × Int32)} (hi : i < 48) (ha : a < 8) (ea : xm_gi M (b + 156) i = Int32.ofNat a) (hX : mcM b M R S) (hn : xm_gi M (b + 154) 36 = nx) (eu : u = bec w) (hS : xm_st b c p M) (h : PfM b c p Q M a R S nx u) : xm_X l E y11_one rm11_one Q 96 [(0, .ref (b + 154)), (1, .int (Int32.ofNat i)), (6, .long w)] [] 0 0 M := by
  have ii : vp_in (Int32.ofNat i) 48 := xn_in hi (by decide)
  refine t11_one_96 M _ w hS (s11_isInt hS (fun hS => ⟨_, rfl, hS, fun g => ⟨ii, ?_⟩, fun g hS => ?_⟩))
  · have g := of_decide_eq_true (xz_ne g)
    rw [xn_c (by omega), ea, xn_c (by omega)]
    refine ⟨xn_in ha (by decide), fun M5 e5 hS => ?_⟩
    rw [e5] at hS ⊢
    exact pm_reg hX hn (by rw [eu, bec, if_pos ((zl_fit w).mpr g)]) h hS
  · have g := of_decide_eq_false (xz_0.mp g)
    exact pm_none hX (fun q => absurd q (by decide)) (by rw [eu, bec, if_neg (fun q => g ((zl_fit w).mp q))]) h hS
theorem one178 {i s : Nat} {w : Int64} {o : Int32} {u : Int32 × Option Int32 × Option (Nat × Int32)} (hi : i < 48) (ha : a < 8) (ea : xm_gi M (b + 156) i = Int32.ofNat a) (hs : s + szO o ≤ 1024) (ew : Int64.toInt32 w = Int32.ofNat s) (hX : mcM b M R S) (hn : xm_gi M (b + 154) 36 = nx) (hS : xm_st b c p M) (h : PfM b c p Q M a R S nx u) : ∀ (k j : Nat) (v : Int32), j + k = szO o → u = (0, some (ldf (xm_gi M (b + 161)) s k j v), none) → xm_X l E y11_one rm11_one Q 178 [(0, .ref (b + 154)), (1, .int (Int32.ofNat i)), (5, .int o), (6, .long w), (8, .int v), (9, .int (Int32.ofNat j))] [] 0 0 M := by
  have ii : vp_in (Int32.ofNat i) 48 := xn_in hi (by decide)
  have hz : szO o ≤ 4 := by unfold szO; split <;> (try split) <;> omega
  intro k
  induction k with
  | zero =>
    intro j v hj eu
    refine t11_one_178 M _ _ _ _ _ hS (s11_sizeOf hS (fun hS => ⟨_, rfl, hS, fun _ => ⟨ii, ?_⟩, fun g => absurd ((xn_le (a := szO o) (b := j) (by omega) (by omega)).mpr (by omega)) g⟩))
    rw [xn_c (by omega), ea, xn_c (by omega)]
    refine ⟨xn_in ha (by decide), fun M5 e5 hS => ?_⟩
    rw [e5] at hS ⊢
    exact pm_reg hX hn eu h hS
  | succ k ih =>
    intro j v hj eu
    refine t11_one_178 M _ _ _ _ _ hS (s11_sizeOf hS (fun hS => ⟨_, rfl, hS, fun g => absurd ((xn_le (a := szO o) (b := j) (by omega) (by omega)).mp g) (by omega), fun _ => ?_⟩))
    have es : Int32.ofNat s + Int32.ofNat j = Int32.ofNat (s + j) := (Int32.ofNat_add s j).symm
    rw [ew, es, xn_c (by omega), xn_s]
    exact ⟨xn_in (by omega) (by decide), fun hS => ih (j + 1) _ (by omega) eu⟩
theorem one376 {i : Nat} {t : Bool} {w : Int32 × Option Int32 × Option (Nat × Int32)} (hi : i < 48) (hX : mcM b M R S) (hn : xm_gi M (b + 154) 36 = Int32.ofNat (i + 1)) (en : nx = if t then xm_gi M (b + 159) i else Int32.ofNat (i + 1)) (ew : w = (0, none, none)) (hS : xm_st b c p M) (h : PfM b c p Q M a R S nx w) : xm_X l E y11_one rm11_one Q 376 [(0, .ref (b + 154)), (1, .int (Int32.ofNat i)), (6, .int (xz t))] [] 0 0 M := by
  refine t11_one_376 M _ _ hS ⟨fun g => ?_, fun g => ⟨xn_in hi (by decide), fun M2 e2 hS => ?_⟩⟩
  · rw [xz_0.mp g] at en
    exact pm_none hX (fun _ => by rw [hn, en]; rfl) ew h
  · rw [xz_ne g] at en
    subst ew
    rw [xn_c (by omega)] at e2
    rw [e2] at hS ⊢
    refine h _ (smI.rf.pi (Or.inl ⟨rfl, rfl⟩)) ⟨fun j hj => ?_, fun j hj => ?_⟩ (fun _ => by rw [gi_pi, if_pos ⟨rfl, rfl⟩, en]; rfl) hS
    · rw [gi_pi, if_neg (by omega)]; exact hX.1 j hj
    · rw [gi_pi, if_neg (by omega)]; exact hX.2 j hj
theorem s11_one {i q len : Nat} {P : Nat → Int32} (hi : i < 48) (ho : ∃ o : Nat, o ≤ 16 ∧ xm_gi M (b + 155) i = Int32.ofNat o) (h0 : ¬ xm_gi M (b + 155) i = 0) (ha : a < 8) (hq : q < 8) (ea : xm_gi M (b + 156) i = Int32.ofNat a) (eq : xm_gi M (b + 157) i = Int32.ofNat q) (hl : len ≤ 1024) (hc : xm_gi M (b + 154) 11 = Int32.ofNat len) (hP : ∀ j, j < len → xm_gi M (b + 161) j = P j) (hX : mcM b M R S) (hS : xm_st b c p M) (h : PfM b c p Q M a R S (if mJ (xm_gi M (b + 155) i) (xm_gi M (b + 158) i) a q R then xm_gi M (b + 159) i else Int32.ofNat (i + 1)) (mW (xm_gi M (b + 155) i) (xm_gi M (b + 158) i) a q R S P len)) : xm_C l E y11_one rm11_one [.ref (b + 154), .int (Int32.ofNat i)] M Q := by
  have ii : vp_in (Int32.ofNat i) 48 := xn_in hi (by decide)
  have ia : vp_in (Int32.ofNat a) 8 := xn_in ha (by decide)
  have iq : vp_in (Int32.ofNat q) 8 := xn_in hq (by decide)
  have ci : (Int32.ofNat i).toNatClampNeg = i := xn_c (by omega)
  have ca : (Int32.ofNat a).toNatClampNeg = a := xn_c (by omega)
  have cq : (Int32.ofNat q).toNatClampNeg = q := xn_c (by omega)
  refine xm_enter (by decide) (Nat.le_of_ble_eq_true rfl) (t11_one_0 M _ hS ?_)
  intro M1 f1
  have s1 : ∀ x j, ¬ (x = b + 154 ∧ j = 36) → xm_gi M1 x j = xm_gi M x j := fun x j hx => by rw [f1, gi_pi, if_neg hx]
  have n1 : xm_gi M1 (b + 154) 36 = Int32.ofNat (i + 1) := by rw [f1, gi_pi, if_pos ⟨rfl, rfl⟩, inc_ofNat]
  have l1 : ∀ x j, xm_gl M1 x j = xm_gl M x j := fun x j => by rw [f1]; rfl
  rw [ci, s1 _ _ (by omega), s1 _ _ (by omega), ea, eq, ca, cq, s1 _ _ (by omega), s1 _ _ (by omega), s1 _ _ (by omega), s1 _ _ (by omega), hX.1 a ha, hX.1 q hq]
  refine ⟨ii, ia, ii, iq, ii, ii, fun hS => ?_⟩
  have hX1 : mcM b M1 R S := ⟨fun j hj => by rw [s1 _ _ (by omega)]; exact hX.1 j hj, fun j hj => by rw [s1 _ _ (by omega)]; exact hX.2 j hj⟩
  have ea1 : xm_gi M1 (b + 156) i = Int32.ofNat a := by rw [s1 _ _ (by omega)]; exact ea
  have et1 : xm_gi M1 (b + 159) i = xm_gi M (b + 159) i := s1 _ _ (by omega)
  have hc1 : xm_gi M1 (b + 154) 11 = Int32.ofNat len := by rw [s1 _ _ (by omega)]; exact hc
  have hP1 : ∀ j, j < len → xm_gi M1 (b + 161) j = P j := fun j hj => by rw [s1 _ _ (by omega)]; exact hP j hj
  have h1 : PfM b c p Q M1 a R S (if mJ (xm_gi M (b + 155) i) (xm_gi M (b + 158) i) a q R then xm_gi M1 (b + 159) i else Int32.ofNat (i + 1)) (mW (xm_gi M (b + 155) i) (xm_gi M (b + 158) i) a q R S P len) := fun M2 s2 m2 x2 hS => h M2 ⟨fun x j hx => by rw [s2.1 x j hx, s1 x j (by omega)], fun x j => by rw [s2.2, l1]⟩ m2 (fun e => by rw [x2 e, et1]) hS
  obtain ⟨o, o1, o2⟩ := ho
  generalize hk : xm_gi M (b + 158) i = k at h1
  rw [o2] at h0 h1 ⊢
  clear h o2 f1 s1 l1
  have ho' : o = 1 ∨ o = 2 ∨ o = 3 ∨ o = 4 ∨ o = 5 ∨ o = 6 ∨ o = 7 ∨ o = 8 ∨ o = 9 ∨ o = 10 ∨ o = 11 ∨ o = 12 ∨ o = 13 ∨ o = 14 ∨ o = 15 ∨ o = 16 := by
    have : o ≠ 0 := fun q => h0 (by rw [q]; rfl)
    omega
  have hw := zl_sum (R q) k
  have r1 := i32_rng (R q)
  have r2 := i32_rng k
  have lem : ∀ o' : Int32, (o' = 8 ∨ o' = 9 ∨ o' = 10) → ∀ u, u = (if (R q).toInt + k.toInt < 0 ∨ (len : Int) < (R q).toInt + k.toInt + (szO o' : Nat) then ((1 : Int32), (none : Option Int32), (none : Option (Nat × Int32))) else (0, some (ldf P ((R q).toInt + k.toInt).toNat (szO o') 0 0), none)) → PfM b c p Q M1 a R S (Int32.ofNat (i + 1)) u → (((R q).toInt64 + k.toInt64 < (0 : Int64) → xm_st b c p M1 → Q (some (.int 1)) M1) ∧ (¬ (R q).toInt64 + k.toInt64 < (0 : Int64) → xm_C l E y11_sizeOf rm11_sizeOf [.int o'] M1 (fun r M59 => ∃ r60 : Int32, r = some (.int r60) ∧ xm_st b c p M59 ∧ (((R q).toInt64 + k.toInt64 + r60.toInt64 ≤ (xm_gi M59 (b + 154) 11).toInt64 → xm_st b c p M59 → xm_X l E y11_one rm11_one Q 178 [(0, .ref (b + 154)), (1, .int (Int32.ofNat i)), (5, .int o'), (6, .long ((R q).toInt64 + k.toInt64)), (8, .int 0), (9, .int 0)] [] 0 0 M59) ∧ (¬ (R q).toInt64 + k.toInt64 + r60.toInt64 ≤ (xm_gi M59 (b + 154) 11).toInt64 → xm_st b c p M59 → Q (some (.int 1)) M59))))) := by
    intro o' ho u eu hu
    have hz : szO o' ≤ 4 := by unfold szO; split <;> (try split) <;> omega
    generalize hwd : (R q).toInt64 + k.toInt64 = w at hw ⊢
    rw [← hw] at eu
    have e0 : (w < (0 : Int64)) ↔ w.toInt < 0 := by rw [Int64.lt_iff_toInt_lt]; rfl
    have hz2 : (Int32.toInt64 (Int32.ofNat (szO o'))).toInt = (szO o' : Nat) := by rw [zl_i2l, toInt_of rfl (by omega)]
    have e1 : (w + Int32.toInt64 (Int32.ofNat (szO o')) ≤ Int32.toInt64 (Int32.ofNat len)) ↔ w.toInt + (szO o' : Nat) ≤ (len : Int) := by
      rw [Int64.le_iff_toInt_le, zl_add _ _ (by rw [hz2]; omega), hz2, zl_i2l, toInt_of rfl (by omega)]
    refine ⟨fun g => pm_none hX1 (fun q => absurd q (by decide)) (by rw [eu, if_pos (Or.inl (e0.mp g))]) hu, fun g => s11_sizeOf hS (fun hS => ⟨_, rfl, hS, ?_⟩)⟩
    rw [hc1]
    refine ⟨fun g2 hS => ?_, fun g2 => pm_none hX1 (fun q => absurd q (by decide)) (by rw [eu, if_pos (Or.inr (by have := Int.not_le.mp (fun q => g2 (e1.mpr q)); omega))]) hu⟩
    have g0 : 0 ≤ w.toInt := Int.not_lt.mp (fun q => g (e0.mpr q))
    have g2 := e1.mp g2
    rw [if_neg (by omega)] at eu
    refine one178 (s := w.toInt.toNat) (u := u) hi ha ea1 (by omega) (zl_l2n (by omega)) hX1 n1 hS hu (szO o') 0 0 (by omega) ?_
    rw [eu]
    have lc : ∀ (s k j : Nat) (v : Int32), s + j + k ≤ len → ldf P s k j v = ldf (xm_gi M1 (b + 161)) s k j v := by
      intro s k
      induction k with
      | zero => intro j v _; rfl
      | succ k ih => intro j v hj; unfold ldf; rw [hP1 _ (by omega)]; exact ih (j + 1) _ (by omega)
    rw [lc _ _ _ _ (by omega)]
  have scr : ((R q).toInt64 + k.toInt64 < (0 : Int64) ↔ (R q).toInt + k.toInt < 0) ∧ ((R q).toInt64 + k.toInt64 ≤ (31 : Int64) ↔ (R q).toInt + k.toInt ≤ 31) := by
    refine ⟨by rw [Int64.lt_iff_toInt_lt, hw]; rfl, by rw [Int64.le_iff_toInt_le, hw]; rfl⟩
  refine t11_one_47 M1 _ _ _ _ _ hS ?_
  rcases ho' with rfl | rfl | rfl | rfl | rfl | rfl | rfl | rfl | rfl | rfl | rfl | rfl | rfl | rfl | rfl | rfl
  all_goals simp (config := { decide := true }) only [forall_const, true_implies, false_implies, not_true_eq_false, not_false_eq_true, and_true, true_and, forall_eq, and_self, implies_true, ci, ea1, ca]
  · rw [show mJ (Int32.ofNat 1) k a q R = false from rfl, if_neg (by decide)] at h1
    exact ⟨ii, ia, pm_reg hX1 n1 (by unfold mW; rw [if_pos (by decide)]) h1⟩
  · rw [show mJ (Int32.ofNat 2) k a q R = false from rfl, if_neg (by decide)] at h1
    exact ⟨ii, ia, pm_reg hX1 n1 (by unfold mW; rw [if_neg (by decide), if_pos (by decide)]) h1⟩
  · rw [show mJ (Int32.ofNat 3) k a q R = false from rfl, if_neg (by decide)] at h1
    exact fun hS => one96 hi ha ea1 hX1 n1 (by unfold mW; rw [if_neg (by decide), if_neg (by decide), if_pos (by decide)]) hS h1
  · rw [show mJ (Int32.ofNat 4) k a q R = false from rfl, if_neg (by decide)] at h1
    exact fun hS => one96 hi ha ea1 hX1 n1 (by unfold mW; rw [if_neg (by decide), if_neg (by decide), if_neg (by decide), if_pos (by decide)]) hS h1
  · rw [show mJ (Int32.ofNat 5) k a q R = false from rfl, if_neg (by decide)] at h1
    exact fun hS => one96 hi ha ea1 hX1 n1 (by unfold mW; rw [if_neg (by decide), if_neg (by decide), if_neg (by decide), if_neg (by decide), if_pos (by decide)]) hS h1
  · rw [show mJ (Int32.ofNat 6) k a q R = false from rfl, if_neg (by decide)] at h1
    exact ⟨ii, ia, pm_reg hX1 n1 (by unfold mW; rw [if_neg (by decide), if_neg (by decide), if_neg (by decide), if_neg (by decide), if_neg (by decide), if_pos (by decide)]) h1⟩
  · rw [show mJ (Int32.ofNat 7) k a q R = false from rfl, if_neg (by decide)] at h1
    exact ⟨ii, ia, pm_reg hX1 n1 (by unfold mW; rw [if_neg (by decide), if_neg (by decide), if_neg (by decide), if_neg (by decide), if_neg (by decide), if_neg (by decide), if_pos (by decide)]) h1⟩
  · rw [show mJ (Int32.ofNat 8) k a q R = false from rfl, if_neg (by decide)] at h1
    exact lem (Int32.ofNat 8) (by decide) _ (by unfold mW; rw [if_neg (by decide), if_neg (by decide), if_neg (by decide), if_neg (by decide), if_neg (by decide), if_neg (by decide), if_neg (by decide), if_pos (by decide)]) h1
  · rw [show mJ (Int32.ofNat 9) k a q R = false from rfl, if_neg (by decide)] at h1
    exact lem (Int32.ofNat 9) (by decide) _ (by unfold mW; rw [if_neg (by decide), if_neg (by decide), if_neg (by decide), if_neg (by decide), if_neg (by decide), if_neg (by decide), if_neg (by decide), if_pos (by decide)]) h1
  · rw [show mJ (Int32.ofNat 10) k a q R = false from rfl, if_neg (by decide)] at h1
    exact lem (Int32.ofNat 10) (by decide) _ (by unfold mW; rw [if_neg (by decide), if_neg (by decide), if_neg (by decide), if_neg (by decide), if_neg (by decide), if_neg (by decide), if_neg (by decide), if_pos (by decide)]) h1
  · rw [show mJ (Int32.ofNat 11) k a q R = false from rfl, if_neg (by decide)] at h1
    have ew : mW (Int32.ofNat 11) k a q R S P len = (if (R q).toInt + k.toInt < 0 ∨ 31 < (R q).toInt + k.toInt then (2, none, none) else (0, some (S ((R q).toInt + k.toInt).toNat), none)) := by unfold mW; rw [if_neg (by decide), if_neg (by decide), if_neg (by decide), if_neg (by decide), if_neg (by decide), if_neg (by decide), if_neg (by decide), if_neg (by decide), if_pos (by decide)]
    refine ⟨fun g => pm_none hX1 (fun q => absurd q (by decide)) (by rw [ew, if_pos (Or.inl (scr.1.mp g))]) h1, fun g => ⟨fun g2 => ?_, fun g2 => pm_none hX1 (fun q => absurd q (by decide)) (by rw [ew, if_pos (Or.inr (Int.not_le.mp (fun q => g2 (scr.2.mpr q))))]) h1⟩⟩
    have g0 := Int.not_lt.mp (fun q => g (scr.1.mpr q))
    have g1 := scr.2.mp g2
    rw [if_neg (by omega)] at ew
    rw [zl_l2n (w := (R q).toInt64 + k.toInt64) (by rw [hw]; omega), hw, xn_c (by omega)]
    exact ⟨ii, xn_in (by omega) (by decide), ia, pm_reg hX1 n1 (by rw [ew, hX1.2 _ (by omega)]) h1⟩
  · rw [show mJ (Int32.ofNat 12) k a q R = false from rfl, if_neg (by decide)] at h1
    have ew : mW (Int32.ofNat 12) k a q R S P len = (if (R q).toInt + k.toInt < 0 ∨ 31 < (R q).toInt + k.toInt then (2, none, none) else (0, none, some (((R q).toInt + k.toInt).toNat, R a &&& 255))) := by unfold mW; rw [if_neg (by decide), if_neg (by decide), if_neg (by decide), if_neg (by decide), if_neg (by decide), if_neg (by decide), if_neg (by decide), if_neg (by decide), if_neg (by decide), if_pos (by decide)]
    refine ⟨fun g => pm_none hX1 (fun q => absurd q (by decide)) (by rw [ew, if_pos (Or.inl (scr.1.mp g))]) h1, fun g => ⟨fun g2 => ?_, fun g2 => pm_none hX1 (fun q => absurd q (by decide)) (by rw [ew, if_pos (Or.inr (Int.not_le.mp (fun q => g2 (scr.2.mpr q))))]) h1⟩⟩
    have g0 := Int.not_lt.mp (fun q => g (scr.1.mpr q))
    have g1 := scr.2.mp g2
    rw [if_neg (by omega)] at ew
    rw [zl_l2n (w := (R q).toInt64 + k.toInt64) (by rw [hw]; omega), hw, xn_c (by omega)]
    refine ⟨xn_in (by omega) (by decide), fun hS => ?_⟩
    rw [ew] at h1
    refine h1 _ (smI.rf.pi (Or.inr (Or.inr rfl))) ⟨fun j hj => ?_, fun j hj => ?_⟩ (fun _ => by rw [gi_pi, if_neg (by omega)]; exact n1) hS
    · rw [gi_pi, if_neg (by omega)]; exact hX1.1 j hj
    · show (if b + 177 = b + 177 ∧ j = _ then _ else xm_gi M1 (b + 177) j) = if j = _ then _ else S j
      by_cases e : j = ((R q).toInt + k.toInt).toNat
      · rw [if_pos ⟨rfl, e⟩, if_pos e]
      · rw [if_neg (fun q => e q.2), if_neg e]; exact hX1.2 j hj
  · have ew : mW (Int32.ofNat 13) k a q R S P len = (0, none, none) := by unfold mW; rw [if_neg (by decide), if_neg (by decide), if_neg (by decide), if_neg (by decide), if_neg (by decide), if_neg (by decide), if_neg (by decide), if_neg (by decide), if_neg (by decide), if_neg (by decide)]
    exact fun hS => one376 (t := true) hi hX1 n1 (by rw [show mJ (Int32.ofNat 13) k a q R = true from rfl]) ew hS h1
  · have ew : mW (Int32.ofNat 14) k a q R S P len = (0, none, none) := by unfold mW; rw [if_neg (by decide), if_neg (by decide), if_neg (by decide), if_neg (by decide), if_neg (by decide), if_neg (by decide), if_neg (by decide), if_neg (by decide), if_neg (by decide), if_neg (by decide)]
    exact And.intro
      (fun g hS => one376 (t := true) hi hX1 n1 (by rw [show mJ (Int32.ofNat 14) k a q R = true by unfold mJ; rw [decide_eq_true g]; rfl]) ew hS h1)
      (fun g hS => one376 (t := false) hi hX1 n1 (by rw [show mJ (Int32.ofNat 14) k a q R = false by unfold mJ; rw [decide_eq_false g]; rfl]) ew hS h1)
  · have ew : mW (Int32.ofNat 15) k a q R S P len = (0, none, none) := by unfold mW; rw [if_neg (by decide), if_neg (by decide), if_neg (by decide), if_neg (by decide), if_neg (by decide), if_neg (by decide), if_neg (by decide), if_neg (by decide), if_neg (by decide), if_neg (by decide)]
    exact And.intro
      (fun g hS => one376 (t := true) hi hX1 n1 (by rw [show mJ (Int32.ofNat 15) k a q R = true by unfold mJ; rw [decide_eq_true g]; rfl]) ew hS h1)
      (fun g hS => one376 (t := false) hi hX1 n1 (by rw [show mJ (Int32.ofNat 15) k a q R = false by unfold mJ; rw [decide_eq_false g]; rfl]) ew hS h1)
  · have ew : mW (Int32.ofNat 16) k a q R S P len = (0, none, none) := by unfold mW; rw [if_neg (by decide), if_neg (by decide), if_neg (by decide), if_neg (by decide), if_neg (by decide), if_neg (by decide), if_neg (by decide), if_neg (by decide), if_neg (by decide), if_neg (by decide)]
    exact And.intro
      (fun g hS => one376 (t := false) hi hX1 n1 (by rw [show mJ (Int32.ofNat 16) k a q R = false by unfold mJ; rw [decide_eq_false g]; rfl]) ew hS h1)
      (fun g hS => one376 (t := true) hi hX1 n1 (by rw [show mJ (Int32.ofNat 16) k a q R = true by unfold mJ; rw [decide_eq_true g]; rfl]) ew hS h1)
end ON
