section PF
variable {l : Launch} {E : xm_E} {b : Nat} {c p : Bool} {Q : Option Value → xm_M → Prop} {M : xm_M}
theorem s4_has {w : Int64} {z len : Nat} (hl : len ≤ 1024) (hz : z ≤ 4) (hc : xm_gi M (b + 53) 1 = Int32.ofNat len) (hw : -4294967296 ≤ w.toInt ∧ w.toInt ≤ 4294967296) (hS : xm_st b c p M) (h : xm_st b c p M → Q (some (.int (xz (!decide (w.toInt < 0 ∨ (len : Int) < w.toInt + z))))) M) : xm_C l E y4_has rm4_has [.ref (b + 53), .long w, .int (Int32.ofNat z)] M Q := by
  have e0 : (w < (0 : Int64)) ↔ w.toInt < 0 := by rw [Int64.lt_iff_toInt_lt]; rfl
  have e1 : (Int32.toInt64 (Int32.ofNat len) < w + Int32.toInt64 (Int32.ofNat z)) ↔ (len : Int) < w.toInt + z := by
    have hz2 : (Int32.toInt64 (Int32.ofNat z)).toInt = z := by rw [zl_i2l, toInt_of rfl (by omega)]
    rw [Int64.lt_iff_toInt_lt, zl_add _ _ (by rw [hz2]; omega), hz2, zl_i2l, toInt_of rfl (by omega)]
  refine xm_enter (by decide) (Nat.le_of_ble_eq_true rfl) (t4_has_0 M w _ hS ⟨fun g => ?_, fun g => ⟨fun g2 => ?_, fun g2 => ?_⟩⟩)
  · rw [show (!decide (w.toInt < 0 ∨ (len : Int) < w.toInt + z)) = false by simp [e0.mp g]] at h; exact h
  · rw [hc] at g2
    rw [show (!decide (w.toInt < 0 ∨ (len : Int) < w.toInt + z)) = false by simp [e1.mp g2]] at h; exact h
  · rw [hc] at g2
    rw [show (!decide (w.toInt < 0 ∨ (len : Int) < w.toInt + z)) = true by
      have a1 : ¬ w.toInt < 0 := fun q => g (e0.mpr q)
      have a2 : ¬ (len : Int) < w.toInt + z := fun q => g2 (e1.mpr q)
      simp only [a1, a2, or_self, decide_false, Bool.not_false]] at h; exact h
theorem lp4_load {s n : Nat} (hs : s + n ≤ 1024) (hS : xm_st b c p M) : ∀ (k i : Nat) (v : Int32), i + k = n → (xm_st b c p M → Q (some (.int (ldf (xm_gi M (b + 54)) s k i v))) M) → xm_X l E y4_load rm4_load Q 5 [(0, .ref (b + 53)), (1, .int (Int32.ofNat s)), (2, .int (Int32.ofNat n)), (3, .int v), (4, .int (Int32.ofNat i))] [] 0 0 M := by
  intro k
  induction k with
  | zero =>
    intro i v hi h
    have : i = n := by omega
    subst this
    exact t4_load_5 M _ _ _ _ hS ⟨fun _ => h, fun g => absurd (Int32.le_refl _) g⟩
  | succ k ih =>
    intro i v hi h
    have ea : Int32.ofNat s + Int32.ofNat i = Int32.ofNat (s + i) := (Int32.ofNat_add s i).symm
    refine t4_load_5 M _ _ _ _ hS ⟨fun g => absurd ((xn_le (a := n) (b := i) (by omega) (by omega)).mp g) (by omega), fun _ => ?_⟩
    rw [ea, xn_c (by omega), xn_s]
    exact ⟨xn_in (by omega) (by decide), fun hS => ih (i + 1) _ (by omega) h⟩
theorem s4_load {s n : Nat} (hs : s + n ≤ 1024) (hS : xm_st b c p M) (h : xm_st b c p M → Q (some (.int (ldf (xm_gi M (b + 54)) s n 0 0))) M) : xm_C l E y4_load rm4_load [.ref (b + 53), .int (Int32.ofNat s), .int (Int32.ofNat n)] M Q :=
  xm_enter (by decide) (Nat.le_of_ble_eq_true rfl) (t4_load_0 M _ _ hS (fun hS => lp4_load hs hS n 0 0 (by omega) h))
theorem s2_loadSize {a : Nat} (ha : xS b a = some (.inr 2)) (ho : xm_gi M a 0 = 8 ∨ xm_gi M a 0 = 9 ∨ xm_gi M a 0 = 10) (hS : xm_st b c p M) (h : xm_st b c p M → Q (some (.int (Int32.ofNat (szO (xm_gi M a 0))))) M) : xm_C l E y2_loadSize rm2_loadSize [.ref a] M Q := by
  refine xm_enter (by decide) (Nat.le_of_ble_eq_true rfl) (t2_loadSize_0 M a ha hS ⟨fun g => ⟨fun g2 => ?_, fun g2 => ?_⟩, fun g => ?_⟩)
  · have e : xm_gi M a 0 = 8 := ho.resolve_right (fun q => q.elim g2 g)
    rw [e] at h; exact h
  · rw [g2] at h; exact h
  · rw [g] at h; exact h
/-- what holds behind one instruction -/
def PfX (b : Nat) (c p : Bool) (Q : Option Value → xm_M → Prop) (M : xm_M) (a : Nat) (R S : Nat → Int32) (w : Int32 × Option Int32 × Option (Nat × Int32)) : Prop := ∀ M1, smI (fun x _ => x = b + 152 ∨ x = b + 153) M M1 → mcX b M1 (mRg a R w.2.1) (mSc S w.2.2) → xm_st b c p M1 → Q (some (.int w.1)) M1
section
variable {a : Nat} {R S : Nat → Int32} (hX : mcX b M R S)
theorem pf_reg {v : Int32} {w : Int32 × Option Int32 × Option (Nat × Int32)} (hX : mcX b M R S) (ew : w = (0, some v, none)) (h : PfX b c p Q M a R S w) : xm_st b c p (xm_pi M (b + 152) a v) → Q (some (.int 0)) (xm_pi M (b + 152) a v) := fun hS => by
  subst ew
  refine h _ (smI.rf.pi (Or.inl rfl)) ⟨fun j hj => ?_, fun j hj => ?_⟩ hS
  · show (if b + 152 = b + 152 ∧ j = a then v else xm_gi M (b + 152) j) = if j = a then v else R j
    by_cases e : j = a
    · rw [if_pos ⟨rfl, e⟩, if_pos e]
    · rw [if_neg (fun q => e q.2), if_neg e]; exact hX.1 j hj
  · rw [gi_pi, if_neg (by omega)]; exact hX.2 j hj
theorem pf_none {t : Int32} {w : Int32 × Option Int32 × Option (Nat × Int32)} (hX : mcX b M R S) (ew : w = (t, none, none)) (h : PfX b c p Q M a R S w) : xm_st b c p M → Q (some (.int t)) M := fun hS => by
  subst ew
  exact h _ smI.rf hX hS
theorem s10_become {w : Int64} {u : Int32 × Option Int32 × Option (Nat × Int32)} (ha : a < 8) (hX : mcX b M R S) (eu : u = bec w) (hS : xm_st b c p M) (h : PfX b c p Q M a R S u) : xm_C l E y10_become rm10_become [.ref (b + 151), .int (Int32.ofNat a), .long w] M (fun r M5 => ∃ r6 : Int32, r = some (.int r6) ∧ xm_st b c p M5 ∧ (xm_st b c p M5 → Q (some (.int r6)) M5)) := by
  refine xm_enter (by decide) (Nat.le_of_ble_eq_true rfl) (t10_become_0 M _ w hS ⟨fun g => ⟨xn_in ha (by decide), fun hS => ?_⟩, fun g hS => ?_⟩)
  · rw [xn_c (by omega)] at hS ⊢
    exact ⟨_, rfl, hS, pf_reg hX (by rw [eu, bec, if_pos g]) h⟩
  · exact ⟨_, rfl, hS, pf_none hX (by rw [eu, bec, if_neg g]) h⟩
theorem s10_perform {a1 q len : Nat} (ha1 : xS b a1 = some (.inr 2)) (ha : a < 8) (hq : q < 8) (ea : xm_gi M a1 1 = Int32.ofNat a) (eq : xm_gi M a1 2 = Int32.ofNat q) (hl : len ≤ 1024) (hc : xm_gi M (b + 53) 1 = Int32.ofNat len) (hX : mcX b M R S) (hS : xm_st b c p M) (h : PfX b c p Q M a R S (mW (xm_gi M a1 0) (xm_gi M a1 3) a q R S (xm_gi M (b + 54)) len)) : xm_C l E y10_perform rm10_perform [.ref (b + 151), .ref a1, .ref (b + 53)] M Q := by
  have ia : vp_in (Int32.ofNat a) 8 := xn_in ha (by decide)
  have iq : vp_in (Int32.ofNat q) 8 := xn_in hq (by decide)
  have ca : (Int32.ofNat a).toNatClampNeg = a := xn_c (by omega)
  have cq : (Int32.ofNat q).toNatClampNeg = q := xn_c (by omega)
  refine xm_enter (by decide) (Nat.le_of_ble_eq_true rfl) (t10_perform_0 M a1 ha1 hS ?_)
  rw [ea, eq, ca, cq, hX.1 a ha, hX.1 q hq]
  refine ⟨fun g => ⟨ia, pf_reg hX (by simp [mW, g]) h⟩, fun g => ⟨iq, ia, pf_reg hX (by simp [mW, g]) h⟩, fun g => ⟨ia, s10_become ha hX (by simp [mW, g]) hS h⟩, fun g => ⟨ia, iq, s10_become ha hX (by simp [mW, g]) hS h⟩, fun g => ⟨ia, iq, s10_become ha hX (by simp [mW, g]) hS h⟩, fun g => ⟨ia, ia, pf_reg hX (by simp [mW, g]) h⟩, fun g => ⟨ia, ia, pf_reg hX (by simp [mW, g]) h⟩, fun g => ?_⟩
  obtain ⟨g1, g2, g3, g4, g5, g6, g7⟩ := g
  have ew : mW (xm_gi M a1 0) (xm_gi M a1 3) a q R S (xm_gi M (b + 54)) len = (if xm_gi M a1 0 = 8 ∨ xm_gi M a1 0 = 9 ∨ xm_gi M a1 0 = 10 then (if (R q).toInt + (xm_gi M a1 3).toInt < 0 ∨ (len : Int) < (R q).toInt + (xm_gi M a1 3).toInt + (szO (xm_gi M a1 0) : Nat) then (1, none, none) else (0, some (ldf (xm_gi M (b + 54)) ((R q).toInt + (xm_gi M a1 3).toInt).toNat (szO (xm_gi M a1 0)) 0 0), none))
      else if xm_gi M a1 0 = 11 then (if (R q).toInt + (xm_gi M a1 3).toInt < 0 ∨ 31 < (R q).toInt + (xm_gi M a1 3).toInt then (2, none, none) else (0, some (S ((R q).toInt + (xm_gi M a1 3).toInt).toNat), none))
      else if xm_gi M a1 0 = 12 then (if (R q).toInt + (xm_gi M a1 3).toInt < 0 ∨ 31 < (R q).toInt + (xm_gi M a1 3).toInt then (2, none, none) else (0, none, some (((R q).toInt + (xm_gi M a1 3).toInt).toNat, R a &&& 255)))
      else (0, none, none)) := by
    unfold mW
    rw [if_neg g1, if_neg g2, if_neg g3, if_neg g4, if_neg g5, if_neg g6, if_neg g7]
  rw [ew] at h
  clear ew
  have hw := zl_sum (R q) (xm_gi M a1 3)
  have r1 := i32_rng (R q)
  have r2 := i32_rng (xm_gi M a1 3)
  generalize hwd : Int32.toInt64 (R q) + Int32.toInt64 (xm_gi M a1 3) = w at hw
  rw [← hw] at h
  have scr : xm_gi M a1 0 = 11 ∨ xm_gi M a1 0 = 12 → ∀ Q2 : Option Value → xm_M → Prop, PfX b c p Q2 M a R S (if xm_gi M a1 0 = 11 then (if w.toInt < 0 ∨ 31 < w.toInt then (2, none, none) else (0, some (S w.toInt.toNat), none)) else (if w.toInt < 0 ∨ 31 < w.toInt then (2, none, none) else (0, none, some (w.toInt.toNat, R a &&& 255)))) → xm_C l E y10_accessScratch rm10_accessScratch [.ref (b + 151), .ref a1, .long w] M Q2 := by
    intro ho Q2 h
    have e0 : (w < (0 : Int64)) ↔ w.toInt < 0 := by rw [Int64.lt_iff_toInt_lt]; rfl
    have e32 : (w < (32 : Int64)) ↔ w.toInt < 32 := by rw [Int64.lt_iff_toInt_lt]; rfl
    refine xm_enter (by decide) (Nat.le_of_ble_eq_true rfl) (t10_accessScratch_0 M a1 w ha1 hS ?_)
    rw [ea, ca, hX.1 a ha]
    have bad : (w.toInt < 0 ∨ 31 < w.toInt) → xm_st b c p M → Q2 (some (.int 2)) M := fun g => pf_none hX (by rw [if_pos g, if_pos g, ite_self]) h
    refine ⟨fun g => bad (Or.inl (e0.mp g)), fun g => ⟨fun g' => ?_, fun g' => bad (Or.inr (by have := Int.not_lt.mp (fun q => g' (e32.mpr q)); omega))⟩⟩
    have hr : 0 ≤ w.toInt ∧ w.toInt < 32 := ⟨Int.not_lt.mp (fun q => g (e0.mpr q)), e32.mp g'⟩
    have hn : ¬ (w.toInt < 0 ∨ 31 < w.toInt) := by omega
    rw [zl_l2n (by omega), xn_c (by omega)]
    have iw : vp_in (Int32.ofNat w.toInt.toNat) 32 := xn_in (by omega) (by decide)
    refine ⟨fun g2 => ⟨ia, iw, fun hS => ?_⟩, fun g2 => ⟨iw, ia, ?_⟩⟩
    · rw [if_neg g2, if_neg hn] at h
      refine h _ (smI.rf.pi (Or.inr rfl)) ⟨fun j hj => ?_, fun j hj => ?_⟩ hS
      · rw [gi_pi, if_neg (by omega)]; exact hX.1 j hj
      · show (if b + 153 = b + 153 ∧ j = w.toInt.toNat then _ else xm_gi M (b + 153) j) &&& 255 = if j = w.toInt.toNat then R a &&& 255 else S j
        by_cases e : j = w.toInt.toNat
        · rw [if_pos ⟨rfl, e⟩, if_pos e]; exact byte_255 _
        · rw [if_neg (fun q => e q.2), if_neg e]; exact hX.2 j hj
    · rw [if_pos g2, if_neg hn] at h
      refine pf_reg hX ?_ h
      rw [hX.2 _ (by omega)]
  have acc : (xm_gi M a1 0 = 8 ∨ xm_gi M a1 0 = 9 ∨ xm_gi M a1 0 = 10 ∨ xm_gi M a1 0 = 11 ∨ xm_gi M a1 0 = 12) → xm_C l E y10_access rm10_access [.ref (b + 151), .ref a1, .ref (b + 53)] M (fun r M21 => ∃ r22 : Int32, r = some (.int r22) ∧ xm_st b c p M21 ∧ (xm_st b c p M21 → Q (some (.int r22)) M21)) := by
    intro ho
    refine xm_enter (by decide) (Nat.le_of_ble_eq_true rfl) (t10_access_0 M a1 ha1 hS ?_)
    rw [eq, cq, hX.1 q hq, hwd]
    refine ⟨iq, xm_enter (by decide) (Nat.le_of_ble_eq_true rfl) (t2_isScratchAccess_0 M a1 ha1 hS ⟨fun g hS => ⟨true, rfl, hS, fun q => absurd q (by decide), fun _ => ?_⟩, fun g => ⟨fun g' hS => ⟨false, rfl, hS, fun _ => ?_, fun q => absurd rfl q⟩, fun g' hS => ⟨true, rfl, hS, fun q => absurd q (by decide), fun _ => ?_⟩⟩⟩)⟩
    · refine scr (Or.inl g) _ (fun M1 s1 m1 hS => ⟨_, rfl, hS, fun hS => ⟨_, rfl, hS, fun hS => ?_⟩⟩)
      rw [if_pos g] at m1 ⊢
      rw [if_neg (by rw [g]; decide), if_pos g] at h
      exact h M1 s1 m1 hS
    · have ho3 : xm_gi M a1 0 = 8 ∨ xm_gi M a1 0 = 9 ∨ xm_gi M a1 0 = 10 := by
        rcases ho with h | h | h | h | h
        · exact Or.inl h
        · exact Or.inr (Or.inl h)
        · exact Or.inr (Or.inr h)
        · exact absurd h g
        · exact absurd h g'
      rw [if_pos ho3] at h
      have hz : szO (xm_gi M a1 0) ≤ 4 := by rcases ho3 with e | e | e <;> rw [e] <;> decide
      refine s2_loadSize ha1 ho3 hS (fun hS => ⟨_, rfl, hS, s4_has hl hz hc (by omega) hS (fun hS => ⟨_, rfl, hS, fun g2 => ?_, fun g2 hS => ?_⟩)⟩)
      · have g3 := xz_ne g2
        have g4 : ¬ (w.toInt < 0 ∨ (len : Int) < w.toInt + (szO (xm_gi M a1 0) : Nat)) := by simpa using g3
        rw [if_neg g4] at h
        rw [zl_l2n (by omega)]
        refine s2_loadSize ha1 ho3 hS (fun hS => ⟨_, rfl, hS, s4_load (by omega) hS (fun hS => ⟨_, rfl, hS, by rw [ea, ca]; exact ⟨ia, fun hS => ⟨_, rfl, hS, pf_reg hX rfl h⟩⟩⟩)⟩)
      · have g3 := xz_0.mp g2
        have g4 : w.toInt < 0 ∨ (len : Int) < w.toInt + (szO (xm_gi M a1 0) : Nat) := by
          rw [Bool.not_eq_false'] at g3; exact of_decide_eq_true g3
        exact ⟨_, rfl, hS, pf_none hX (by rw [if_pos g4]) h⟩
    · refine scr (Or.inr g') _ (fun M1 s1 m1 hS => ⟨_, rfl, hS, fun hS => ⟨_, rfl, hS, fun hS => ?_⟩⟩)
      rw [if_neg g] at m1 ⊢
      rw [if_neg (by rw [g']; decide), if_neg g, if_pos g'] at h
      exact h M1 s1 m1 hS
  have k8 : (8 : Int32).toInt = 8 := by decide
  have k12 : (12 : Int32).toInt = 12 := by decide
  refine xm_enter (by decide) (Nat.le_of_ble_eq_true rfl) (t2_isAccess_0 M a1 ha1 hS ⟨fun g hS => ⟨false, rfl, hS, fun _ hS => ?_, fun q => absurd rfl q⟩, fun g => ⟨fun g' hS => ⟨false, rfl, hS, fun _ hS => ?_, fun q => absurd rfl q⟩, fun g' hS => ⟨true, rfl, hS, fun q => absurd q (by decide), fun _ => acc ?_⟩⟩⟩)
  · rw [Int32.lt_iff_toInt_lt, k8] at g
    have ne : ∀ v : Int32, 8 ≤ v.toInt → ¬ xm_gi M a1 0 = v := fun v hv e => by rw [e] at g; omega
    rw [if_neg (by rintro (e | e | e) <;> exact ne _ (by decide) e), if_neg (ne 11 (by decide)), if_neg (ne 12 (by decide))] at h
    exact pf_none hX rfl h hS
  · rw [Int32.lt_iff_toInt_lt, k12] at g'
    have ne : ∀ v : Int32, v.toInt ≤ 12 → ¬ xm_gi M a1 0 = v := fun v hv e => by rw [e] at g'; omega
    rw [if_neg (by rintro (e | e | e) <;> exact ne _ (by decide) e), if_neg (ne 11 (by decide)), if_neg (ne 12 (by decide))] at h
    exact pf_none hX rfl h hS
  · rw [Int32.lt_iff_toInt_lt, k8] at g
    rw [Int32.lt_iff_toInt_lt, k12] at g'
    have h5 : (xm_gi M a1 0).toInt = 8 ∨ (xm_gi M a1 0).toInt = 9 ∨ (xm_gi M a1 0).toInt = 10 ∨ (xm_gi M a1 0).toInt = 11 ∨ (xm_gi M a1 0).toInt = 12 := by omega
    rcases h5 with e | e | e | e | e
    · exact Or.inl (Int32.toInt_inj.mp e)
    · exact Or.inr (Or.inl (Int32.toInt_inj.mp e))
    · exact Or.inr (Or.inr (Or.inl (Int32.toInt_inj.mp e)))
    · exact Or.inr (Or.inr (Or.inr (Or.inl (Int32.toInt_inj.mp e))))
    · exact Or.inr (Or.inr (Or.inr (Or.inr (Int32.toInt_inj.mp e))))
end
theorem s10_jumps {a1 a q : Nat} {R S : Nat → Int32} (ha1 : xS b a1 = some (.inr 2)) (ha : a < 8) (hq : q < 8) (ea : xm_gi M a1 1 = Int32.ofNat a) (eq : xm_gi M a1 2 = Int32.ofNat q) (hX : mcX b M R S) (hS : xm_st b c p M) (h : xm_st b c p M → Q (some (.int (xz (mJ (xm_gi M a1 0) (xm_gi M a1 3) a q R)))) M) : xm_C l E y10_jumps rm10_jumps [.ref (b + 151), .ref a1] M Q := by
  have ia : vp_in (Int32.ofNat a) 8 := xn_in ha (by decide)
  have iq : vp_in (Int32.ofNat q) 8 := xn_in hq (by decide)
  have ca : (Int32.ofNat a).toNatClampNeg = a := xn_c (by omega)
  have cq : (Int32.ofNat q).toNatClampNeg = q := xn_c (by omega)
  refine xm_enter (by decide) (Nat.le_of_ble_eq_true rfl) (t10_jumps_0 M a1 ha1 hS ?_)
  rw [ea, eq, ca, cq, hX.1 a ha, hX.1 q hq]
  have nl : ∀ x y : Int32, y ≤ x → decide (x < y) = false := fun x y h => decide_eq_false (Int32.not_lt.mpr h)
  have nl2 : ∀ x y : Int32, ¬ y ≤ x → decide (x < y) = true := fun x y h => decide_eq_true (Int32.not_le.mp h)
  refine ⟨fun g => ?_, fun g => ⟨ia, iq, fun g2 => ?_, fun g2 => ?_⟩, fun g => ⟨ia, fun g2 => ?_, fun g2 => ?_⟩, fun g => ⟨ia, iq, fun g2 => ?_, fun g2 => ?_⟩, fun g => ?_⟩
  · rw [show mJ (xm_gi M a1 0) (xm_gi M a1 3) a q R = true by unfold mJ; rw [g]; rfl] at h; exact h
  · rw [show mJ (xm_gi M a1 0) (xm_gi M a1 3) a q R = false by unfold mJ; rw [g, nl _ _ g2]; rfl] at h; exact h
  · rw [show mJ (xm_gi M a1 0) (xm_gi M a1 3) a q R = true by unfold mJ; rw [g, nl2 _ _ g2]; rfl] at h; exact h
  · rw [show mJ (xm_gi M a1 0) (xm_gi M a1 3) a q R = false by unfold mJ; rw [g, nl _ _ g2]; rfl] at h; exact h
  · rw [show mJ (xm_gi M a1 0) (xm_gi M a1 3) a q R = true by unfold mJ; rw [g, nl2 _ _ g2]; rfl] at h; exact h
  · rw [show mJ (xm_gi M a1 0) (xm_gi M a1 3) a q R = false by unfold mJ; rw [g, decide_eq_false g2]; rfl] at h; exact h
  · rw [show mJ (xm_gi M a1 0) (xm_gi M a1 3) a q R = true by unfold mJ; rw [g, decide_eq_true g2]; rfl] at h; exact h
  · obtain ⟨a1', a2, a3, a4⟩ := g
    rw [show mJ (xm_gi M a1 0) (xm_gi M a1 3) a q R = false by unfold mJ; rw [decide_eq_false a1', decide_eq_false a2, decide_eq_false a3, decide_eq_false a4]; rfl] at h; exact h
end PF
