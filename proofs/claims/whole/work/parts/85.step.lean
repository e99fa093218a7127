def fuO (o a q k : Int32) (jump : Bool) (n : Int32) : Option StT :=
  if o = 1 then prO n (1 + a) 0 (Int32.toInt64 k) (-(Int32.toInt64 k))
  else if o = 2 then (if 1 + a = 1 + q then none else prO n (1 + a) (1 + q) 0 0)
  else if o = 5 then (if 1 + a = 1 + q then prO n (1 + a) 0 0 0 else none)
  else if o = 6 then prO n (1 + a) 0 (Int32.toInt64 k) 0
  else if o = 7 then prO n (1 + a) 0 (((1 : Int64) <<< (Int32.toInt64 ((32 : Int32) - k) &&& 63)) - 1) 0
  else if o = 8 then prO n (1 + a) 0 255 0
  else if o = 9 then prO n (1 + a) 0 65535 0
  else if o = 11 then prO n (1 + a) 0 255 0
  else if o = 14 then (if 1 + a = 1 + q then none else if n = 0 then (if jump then some (1 + a, 1 + q, -1) else some (1 + q, 1 + a, 0)) else none)
  else if o = 15 then (if n = 0 then (if jump then some (1 + a, 0, Int32.toInt64 k - 1) else some (0, 1 + a, -(Int32.toInt64 k))) else none)
  else if o = 16 then (if jump then (if 1 + a = 1 + q then none else prO n (1 + a) (1 + q) 0 0) else none)
  else none
section SP2
variable {l : Launch} {E : xm_E} {b : Nat} {c p : Bool} {Q : Option Value → xm_M → Prop} {M : xm_M} {a0 a1 a2 a3 : Nat}
theorem pf_if {o : Option StT} (h : PfS b c p Q M a0 o) : PfS b c p (fun r M1 => ∃ r2 : Bool, r = some (.int (xz r2)) ∧ xm_st b c p M1 ∧ ((xz r2 = 0 → xm_st b c p M1 → Q (some (.int 0)) M1) ∧ (¬ xz r2 = 0 → xm_st b c p M1 → Q (some (.int 1)) M1))) M a0 o := fun M1 s1 e1 hS => ⟨_, rfl, hS, fun g hS => by
    have := h M1 s1 e1 hS
    rw [xz_0.mp g] at this
    exact this, fun g hS => by
    have := h M1 s1 e1 hS
    rw [xz_ne g] at this
    exact this⟩
theorem s7_becomeSum (ha0 : xS b a0 = some (.inr 7)) (ha1 : xS b a1 = some (.inr 2)) (ha2 : xS b a2 = some (.inr 7)) (ha3 : xS b a3 = some (.inr 7)) (hS : xm_st b c p M) (h : PfS b c p Q M a0 (suO (xm_gi M a1 1) (xm_gi M a1 2) (stAt M a2) (stAt M a3))) : xm_C l E y7_becomeSum rm7_becomeSum [.ref a0, .ref a1, .ref a2, .ref a3] M Q := by
  have no : suO (xm_gi M a1 1) (xm_gi M a1 2) (stAt M a2) (stAt M a3) = none → xm_st b c p M → Q (some (.int 0)) M := fun e hS => by rw [e] at h; exact h M smS.rf (fun s e => by cases e) hS
  have e0 : suO (xm_gi M a1 1) (xm_gi M a1 2) (stAt M a2) (stAt M a3) = (if 1 + xm_gi M a1 1 = 1 + xm_gi M a1 2 then none else if xm_gi M a2 0 = 1 + xm_gi M a1 1 ∧ ¬ xm_gi M a2 1 = 1 + xm_gi M a1 2 ∧ xm_gi M a3 0 = 1 + xm_gi M a1 2 ∧ xm_gi M a3 1 = 0 then some (1 + xm_gi M a1 1, xm_gi M a2 1, xm_gl M a2 2 + xm_gl M a3 2) else if xm_gi M a2 1 = 1 + xm_gi M a1 1 ∧ ¬ xm_gi M a2 0 = 1 + xm_gi M a1 2 ∧ xm_gi M a3 0 = 0 ∧ xm_gi M a3 1 = 1 + xm_gi M a1 2 then some (xm_gi M a2 0, 1 + xm_gi M a1 1, xm_gl M a2 2 + xm_gl M a3 2) else none) := rfl
  have second : ¬ (1 : Int32) + xm_gi M a1 1 = 1 + xm_gi M a1 2 → ¬ (xm_gi M a2 0 = 1 + xm_gi M a1 1 ∧ ¬ xm_gi M a2 1 = 1 + xm_gi M a1 2 ∧ xm_gi M a3 0 = 1 + xm_gi M a1 2 ∧ xm_gi M a3 1 = 0) → ((¬ (xm_gi M a2 1) = ((1 : Int32) + (xm_gi M a1 1)) → (xm_st b c p M → Q (some (.int (0 : Int32))) M)) ∧ ((xm_gi M a2 1) = ((1 : Int32) + (xm_gi M a1 1)) → (((xm_gi M a2 0) = ((1 : Int32) + (xm_gi M a1 2)) → (xm_st b c p M → Q (some (.int (0 : Int32))) M)) ∧ (¬ (xm_gi M a2 0) = ((1 : Int32) + (xm_gi M a1 2)) → ((¬ (xm_gi M a3 0) = 0 → (xm_st b c p M → Q (some (.int (0 : Int32))) M)) ∧ ((xm_gi M a3 0) = 0 → ((¬ (xm_gi M a3 1) = ((1 : Int32) + (xm_gi M a1 2)) → (xm_st b c p M → Q (some (.int (0 : Int32))) M)) ∧ ((xm_gi M a3 1) = ((1 : Int32) + (xm_gi M a1 2)) → xm_C l E y7_become rm7_become [.ref a0, .int (xm_gi M a2 0), .int ((1 : Int32) + (xm_gi M a1 1)), .long ((xm_gl M a2 2) + (xm_gl M a3 2))] M (fun r Mz => ∃ r2 : Bool, r = some (.int (xz r2)) ∧ xm_st b c p Mz ∧ (xm_st b c p Mz → Q (some (.int (xz r2))) Mz)))))))))) := by
    intro gE gN
    refine ⟨fun g1 => no (by rw [e0, if_neg gE, if_neg gN, if_neg (fun q => g1 q.1)]), fun g1 => ⟨fun g2 => no (by rw [e0, if_neg gE, if_neg gN, if_neg (fun q => q.2.1 g2)]), fun g2 => ⟨fun g3 => no (by rw [e0, if_neg gE, if_neg gN, if_neg (fun q => g3 q.2.2.1)]), fun g3 => ⟨fun g4 => no (by rw [e0, if_neg gE, if_neg gN, if_neg (fun q => g4 q.2.2.2)]), fun g4 => s7_become ha0 hS (pf_on ?_)⟩⟩⟩⟩
    rw [e0, if_neg gE, if_neg gN, if_pos ⟨g1, g2, g3, g4⟩] at h
    exact h
  refine xm_enter (by decide) (Nat.le_of_ble_eq_true rfl) (t7_becomeSum_0 M a0 a1 a2 a3 ha0 ha1 ha2 ha3 hS ⟨fun gE => ⟨fun g1 => second gE (fun q => g1 q.1), fun g1 => ⟨fun g2 => second gE (fun q => q.2.1 g2), fun g2 => ⟨fun g3 => second gE (fun q => g3 q.2.2.1), fun g3 => ⟨fun g4 => second gE (fun q => g4 q.2.2.2), fun g4 => s7_become ha0 hS (pf_on ?_)⟩⟩⟩⟩, fun gE => no (by rw [e0, if_pos gE])⟩)
  rw [e0, if_neg gE, if_pos ⟨g1, g2, g3, g4⟩] at h
  exact h
theorem s7_becomeFurther {j : Bool} {n : Int32} (ha0 : xS b a0 = some (.inr 7)) (ha1 : xS b a1 = some (.inr 2)) (hS : xm_st b c p M) (h : PfS b c p Q M a0 (fuO (xm_gi M a1 0) (xm_gi M a1 1) (xm_gi M a1 2) (xm_gi M a1 3) j n)) : xm_C l E y7_becomeFurther rm7_becomeFurther [.ref a0, .ref a1, .int (xz j), .int n] M Q := by
  refine xm_enter (by decide) (Nat.le_of_ble_eq_true rfl) (t7_becomeFurther_0 M a0 a1 _ n ha0 ha1 hS ?_)
  generalize ho : xm_gi M a1 0 = o at h ⊢
  generalize xm_gi M a1 1 = a at h ⊢
  generalize xm_gi M a1 2 = q at h ⊢
  generalize xm_gi M a1 3 = k at h ⊢
  have no : fuO o a q k j n = none → xm_st b c p M → Q (some (.int 0)) M := fun e hS => by rw [e] at h; exact h M smS.rf (fun s e => by cases e) hS
  have ex : ∀ u, fuO o a q k j n = u → PfS b c p Q M a0 u := fun u e => e ▸ h
  refine ⟨fun g => s7_becomePair ha0 hS (pf_on (ex _ ?_)), fun g => ⟨fun g1 => no ?_, fun g1 => s7_becomePair ha0 hS (pf_if (ex _ ?_))⟩, fun g => ⟨fun g1 => no ?_, fun g1 => s7_becomePair ha0 hS (pf_if (ex _ ?_))⟩, fun g => s7_becomePair ha0 hS (pf_on (ex _ ?_)), fun g => s7_becomePair ha0 hS (pf_on (ex _ ?_)), fun g => s7_becomePair ha0 hS (pf_on (ex _ ?_)), fun g => s7_becomePair ha0 hS (pf_on (ex _ ?_)), fun g => s7_becomePair ha0 hS (pf_on (ex _ ?_)), fun g => ?_, fun g => ?_, fun g => ?_, fun g => no ?_⟩
  · unfold fuO; rw [g]; rfl
  · unfold fuO; rw [g, if_neg (by decide), if_pos rfl, if_pos g1]
  · unfold fuO; rw [g, if_neg (by decide), if_pos rfl, if_neg g1]
  · unfold fuO; rw [g, if_neg (by decide), if_neg (by decide), if_pos rfl, if_neg g1]
  · unfold fuO; rw [g, if_neg (by decide), if_neg (by decide), if_pos rfl, if_pos g1]
  · unfold fuO; rw [g]; rfl
  · unfold fuO; rw [g]; rfl
  · unfold fuO; rw [g]; rfl
  · unfold fuO; rw [g]; rfl
  · unfold fuO; rw [g]; rfl
  · have e : fuO o a q k j n = (if 1 + a = 1 + q then none else if n = 0 then (if j then some (1 + a, 1 + q, -1) else some (1 + q, 1 + a, 0)) else none) := by unfold fuO; rw [g]; rfl
    refine ⟨fun g1 => no (by rw [e, if_pos g1]), fun g1 => ⟨fun g2 => no (by rw [e, if_neg g1, if_neg g2]), fun g2 => ⟨fun g3 => ?_, fun g3 => ?_⟩⟩⟩
    · have gj := xz_0.mp g3
      subst gj
      exact s7_become ha0 hS (pf_if (ex _ (by rw [e, if_neg g1, if_pos g2]; rfl)))
    · have gj := xz_ne g3
      subst gj
      exact s7_become ha0 hS (pf_if (ex _ (by rw [e, if_neg g1, if_pos g2]; rfl)))
  · have e : fuO o a q k j n = (if n = 0 then (if j then some (1 + a, 0, Int32.toInt64 k - 1) else some (0, 1 + a, -(Int32.toInt64 k))) else none) := by unfold fuO; rw [g]; rfl
    refine ⟨fun g2 => no (by rw [e, if_neg g2]), fun g2 => ⟨fun g3 => ?_, fun g3 => ?_⟩⟩
    · have gj := xz_0.mp g3
      subst gj
      exact s7_become ha0 hS (pf_if (ex _ (by rw [e, if_pos g2]; rfl)))
    · have gj := xz_ne g3
      subst gj
      exact s7_become ha0 hS (pf_if (ex _ (by rw [e, if_pos g2]; rfl)))
  · have e : fuO o a q k j n = (if j then (if 1 + a = 1 + q then none else prO n (1 + a) (1 + q) 0 0) else none) := by unfold fuO; rw [g]; rfl
    refine ⟨fun g3 => ?_, fun g3 => ⟨fun g1 => no ?_, fun g1 => ?_⟩⟩
    · have gj := xz_0.mp g3
      subst gj
      exact no (by rw [e]; rfl)
    · have gj := xz_ne g3
      subst gj
      rw [e, if_pos rfl, if_pos g1]
    · have gj := xz_ne g3
      subst gj
      exact s7_becomePair ha0 hS (pf_if (ex _ (by rw [e, if_pos rfl, if_neg g1])))
  · obtain ⟨n1, n2, n3, n4, n5, n6, n7, n8, n9, n10, n11⟩ := g
    unfold fuO
    rw [if_neg n1, if_neg n2, if_neg n3, if_neg n4, if_neg n5, if_neg n6, if_neg n7, if_neg n8, if_neg n9, if_neg n10, if_neg n11]
end SP2
