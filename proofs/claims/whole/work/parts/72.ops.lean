/-! the calls: class first, then the reference, with the same answer, and the relation again -/
def Op (l : Launch) (E : xm_E) (b : Nat) (F : Prop → Prop) (Z : xm_Y) (R : Room) (As : List Value) (Z2 : xm_Y) (R2 : Room) (As2 : List Value) (M : xm_M) (K : Int32 → Int32 → xm_M → Prop) : Prop :=
  xm_C l E Z R As M (fun r M1 => ∃ r1 : Int32, r = some (.int r1) ∧ xm_st b false false M1 ∧ F (xm_C l E Z2 R2 As2 M1 (fun r M2 => ∃ r2 : Int32, r = some (.int r2) ∧ xm_st b false false M2 ∧ K r1 r2 M2)))
def OpZ (l : Launch) (E : xm_E) (b : Nat) (F : Prop → Prop) (Z : xm_Y) (R : Room) (As : List Value) (Z2 : xm_Y) (R2 : Room) (As2 : List Value) (M : xm_M) (K : Bool → Bool → xm_M → Prop) : Prop :=
  xm_C l E Z R As M (fun r M1 => ∃ r1 : Bool, r = some (.int (xz r1)) ∧ xm_st b false false M1 ∧ F (xm_C l E Z2 R2 As2 M1 (fun r M2 => ∃ r2 : Bool, r = some (.int (xz r2)) ∧ xm_st b false false M2 ∧ K r1 r2 M2)))
section OPS
variable {l : Launch} {E : xm_E} {b : Nat} {M : xm_M} {F : Prop → Prop} {K : Int32 → Int32 → xm_M → Prop} {KZ : Bool → Bool → xm_M → Prop}
theorem op_clear (hR : Rl b M) (hS : xm_st b false false M) (hF : ∀ P, P → F P) (hK : ∀ r M2, Rl b M2 → xm_st b false false M2 → K r r M2) : Op l E b F y0_clear rm0_clear [.ref (b + 0)] y11_clear rm11_clear [.ref (b + 154)] M K := by
  obtain ⟨rF, rT, rW, rP, rR, rD⟩ := hR
  refine xm_enter (by decide) (Nat.le_of_ble_eq_true rfl) (t0_clear_0 M hS (fun hS => ⟨_, rfl, hS, hF _ (xm_enter (by decide) (Nat.le_of_ble_eq_true rfl) (t11_clear_0 _ hS (fun hS => ⟨_, rfl, hS, ?_⟩)))⟩))
  have hs : smI (fun a k => (a = b + 1 ∧ k = 2) ∨ (a = b + 154 ∧ k = 1)) M (xm_pi (xm_pi M (b + 1) 2 0) (b + 154) 1 0) := (smI.rf.pi (Or.inl ⟨rfl, rfl⟩)).pi (Or.inr ⟨rfl, rfl⟩)
  have hF2 : RlF b (xm_pi (xm_pi M (b + 1) 2 0) (b + 154) 1 0) := by
    obtain ⟨n, m, h1, h2, h3, h4, h5, h6, h7, h8⟩ := rF
    refine ⟨0, m, by omega, h2, ?_, ?_, ?_, ?_, fun i hi => ?_, fun i hi => absurd hi (Nat.not_lt_zero i)⟩
    · rw [gi_pi, if_neg (by omega), gi_pi, if_pos ⟨rfl, rfl⟩]; rfl
    · rw [gi_pi, if_pos ⟨rfl, rfl⟩]; rfl
    · rw [hs.1 _ _ (by omega)]; exact h5
    · rw [hs.1 _ _ (by omega)]; exact h6
    · obtain ⟨a1, a2, a3, a4, a5⟩ := h7 i hi
      refine ⟨?_, ?_, ?_, ?_, ?_⟩ <;> rw [hs.1 _ _ (by omega), hs.1 _ _ (by omega)] <;> assumption
  have e : xm_gi M (b + 1) 2 = xm_gi (xm_pi M (b + 1) 2 0) (b + 154) 1 := by
    rw [gi_pi, if_neg (by omega)]
    obtain ⟨n, m, h1, h2, h3, h4, -⟩ := rF
    rw [h3, h4]
  rw [← e]
  exact hK _ _ ⟨hF2, rT.frame (fun a k h => hs.1 a k (by unfold arT at h; omega)), rW.frame (fun a k h => hs.1 a k (by unfold arW at h; omega)), rP.frame (fun a k h => hs.1 a k (by unfold arP at h; omega)), rR.frame (fun a k h => hs.1 a k (by unfold arR at h; omega)), rD.frame (fun i u _ _ => hs.2 _ _)⟩ hS
theorem op_length (hR : Rl b M) (hS : xm_st b false false M) (hF : ∀ P, P → F P) (hK : ∀ r M2, Rl b M2 → xm_st b false false M2 → K r r M2) : Op l E b F y0_length rm0_length [.ref (b + 0)] y11_length rm11_length [.ref (b + 154)] M K := by
  refine xm_enter (by decide) (Nat.le_of_ble_eq_true rfl) (t0_length_0 M hS (fun hS => ⟨_, rfl, hS, hF _ (xm_enter (by decide) (Nat.le_of_ble_eq_true rfl) (t11_length_0 _ hS (fun hS => ⟨_, rfl, hS, ?_⟩)))⟩))
  obtain ⟨t, -, h1, h2, -⟩ := hR.2.1
  rw [h1, h2]
  exact hK _ _ hR hS
theorem op_place (hR : Rl b M) (hS : xm_st b false false M) (hF : ∀ P, P → F P) (hK : ∀ r M2, Rl b M2 → xm_st b false false M2 → K r r M2) : Op l E b F y0_place rm0_place [.ref (b + 0)] y11_place rm11_place [.ref (b + 154)] M K := by
  refine xm_enter (by decide) (Nat.le_of_ble_eq_true rfl) (t0_place_0 M hS (fun hS => ⟨_, rfl, hS, hF _ (xm_enter (by decide) (Nat.le_of_ble_eq_true rfl) (t11_place_0 _ hS (fun hS => ⟨_, rfl, hS, ?_⟩)))⟩))
  rw [show xm_gi M (b + 0) 6 = xm_gi M (b + 154) 9 from hR.2.2.1]
  exact hK _ _ hR hS
theorem op_result (hR : Rl b M) (hS : xm_st b false false M) (hF : ∀ P, P → F P) (hK : ∀ r M2, Rl b M2 → xm_st b false false M2 → K r r M2) : Op l E b F y0_result rm0_result [.ref (b + 0)] y11_result rm11_result [.ref (b + 154)] M K := by
  refine xm_enter (by decide) (Nat.le_of_ble_eq_true rfl) (t0_result_0 M hS (fun hS => ⟨_, rfl, hS, hF _ (xm_enter (by decide) (Nat.le_of_ble_eq_true rfl) (t11_result_0 _ hS (fun hS => ⟨_, rfl, hS, ?_⟩)))⟩))
  rw [hR.2.2.2.2.1.1]
  exact hK _ _ hR hS
theorem op_steps (hR : Rl b M) (hS : xm_st b false false M) (hF : ∀ P, P → F P) (hK : ∀ r M2, Rl b M2 → xm_st b false false M2 → K r r M2) : Op l E b F y0_steps rm0_steps [.ref (b + 0)] y11_steps rm11_steps [.ref (b + 154)] M K := by
  refine xm_enter (by decide) (Nat.le_of_ble_eq_true rfl) (t0_steps_0 M hS (fun hS => ⟨_, rfl, hS, hF _ (xm_enter (by decide) (Nat.le_of_ble_eq_true rfl) (t11_steps_0 _ hS (fun hS => ⟨_, rfl, hS, ?_⟩)))⟩))
  rw [hR.2.2.2.2.1.2]
  exact hK _ _ hR hS
theorem op_drop (hR : Rl b M) (hS : xm_st b false false M) (hF : ∀ P, P → F P) (hK : ∀ r M2, Rl b M2 → xm_st b false false M2 → K r r M2) : Op l E b F y0_drop rm0_drop [.ref (b + 0)] y11_drop rm11_drop [.ref (b + 154)] M K := by
  obtain ⟨rF, rT, rW, rP, rR, rD⟩ := hR
  refine xm_enter (by decide) (Nat.le_of_ble_eq_true rfl) (t0_drop_0 M hS (fun hS => ⟨_, rfl, hS, hF _ (xm_enter (by decide) (Nat.le_of_ble_eq_true rfl) (t11_drop_0 _ hS (fun hS => ⟨_, rfl, hS, ?_⟩)))⟩))
  have hs : smI (fun a k => (a = b + 53 ∧ k = 1) ∨ (a = b + 154 ∧ k = 11)) M (xm_pi (xm_pi M (b + 53) 1 0) (b + 154) 11 0) := (smI.rf.pi (Or.inl ⟨rfl, rfl⟩)).pi (Or.inr ⟨rfl, rfl⟩)
  have hP2 : RlP b (xm_pi (xm_pi M (b + 53) 1 0) (b + 154) 11 0) := by
    refine ⟨0, by omega, ?_, ?_, fun i hi => absurd hi (Nat.not_lt_zero i)⟩
    · rw [gi_pi, if_neg (by omega), gi_pi, if_pos ⟨rfl, rfl⟩]; rfl
    · rw [gi_pi, if_pos ⟨rfl, rfl⟩]; rfl
  have e : xm_gi M (b + 53) 1 = xm_gi (xm_pi M (b + 53) 1 0) (b + 154) 11 := by
    rw [gi_pi, if_neg (by omega)]
    obtain ⟨t, h1, h2, h3, -⟩ := rP
    rw [h2, h3]
  rw [← e]
  exact hK _ _ ⟨rF.frame (fun a k h => hs.1 a k (by unfold arF at h; omega)), rT.frame (fun a k h => hs.1 a k (by unfold arT at h; omega)), rW.frame (fun a k h => hs.1 a k (by unfold arW at h; omega)), hP2, rR.frame (fun a k h => hs.1 a k (by unfold arR at h; omega)), rD.frame (fun i u _ _ => hs.2 _ _)⟩ hS
theorem op_at {v : Int32} (hR : Rl b M) (hS : xm_st b false false M) (hF : ∀ P, P → F P) (hK : ∀ r M2, Rl b M2 → xm_st b false false M2 → K r r M2) : Op l E b F y0_at rm0_at [.ref (b + 0), .int v] y11_at rm11_at [.ref (b + 154), .int v] M K := by
  obtain ⟨t, h1, h2, h3, h4⟩ := hR.2.1
  have key : ∀ r, (∀ Q : Option Value → xm_M → Prop, (xm_st b false false M → Q (some (.int r)) M) → xm_C l E y3_get rm3_get [.ref (b + 51), .int v] M Q) → (∀ Q : Option Value → xm_M → Prop, (xm_st b false false M → Q (some (.int r)) M) → xm_C l E y11_at rm11_at [.ref (b + 154), .int v] M Q) → Op l E b F y0_at rm0_at [.ref (b + 0), .int v] y11_at rm11_at [.ref (b + 154), .int v] M K := by
    intro r k1 k2
    exact xm_enter (by decide) (Nat.le_of_ble_eq_true rfl) (t0_at_0 M v hS (k1 _ (fun hS => ⟨_, rfl, hS, fun hS => ⟨_, rfl, hS, hF _ (k2 _ (fun hS => ⟨_, rfl, hS, hK _ _ hR hS⟩))⟩⟩)))
  have e0 : (0 : Int32).toInt = 0 := by decide
  by_cases g1 : v < 0
  · exact key 0 (fun Q h => xm_enter (by decide) (Nat.le_of_ble_eq_true rfl) (t3_get_0 M v hS ⟨fun _ => h, fun g => absurd g1 g⟩)) (fun Q h => xm_enter (by decide) (Nat.le_of_ble_eq_true rfl) (t11_at_0 M v hS ⟨fun _ => h, fun g => absurd g1 g⟩))
  · by_cases g2 : Int32.ofNat t ≤ v
    · exact key 0 (fun Q h => xm_enter (by decide) (Nat.le_of_ble_eq_true rfl) (t3_get_0 M v hS ⟨fun _ => h, fun _ => ⟨fun _ => h, fun g => absurd (by rw [h2]; exact g2) g⟩⟩)) (fun Q h => xm_enter (by decide) (Nat.le_of_ble_eq_true rfl) (t11_at_0 M v hS ⟨fun _ => h, fun _ => ⟨fun _ => h, fun g => absurd (by rw [h3]; exact g2) g⟩⟩))
    · have hv : 0 ≤ v.toInt ∧ v.toInt < t := by
        rw [Int32.lt_iff_toInt_lt] at g1
        rw [Int32.le_iff_toInt_le, toInt_of rfl (by omega)] at g2
        omega
      have hin : vp_in v 20000 := vp_in_iff.mpr (by omega)
      have hj : v.toNatClampNeg < t := vp_lt (vp_in_iff.mpr (by omega))
      refine key (xm_gi M (b + 52) v.toNatClampNeg) (fun Q h => xm_enter (by decide) (Nat.le_of_ble_eq_true rfl) (t3_get_0 M v hS ⟨fun g => absurd g g1, fun _ => ⟨fun g => absurd (by rw [h2] at g; exact g) g2, fun _ => ⟨hin, h⟩⟩⟩)) (fun Q h => xm_enter (by decide) (Nat.le_of_ble_eq_true rfl) (t11_at_0 M v hS ⟨fun g => absurd g g1, fun _ => ⟨fun g => absurd (by rw [h3] at g; exact g) g2, fun _ => ⟨hin, ?_⟩⟩⟩))
      rw [h4 _ hj] at h
      exact h
end OPS
