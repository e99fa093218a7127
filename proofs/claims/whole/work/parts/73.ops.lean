section OPS2
variable {l : Launch} {E : xm_E} {b : Nat} {M : xm_M} {F : Prop → Prop} {K : Int32 → Int32 → xm_M → Prop} {KZ : Bool → Bool → xm_M → Prop}
theorem op_say {v : Int32} (hR : Rl b M) (hS : xm_st b false false M) (hF : ∀ P, P → F P) (hK : ∀ r M2, Rl b M2 → xm_st b false false M2 → K r r M2) : Op l E b F y0_say rm0_say [.ref (b + 0), .int v] y11_say rm11_say [.ref (b + 154), .int v] M K := by
  have hR0 := hR
  obtain ⟨rF, ⟨t, h1, h2, h3, h4⟩, rW, rP, rR, rD⟩ := hR
  have c1 : (Int32.ofNat t).toNatClampNeg = t := xn_c (by omega)
  by_cases g : t < 20000
  · have eM : (xm_pi (xm_pi M (b + 52) (Int32.toNatClampNeg (xm_gi M (b + 51) 1)) v) (b + 51) 1 ((xm_gi (xm_pi M (b + 52) (Int32.toNatClampNeg (xm_gi M (b + 51) 1)) v) (b + 51) 1) + (1 : Int32))) = xm_pi (xm_pi M (b + 52) t v) (b + 51) 1 (Int32.ofNat (t + 1)) := by
      rw [gi_pi, if_neg (by omega), h2, c1, inc_ofNat]
    refine xm_enter (by decide) (Nat.le_of_ble_eq_true rfl) (t0_say_0 M v hS (xm_enter (by decide) (Nat.le_of_ble_eq_true rfl) (t3_append_0 M v hS ⟨fun _ => ⟨by rw [h2]; exact xn_in g (by decide), fun hS => ⟨true, rfl, hS, fun q => absurd q (by decide), fun _ hS => ⟨_, rfl, hS, hF _ ?_⟩⟩⟩, fun q => absurd (by rw [h2]; exact (xn_lt (b := 20000) (by omega) (by decide)).mpr g) q⟩)))
    rw [eM] at hS ⊢
    rw [gi_pi, if_pos ⟨rfl, rfl⟩]
    generalize hM1 : xm_pi (xm_pi M (b + 52) t v) (b + 51) 1 (Int32.ofNat (t + 1)) = M1 at hS ⊢
    have s1 : smI (fun a k => (a = b + 52 ∧ k = t) ∨ (a = b + 51 ∧ k = 1)) M M1 := by
      rw [← hM1]; exact (smI.rf.pi (Or.inl ⟨rfl, rfl⟩)).pi (Or.inr ⟨rfl, rfl⟩)
    have h3' : xm_gi M1 (b + 154) 8 = Int32.ofNat t := by rw [s1.1 _ _ (by omega)]; exact h3
    have eM2 : (xm_pi (xm_pi M1 (b + 160) (Int32.toNatClampNeg (xm_gi M1 (b + 154) 8)) v) (b + 154) 8 ((xm_gi (xm_pi M1 (b + 160) (Int32.toNatClampNeg (xm_gi M1 (b + 154) 8)) v) (b + 154) 8) + (1 : Int32))) = xm_pi (xm_pi M1 (b + 160) t v) (b + 154) 8 (Int32.ofNat (t + 1)) := by
      rw [gi_pi, if_neg (by omega), h3', c1, inc_ofNat]
    refine xm_enter (by decide) (Nat.le_of_ble_eq_true rfl) (t11_say_0 M1 v hS ⟨fun _ => ⟨by rw [h3']; exact xn_in g (by decide), fun hS => ⟨_, rfl, hS, ?_⟩⟩, fun q => ?_⟩)
    · rw [eM2] at hS ⊢
      rw [gi_pi, if_pos ⟨rfl, rfl⟩]
      have s2 : smI (fun a k => (a = b + 52 ∧ k = t) ∨ (a = b + 51 ∧ k = 1) ∨ (a = b + 160 ∧ k = t) ∨ (a = b + 154 ∧ k = 8)) M (xm_pi (xm_pi M1 (b + 160) t v) (b + 154) 8 (Int32.ofNat (t + 1))) := (smI.pi (smI.pi ⟨fun a k h => s1.1 a k (by omega), s1.2⟩ (by omega)) (by omega))
      refine hK _ _ ⟨rF.frame (fun a k h => s2.1 a k (by unfold arF at h; omega)), ⟨t + 1, by omega, ?_, ?_, fun i hi => ?_⟩, rW.frame (fun a k h => s2.1 a k (by unfold arW at h; omega)), rP.frame (fun a k h => s2.1 a k (by unfold arP at h; omega)), rR.frame (fun a k h => s2.1 a k (by unfold arR at h; omega)), rD.frame (fun i u _ _ => s2.2 _ _)⟩ hS
      · rw [gi_pi, if_neg (by omega), gi_pi, if_neg (by omega), ← hM1, gi_pi, if_pos ⟨rfl, rfl⟩]
      · rw [gi_pi, if_pos ⟨rfl, rfl⟩]
      · by_cases e : i = t
        · subst e
          rw [gi_pi, if_neg (by omega), gi_pi, if_neg (by omega), ← hM1, gi_pi, if_neg (by omega), gi_pi, if_pos ⟨rfl, rfl⟩, gi_pi, if_neg (by omega), gi_pi, if_pos ⟨rfl, rfl⟩]
        · rw [s2.1 _ _ (by omega), s2.1 _ _ (by omega)]; exact h4 i (by omega)
    · rw [h3'] at q
      have := congrArg Int32.toInt q
      rw [toInt_of rfl (by omega)] at this
      have e : (20000 : Int32).toInt = 20000 := by decide
      omega
  · have ht : t = 20000 := by omega
    subst ht
    refine xm_enter (by decide) (Nat.le_of_ble_eq_true rfl) (t0_say_0 M v hS (xm_enter (by decide) (Nat.le_of_ble_eq_true rfl) (t3_append_0 M v hS ⟨fun q => absurd (by rw [h2] at q; exact q) (by decide), fun _ hS => ⟨false, rfl, hS, fun _ hS => ⟨_, rfl, hS, hF _ ?_⟩, fun q => absurd rfl q⟩⟩)))
    exact xm_enter (by decide) (Nat.le_of_ble_eq_true rfl) (t11_say_0 M v hS ⟨fun q => absurd h3 q, fun _ hS => ⟨_, rfl, hS, hK _ _ hR0 hS⟩⟩)
theorem op_cut {v : Int32} (hR : Rl b M) (hS : xm_st b false false M) (hF : ∀ P, P → F P) (hK : ∀ r M2, Rl b M2 → xm_st b false false M2 → KZ r r M2) : OpZ l E b F y0_cut rm0_cut [.ref (b + 0), .int v] y11_cut rm11_cut [.ref (b + 154), .int v] M KZ := by
  have hR0 := hR
  obtain ⟨rF, ⟨t, h1, h2, h3, h4⟩, rW, rP, rR, rD⟩ := hR
  have e0 : (0 : Int32).toInt = 0 := by decide
  by_cases g1 : v < 0
  · exact xm_enter (by decide) (Nat.le_of_ble_eq_true rfl) (t0_cut_0 M v hS (xm_enter (by decide) (Nat.le_of_ble_eq_true rfl) (t3_keep_0 M v hS ⟨fun _ hS => ⟨false, rfl, hS, fun hS => ⟨false, rfl, hS, hF _ (xm_enter (by decide) (Nat.le_of_ble_eq_true rfl) (t11_cut_0 M v hS ⟨fun _ hS => ⟨false, rfl, hS, hK _ _ hR0 hS⟩, fun g => absurd g1 g⟩))⟩⟩, fun g => absurd g1 g⟩)))
  · by_cases g2 : v ≤ Int32.ofNat t
    · have hv : 0 ≤ v.toInt ∧ v.toInt ≤ t := by
        rw [Int32.lt_iff_toInt_lt] at g1
        rw [Int32.le_iff_toInt_le, toInt_of rfl (by omega)] at g2
        omega
      have ev : v = Int32.ofNat v.toInt.toNat := Int32.toInt_inj.mp (by rw [toInt_of rfl (by omega)]; omega)
      refine xm_enter (by decide) (Nat.le_of_ble_eq_true rfl) (t0_cut_0 M v hS (xm_enter (by decide) (Nat.le_of_ble_eq_true rfl) (t3_keep_0 M v hS ⟨fun g => absurd g g1, fun _ => ⟨fun _ hS => ⟨true, rfl, hS, fun hS => ⟨true, rfl, hS, hF _ ?_⟩⟩, fun g => absurd (by rw [h2]; exact g2) g⟩⟩)))
      have h3' : xm_gi (xm_pi M (b + 51) 1 v) (b + 154) 8 = Int32.ofNat t := by rw [gi_pi, if_neg (by omega)]; exact h3
      refine xm_enter (by decide) (Nat.le_of_ble_eq_true rfl) (t11_cut_0 _ v hS ⟨fun g => absurd g g1, fun _ => ⟨fun _ hS => ⟨true, rfl, hS, hK _ _ ?_ hS⟩, fun g => absurd (by rw [h3']; exact g2) g⟩⟩)
      have s2 : smI (fun a k => (a = b + 51 ∧ k = 1) ∨ (a = b + 154 ∧ k = 8)) M (xm_pi (xm_pi M (b + 51) 1 v) (b + 154) 8 v) := (smI.rf.pi (Or.inl ⟨rfl, rfl⟩)).pi (Or.inr ⟨rfl, rfl⟩)
      refine ⟨rF.frame (fun a k h => s2.1 a k (by unfold arF at h; omega)), ⟨v.toInt.toNat, by omega, ?_, ?_, fun i hi => ?_⟩, rW.frame (fun a k h => s2.1 a k (by unfold arW at h; omega)), rP.frame (fun a k h => s2.1 a k (by unfold arP at h; omega)), rR.frame (fun a k h => s2.1 a k (by unfold arR at h; omega)), rD.frame (fun i u _ _ => s2.2 _ _)⟩
      · rw [gi_pi, if_neg (by omega), gi_pi, if_pos ⟨rfl, rfl⟩]; exact ev
      · rw [gi_pi, if_pos ⟨rfl, rfl⟩]; exact ev
      · rw [s2.1 _ _ (by omega), s2.1 _ _ (by omega)]; exact h4 i (by omega)
    · exact xm_enter (by decide) (Nat.le_of_ble_eq_true rfl) (t0_cut_0 M v hS (xm_enter (by decide) (Nat.le_of_ble_eq_true rfl) (t3_keep_0 M v hS ⟨fun g => absurd g g1, fun _ => ⟨fun g => absurd (by rw [h2] at g; exact g) g2, fun _ hS => ⟨false, rfl, hS, fun hS => ⟨false, rfl, hS, hF _ (xm_enter (by decide) (Nat.le_of_ble_eq_true rfl) (t11_cut_0 M v hS ⟨fun g => absurd g g1, fun _ => ⟨fun g => absurd (by rw [h3] at g; exact g) g2, fun _ hS => ⟨false, rfl, hS, hK _ _ hR0 hS⟩⟩⟩))⟩⟩⟩⟩)))
theorem op_change {v w : Int32} (hR : Rl b M) (hS : xm_st b false false M) (hF : ∀ P, P → F P) (hK : ∀ r M2, Rl b M2 → xm_st b false false M2 → KZ r r M2) : OpZ l E b F y0_change rm0_change [.ref (b + 0), .int v, .int w] y11_change rm11_change [.ref (b + 154), .int v, .int w] M KZ := by
  have hR0 := hR
  obtain ⟨rF, ⟨t, h1, h2, h3, h4⟩, rW, rP, rR, rD⟩ := hR
  have e0 : (0 : Int32).toInt = 0 := by decide
  by_cases g1 : v < 0
  · exact xm_enter (by decide) (Nat.le_of_ble_eq_true rfl) (t0_change_0 M v w hS (xm_enter (by decide) (Nat.le_of_ble_eq_true rfl) (t3_replace_0 M v w hS ⟨fun _ hS => ⟨false, rfl, hS, fun hS => ⟨false, rfl, hS, hF _ (xm_enter (by decide) (Nat.le_of_ble_eq_true rfl) (t11_change_0 M v w hS ⟨fun _ hS => ⟨false, rfl, hS, hK _ _ hR0 hS⟩, fun g => absurd g1 g⟩))⟩⟩, fun g => absurd g1 g⟩)))
  · by_cases g2 : v < Int32.ofNat t
    · have hv : 0 ≤ v.toInt ∧ v.toInt < t := by
        rw [Int32.lt_iff_toInt_lt] at g1
        rw [Int32.lt_iff_toInt_lt, toInt_of rfl (by omega)] at g2
        omega
      have hin : vp_in v 20000 := vp_in_iff.mpr (by omega)
      refine xm_enter (by decide) (Nat.le_of_ble_eq_true rfl) (t0_change_0 M v w hS (xm_enter (by decide) (Nat.le_of_ble_eq_true rfl) (t3_replace_0 M v w hS ⟨fun g => absurd g g1, fun _ => ⟨fun _ => ⟨hin, fun hS => ⟨true, rfl, hS, fun hS => ⟨true, rfl, hS, hF _ ?_⟩⟩⟩, fun g => absurd (by rw [h2]; exact g2) g⟩⟩)))
      have h3' : xm_gi (xm_pi M (b + 52) v.toNatClampNeg w) (b + 154) 8 = Int32.ofNat t := by rw [gi_pi, if_neg (by omega)]; exact h3
      refine xm_enter (by decide) (Nat.le_of_ble_eq_true rfl) (t11_change_0 _ v w hS ⟨fun g => absurd g g1, fun _ => ⟨fun _ => ⟨hin, fun hS => ⟨true, rfl, hS, hK _ _ ?_ hS⟩⟩, fun g => absurd (by rw [h3']; exact g2) g⟩⟩)
      have s2 : smI (fun a k => (a = b + 52 ∧ k = v.toNatClampNeg) ∨ (a = b + 160 ∧ k = v.toNatClampNeg)) M (xm_pi (xm_pi M (b + 52) v.toNatClampNeg w) (b + 160) v.toNatClampNeg w) := (smI.rf.pi (Or.inl ⟨rfl, rfl⟩)).pi (Or.inr ⟨rfl, rfl⟩)
      refine ⟨rF.frame (fun a k h => s2.1 a k (by unfold arF at h; omega)), ⟨t, h1, by rw [s2.1 _ _ (by omega)]; exact h2, by rw [s2.1 _ _ (by omega)]; exact h3, fun i hi => ?_⟩, rW.frame (fun a k h => s2.1 a k (by unfold arW at h; omega)), rP.frame (fun a k h => s2.1 a k (by unfold arP at h; omega)), rR.frame (fun a k h => s2.1 a k (by unfold arR at h; omega)), rD.frame (fun i u _ _ => s2.2 _ _)⟩
      by_cases e : i = v.toNatClampNeg
      · subst e
        rw [gi_pi, if_neg (by omega), gi_pi, if_pos ⟨rfl, rfl⟩, gi_pi, if_pos ⟨rfl, rfl⟩]
      · rw [s2.1 _ _ (by omega), s2.1 _ _ (by omega)]; exact h4 i hi
    · exact xm_enter (by decide) (Nat.le_of_ble_eq_true rfl) (t0_change_0 M v w hS (xm_enter (by decide) (Nat.le_of_ble_eq_true rfl) (t3_replace_0 M v w hS ⟨fun g => absurd g g1, fun _ => ⟨fun g => absurd (by rw [h2] at g; exact g) g2, fun _ hS => ⟨false, rfl, hS, fun hS => ⟨false, rfl, hS, hF _ (xm_enter (by decide) (Nat.le_of_ble_eq_true rfl) (t11_change_0 M v w hS ⟨fun g => absurd g g1, fun _ => ⟨fun g => absurd (by rw [h3] at g; exact g) g2, fun _ hS => ⟨false, rfl, hS, hK _ _ hR0 hS⟩⟩⟩))⟩⟩⟩⟩)))
end OPS2
