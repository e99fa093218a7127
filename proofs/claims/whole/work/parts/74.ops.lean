section OPS3
variable {l : Launch} {E : xm_E} {b : Nat} {M : xm_M} {F : Prop → Prop} {K : Int32 → Int32 → xm_M → Prop}
theorem op_instr {v1 v2 v3 v4 v5 : Int32} (hR : Rl b M) (hS : xm_st b false false M) (hF : ∀ P, P → F P) (hK : ∀ r M2, Rl b M2 → xm_st b false false M2 → K r r M2) : Op l E b F y0_instruction rm0_instruction [.ref (b + 0), .int v1, .int v2, .int v3, .int v4, .int v5] y11_instruction rm11_instruction [.ref (b + 154), .int v1, .int v2, .int v3, .int v4, .int v5] M K := by
  have hR0 := hR
  obtain ⟨⟨n, m, h1, h2, h3, h4, h5, h6, h7, h8⟩, rT, rW, rP, rR, rD⟩ := hR
  have c1 : (Int32.ofNat n).toNatClampNeg = n := xn_c (by omega)
  have e0 : (0 : Int32).toInt = 0 := by decide
  have e16 : (16 : Int32).toInt = 16 := by decide
  by_cases g1 : v1 < 0
  · exact xm_enter (by decide) (Nat.le_of_ble_eq_true rfl) (t0_instruction_0 M v1 v2 v3 v4 v5 hS ⟨fun _ hS => ⟨_, rfl, hS, hF _ (xm_enter (by decide) (Nat.le_of_ble_eq_true rfl) (t11_instruction_0 M v1 v2 v3 v4 v5 hS ⟨fun _ hS => ⟨_, rfl, hS, hK _ _ hR0 hS⟩, fun g => absurd g1 g⟩))⟩, fun g => absurd g1 g⟩)
  · by_cases g2 : v1 ≤ 16
    · by_cases g3 : n < 48
      · have ei : xm_gi (xm_pi (xm_pi (xm_pi (xm_pi (xm_pi M (b + 3 + n) 0 v1) (b + 3 + n) 1 v2) (b + 3 + n) 2 v3) (b + 3 + n) 3 v4) (b + 3 + n) 4 v5) (b + 1) 2 = Int32.ofNat n := by
          rw [gi_pi, if_neg (by omega), gi_pi, if_neg (by omega), gi_pi, if_neg (by omega), gi_pi, if_neg (by omega), gi_pi, if_neg (by omega)]; exact h3
        refine xm_enter (by decide) (Nat.le_of_ble_eq_true rfl) (t0_instruction_0 M v1 v2 v3 v4 v5 hS ⟨fun g => absurd g g1, fun _ => ⟨fun _ => xm_enter (by decide) (Nat.le_of_ble_eq_true rfl) (t1_append_0 M v1 v2 v3 v4 v5 hS ⟨fun _ => ⟨by rw [h3]; exact xn_in g3 (by decide), fun hS => ⟨true, rfl, hS, fun q => absurd q (by decide), fun _ hS => ⟨_, rfl, hS, hF _ ?_⟩⟩⟩, fun q => absurd (by rw [h3]; exact (xn_lt (b := 48) (by omega) (by decide)).mpr g3) q⟩), fun g => absurd g2 g⟩⟩)
        rw [h3, c1, ei, ← inc_ofNat] at hS ⊢
        rw [gi_pi, if_pos ⟨rfl, rfl⟩]
        generalize hM1 : xm_pi (xm_pi (xm_pi (xm_pi (xm_pi (xm_pi M (b + 3 + n) 0 v1) (b + 3 + n) 1 v2) (b + 3 + n) 2 v3) (b + 3 + n) 3 v4) (b + 3 + n) 4 v5) (b + 1) 2 (Int32.ofNat (n + 1)) = M1 at hS ⊢
        have s1 : smI (fun a k => (a = b + 3 + n ∧ k ≤ 4) ∨ (a = b + 1 ∧ k = 2)) M M1 := by
          rw [← hM1]; exact ((((((smI.rf.pi (by omega)).pi (by omega)).pi (by omega)).pi (by omega)).pi (by omega)).pi (by omega))
        have q1 : xm_gi M1 (b + 3 + n) 0 = v1 ∧ xm_gi M1 (b + 3 + n) 1 = v2 ∧ xm_gi M1 (b + 3 + n) 2 = v3 ∧ xm_gi M1 (b + 3 + n) 3 = v4 ∧ xm_gi M1 (b + 3 + n) 4 = v5 ∧ xm_gi M1 (b + 1) 2 = Int32.ofNat (n + 1) := by
          rw [← hM1]
          refine ⟨?_, ?_, ?_, ?_, ?_, ?_⟩
          · rw [gi_pi, if_neg (by omega), gi_pi, if_neg (by omega), gi_pi, if_neg (by omega), gi_pi, if_neg (by omega), gi_pi, if_neg (by omega), gi_pi, if_pos ⟨rfl, rfl⟩]
          · rw [gi_pi, if_neg (by omega), gi_pi, if_neg (by omega), gi_pi, if_neg (by omega), gi_pi, if_neg (by omega), gi_pi, if_pos ⟨rfl, rfl⟩]
          · rw [gi_pi, if_neg (by omega), gi_pi, if_neg (by omega), gi_pi, if_neg (by omega), gi_pi, if_pos ⟨rfl, rfl⟩]
          · rw [gi_pi, if_neg (by omega), gi_pi, if_neg (by omega), gi_pi, if_pos ⟨rfl, rfl⟩]
          · rw [gi_pi, if_neg (by omega), gi_pi, if_pos ⟨rfl, rfl⟩]
          · rw [gi_pi, if_pos ⟨rfl, rfl⟩]
        clear hM1
        have k1 : xm_gi M1 (b + 154) 1 = Int32.ofNat n := by rw [s1.1 _ _ (by omega)]; exact h4
        have hin : vp_in (Int32.ofNat n) 48 := xn_in g3 (by decide)
        refine xm_enter (by decide) (Nat.le_of_ble_eq_true rfl) (t11_instruction_0 M1 v1 v2 v3 v4 v5 hS ⟨fun g => absurd g g1, fun _ => ⟨fun _ => ⟨fun _ => ⟨by rw [k1]; exact hin, fun M2 f2 => ?_⟩, fun q => ?_⟩, fun g => absurd g2 g⟩⟩)
        · rw [k1, c1] at f2
          have k2 : xm_gi M2 (b + 154) 1 = Int32.ofNat n := by rw [f2, gi_pi, if_neg (by omega)]; exact k1
          refine ⟨by rw [k2]; exact hin, fun M3 f3 => ?_⟩
          rw [k2, c1] at f3
          have k3 : xm_gi M3 (b + 154) 1 = Int32.ofNat n := by rw [f3, gi_pi, if_neg (by omega)]; exact k2
          refine ⟨by rw [k3]; exact hin, fun M4 f4 => ?_⟩
          rw [k3, c1] at f4
          have k4 : xm_gi M4 (b + 154) 1 = Int32.ofNat n := by rw [f4, gi_pi, if_neg (by omega)]; exact k3
          refine ⟨by rw [k4]; exact hin, fun M5 f5 => ?_⟩
          rw [k4, c1] at f5
          have k5 : xm_gi M5 (b + 154) 1 = Int32.ofNat n := by rw [f5, gi_pi, if_neg (by omega)]; exact k4
          refine ⟨by rw [k5]; exact hin, fun M6 f6 => ?_⟩
          rw [k5, c1] at f6
          have k6 : xm_gi M6 (b + 154) 1 = Int32.ofNat n := by rw [f6, gi_pi, if_neg (by omega)]; exact k5
          intro M7 f7 hS
          rw [k6, ← inc_ofNat] at f7
          have s2 : smI (fun a k => (a = b + 3 + n ∧ k ≤ 4) ∨ (a = b + 1 ∧ k = 2) ∨ (b + 155 ≤ a ∧ a ≤ b + 159 ∧ k = n) ∨ (a = b + 154 ∧ k = 1)) M M7 := by
            rw [f7, f6, f5, f4, f3, f2]
            exact smI.pi (smI.pi (smI.pi (smI.pi (smI.pi (smI.pi ⟨fun a k h => s1.1 a k (by omega), s1.2⟩ (by omega)) (by omega)) (by omega)) (by omega)) (by omega)) (by omega)
          have s3 : smI (fun a k => (b + 155 ≤ a ∧ a ≤ b + 159 ∧ k = n) ∨ (a = b + 154 ∧ k = 1)) M1 M7 := by
            rw [f7, f6, f5, f4, f3, f2]
            exact smI.pi (smI.pi (smI.pi (smI.pi (smI.pi (smI.pi smI.rf (by omega)) (by omega)) (by omega)) (by omega)) (by omega)) (by omega)
          refine ⟨_, rfl, hS, ?_⟩
          have q7 : xm_gi M7 (b + 154) 1 = Int32.ofNat (n + 1) := by rw [f7, gi_pi, if_pos ⟨rfl, rfl⟩]
          rw [q7]
          obtain ⟨u1, u2, u3, u4, u5, u6⟩ := q1
          have p1 : xm_gi M7 (b + 155) n = v1 := by
            rw [f7, gi_pi, if_neg (by omega), f6, gi_pi, if_neg (by omega), f5, gi_pi, if_neg (by omega), f4, gi_pi, if_neg (by omega), f3, gi_pi, if_neg (by omega), f2, gi_pi, if_pos ⟨rfl, rfl⟩]
          refine hK _ _ ⟨⟨n + 1, m, by omega, h2, ?_, q7, ?_, ?_, fun i hi => ?_, fun i hi => ?_⟩, rT.frame (fun a k h => s2.1 a k (by unfold arT at h; omega)), rW.frame (fun a k h => s2.1 a k (by unfold arW at h; omega)), rP.frame (fun a k h => s2.1 a k (by unfold arP at h; omega)), rR.frame (fun a k h => s2.1 a k (by unfold arR at h; omega)), rD.frame (fun i u _ _ => s2.2 _ _)⟩ hS
          · rw [s3.1 _ _ (by omega)]; exact u6
          · rw [s2.1 _ _ (by omega)]; exact h5
          · rw [s2.1 _ _ (by omega)]; exact h6
          · by_cases e : i = n
            · subst e
              refine ⟨?_, ?_, ?_, ?_, ?_⟩
              · rw [s3.1 _ _ (by omega), u1, p1]
              · rw [s3.1 _ _ (by omega), u2, f7, gi_pi, if_neg (by omega), f6, gi_pi, if_neg (by omega), f5, gi_pi, if_neg (by omega), f4, gi_pi, if_neg (by omega), f3, gi_pi, if_pos ⟨rfl, rfl⟩]
              · rw [s3.1 _ _ (by omega), u3, f7, gi_pi, if_neg (by omega), f6, gi_pi, if_neg (by omega), f5, gi_pi, if_neg (by omega), f4, gi_pi, if_pos ⟨rfl, rfl⟩]
              · rw [s3.1 _ _ (by omega), u4, f7, gi_pi, if_neg (by omega), f6, gi_pi, if_neg (by omega), f5, gi_pi, if_pos ⟨rfl, rfl⟩]
              · rw [s3.1 _ _ (by omega), u5, f7, gi_pi, if_neg (by omega), f6, gi_pi, if_pos ⟨rfl, rfl⟩]
            · obtain ⟨a1, a2, a3, a4, a5⟩ := h7 i hi
              refine ⟨?_, ?_, ?_, ?_, ?_⟩ <;> rw [s2.1 _ _ (by omega), s2.1 _ _ (by omega)] <;> assumption
          · by_cases e : i = n
            · subst e
              refine ⟨v1.toInt.toNat, ?_, ?_⟩
              · rw [Int32.lt_iff_toInt_lt] at g1; rw [Int32.le_iff_toInt_le] at g2; omega
              · rw [p1]
                rw [Int32.lt_iff_toInt_lt] at g1; rw [Int32.le_iff_toInt_le] at g2
                exact Int32.toInt_inj.mp (by rw [toInt_of rfl (by omega)]; omega)
            · obtain ⟨o, o1, o2⟩ := h8 i (by omega)
              exact ⟨o, o1, by rw [s2.1 _ _ (by omega)]; exact o2⟩
        · rw [k1] at q
          have := congrArg Int32.toInt q
          rw [toInt_of rfl (by omega)] at this
          have e : (48 : Int32).toInt = 48 := by decide
          omega
      · have hn : n = 48 := by omega
        subst hn
        refine xm_enter (by decide) (Nat.le_of_ble_eq_true rfl) (t0_instruction_0 M v1 v2 v3 v4 v5 hS ⟨fun g => absurd g g1, fun _ => ⟨fun _ => xm_enter (by decide) (Nat.le_of_ble_eq_true rfl) (t1_append_0 M v1 v2 v3 v4 v5 hS ⟨fun q => absurd (by rw [h3] at q; exact q) (by decide), fun _ hS => ⟨false, rfl, hS, fun _ hS => ⟨_, rfl, hS, hF _ ?_⟩, fun q => absurd rfl q⟩⟩), fun g => absurd g2 g⟩⟩)
        exact xm_enter (by decide) (Nat.le_of_ble_eq_true rfl) (t11_instruction_0 M v1 v2 v3 v4 v5 hS ⟨fun g => absurd g g1, fun _ => ⟨fun _ => ⟨fun q => absurd h4 q, fun _ hS => ⟨_, rfl, hS, hK _ _ hR0 hS⟩⟩, fun g => absurd g2 g⟩⟩)
    · exact xm_enter (by decide) (Nat.le_of_ble_eq_true rfl) (t0_instruction_0 M v1 v2 v3 v4 v5 hS ⟨fun g => absurd g g1, fun _ => ⟨fun g => absurd g g2, fun _ hS => ⟨_, rfl, hS, hF _ (xm_enter (by decide) (Nat.le_of_ble_eq_true rfl) (t11_instruction_0 M v1 v2 v3 v4 v5 hS ⟨fun g => absurd g g1, fun _ => ⟨fun g => absurd g g2, fun _ hS => ⟨_, rfl, hS, hK _ _ hR0 hS⟩⟩⟩))⟩⟩⟩)
end OPS3
/-! bytes -/
theorem byt_k (w : Int64) (s : Nat) (hs : s ≤ 56) : (BitVec.setWidth 8 (BitVec.setWidth 32 (w.toBitVec >>> s))) = (BitVec.setWidth 8 (BitVec.setWidth 32 (w.toBitVec.sshiftRight s))) := by
  ext i hi
  simp only [BitVec.getElem_setWidth, BitVec.getLsbD_setWidth, BitVec.getLsbD_ushiftRight, BitVec.getLsbD_sshiftRight]
  have h1 : ¬ 64 ≤ i := by omega
  have h2 : s + i < 64 := by omega
  simp [h1, h2]
