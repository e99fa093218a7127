set_option maxRecDepth 20000 in
theorem tL_cell_0 {l : Launch} {E : xm_E} {Q : Option Value → xm_M → Prop} (M : xm_M) (v1 : Int32)
  (h : (((Int32.ofNat E.2.2.2.2.1) ≤ v1 → Q (some (.int (0 : Int32))) M) ∧ (¬ (Int32.ofNat E.2.2.2.2.1) ≤ v1 → (vp_in v1 E.2.2.2.2.1 ∧ Q (some (.int (E.2.2.2.2.2 (Int32.toNatClampNeg v1)))) M)))) :
  xm_X l E yL_cell rmL_cell Q 0 [(0, .ref E.2.2.2.1), (1, .int v1)] [] 0 0 M := by
  refine x_iload_n dL_cell_0 1 rfl rfl ?_
  refine x_aload_n dL_cell_1 0 rfl rfl ?_
  refine x_slen dL_cell_2 ?_
  refine x_icmp_ge dL_cell_3 (t := 12) (by decide) (fun g => ?_) (fun g => ?_)
  · have h := h.1 g
    refine x_iconst dL_cell_12 qi_0 ?_
    exact x_ret (r := (some (.int (0 : Int32)))) dL_cell_13 xm_rI rfl ⟨Nat.le_refl _, Nat.le_refl _⟩ h
  · have h := h.2 g
    refine x_aload_n dL_cell_6 0 rfl rfl ?_
    refine x_iload_n dL_cell_7 1 rfl rfl ?_
    obtain ⟨g1, h⟩ := h
    refine x_sld dL_cell_8 g1 ?_
    refine x_goto dL_cell_9 (t := 13) (by decide) ?_
    exact x_ret (r := (some (.int (E.2.2.2.2.2 (Int32.toNatClampNeg v1))))) dL_cell_13 xm_rI rfl ⟨Nat.le_refl _, Nat.le_refl _⟩ h

set_option maxRecDepth 20000 in
theorem tL_law_28 {nm : String} {l : Launch} {E : xm_E} {b : Nat} {c p : Bool} {Q : Option Value → xm_M → Prop} (M : xm_M) (v3 : Int32) (hS : xm_st b c p M)
  (h : ((((Int32.ofNat E.2.2.2.2.1) - (6 : Int32)) < v3 → (xm_st b c p M → Q (some (.int (1 : Int32))) M)) ∧ (¬ ((Int32.ofNat E.2.2.2.2.1) - (6 : Int32)) < v3 → (vp_in v3 E.2.2.2.2.1 ∧ ((((E.2.2.2.2.2 (Int32.toNatClampNeg v3)) &&& (15 : Int32)) = (0 : Int32) → (vp_in (v3 + (1 : Int32)) E.2.2.2.2.1 ∧ (vp_in (v3 + (2 : Int32)) E.2.2.2.2.1 ∧ (vp_in (v3 + (3 : Int32)) E.2.2.2.2.1 ∧ (vp_in (v3 + (4 : Int32)) E.2.2.2.2.1 ∧ (vp_in (v3 + (5 : Int32)) E.2.2.2.2.1 ∧ xm_C l E y0_instruction rm0_instruction [.ref (b + 0), .int (E.2.2.2.2.2 (Int32.toNatClampNeg (v3 + (1 : Int32)))), .int (E.2.2.2.2.2 (Int32.toNatClampNeg (v3 + (2 : Int32)))), .int (E.2.2.2.2.2 (Int32.toNatClampNeg (v3 + (3 : Int32)))), .int (E.2.2.2.2.2 (Int32.toNatClampNeg (v3 + (4 : Int32)))), .int (E.2.2.2.2.2 (Int32.toNatClampNeg (v3 + (5 : Int32))))] M (fun r M7 => ∃ r8 : Int32, r = some (.int r8) ∧ xm_st b c p M7 ∧ (vp_in (v3 + (1 : Int32)) E.2.2.2.2.1 ∧ (vp_in (v3 + (2 : Int32)) E.2.2.2.2.1 ∧ (vp_in (v3 + (3 : Int32)) E.2.2.2.2.1 ∧ (vp_in (v3 + (4 : Int32)) E.2.2.2.2.1 ∧ (vp_in (v3 + (5 : Int32)) E.2.2.2.2.1 ∧ xm_C l E y11_instruction rm11_instruction [.ref (b + 154), .int (E.2.2.2.2.2 (Int32.toNatClampNeg (v3 + (1 : Int32)))), .int (E.2.2.2.2.2 (Int32.toNatClampNeg (v3 + (2 : Int32)))), .int (E.2.2.2.2.2 (Int32.toNatClampNeg (v3 + (3 : Int32)))), .int (E.2.2.2.2.2 (Int32.toNatClampNeg (v3 + (4 : Int32)))), .int (E.2.2.2.2.2 (Int32.toNatClampNeg (v3 + (5 : Int32))))] M7 (fun r M14 => ∃ r15 : Int32, r = some (.int r15) ∧ xm_st b c p M14 ∧ ((r8 = r15 → (xm_st b c p M14 → xm_X l E (yL_law nm) rmL_law Q 28 [(0, .ref E.2.2.2.1), (1, .ref (b + 0)), (2, .ref (b + 154)), (3, .int (v3 + Int32.ofInt (6)))] [] 178 88747 M14)) ∧ (¬ r8 = r15 → (xm_st b c p M14 → Q (some (.int (0 : Int32))) M14)))))))))))))))) ∧ (((E.2.2.2.2.2 (Int32.toNatClampNeg v3)) &&& (15 : Int32)) = (1 : Int32) → xm_C l E y0_clear rm0_clear [.ref (b + 0)] M (fun r M16 => ∃ r17 : Int32, r = some (.int r17) ∧ xm_st b c p M16 ∧ xm_C l E y11_clear rm11_clear [.ref (b + 154)] M16 (fun r M18 => ∃ r19 : Int32, r = some (.int r19) ∧ xm_st b c p M18 ∧ ((r17 = r19 → (xm_st b c p M18 → xm_X l E (yL_law nm) rmL_law Q 28 [(0, .ref E.2.2.2.1), (1, .ref (b + 0)), (2, .ref (b + 154)), (3, .int (v3 + Int32.ofInt (6)))] [] 178 88747 M18)) ∧ (¬ r17 = r19 → (xm_st b c p M18 → Q (some (.int (0 : Int32))) M18)))))) ∧ (((E.2.2.2.2.2 (Int32.toNatClampNeg v3)) &&& (15 : Int32)) = (2 : Int32) → xm_C l E y0_prove rm0_prove [.ref (b + 0)] M (fun r M20 => ∃ r21 : Int32, r = some (.int r21) ∧ xm_st b c p M20 ∧ xm_C l E y11_prove rm11_prove [.ref (b + 154)] M20 (fun r M22 => ∃ r23 : Int32, r = some (.int r23) ∧ xm_st b c p M22 ∧ ((r21 = r23 → (xm_st b c p M22 → xm_X l E (yL_law nm) rmL_law Q 28 [(0, .ref E.2.2.2.1), (1, .ref (b + 0)), (2, .ref (b + 154)), (3, .int (v3 + Int32.ofInt (6)))] [] 178 88747 M22)) ∧ (¬ r21 = r23 → (xm_st b c p M22 → Q (some (.int (0 : Int32))) M22)))))) ∧ (((E.2.2.2.2.2 (Int32.toNatClampNeg v3)) &&& (15 : Int32)) = (3 : Int32) → (vp_in (v3 + (1 : Int32)) E.2.2.2.2.1 ∧ xm_C l E y0_say rm0_say [.ref (b + 0), .int (E.2.2.2.2.2 (Int32.toNatClampNeg (v3 + (1 : Int32))))] M (fun r M25 => ∃ r26 : Int32, r = some (.int r26) ∧ xm_st b c p M25 ∧ (vp_in (v3 + (1 : Int32)) E.2.2.2.2.1 ∧ xm_C l E y11_say rm11_say [.ref (b + 154), .int (E.2.2.2.2.2 (Int32.toNatClampNeg (v3 + (1 : Int32))))] M25 (fun r M28 => ∃ r29 : Int32, r = some (.int r29) ∧ xm_st b c p M28 ∧ ((r26 = r29 → (xm_st b c p M28 → xm_X l E (yL_law nm) rmL_law Q 28 [(0, .ref E.2.2.2.1), (1, .ref (b + 0)), (2, .ref (b + 154)), (3, .int (v3 + Int32.ofInt (6)))] [] 178 88747 M28)) ∧ (¬ r26 = r29 → (xm_st b c p M28 → Q (some (.int (0 : Int32))) M28)))))))) ∧ (((E.2.2.2.2.2 (Int32.toNatClampNeg v3)) &&& (15 : Int32)) = (4 : Int32) → (vp_in (v3 + (1 : Int32)) E.2.2.2.2.1 ∧ xm_C l E y0_cut rm0_cut [.ref (b + 0), .int (E.2.2.2.2.2 (Int32.toNatClampNeg (v3 + (1 : Int32))))] M (fun r M31 => ∃ r32 : Bool, r = some (.int (xz r32)) ∧ xm_st b c p M31 ∧ (vp_in (v3 + (1 : Int32)) E.2.2.2.2.1 ∧ xm_C l E y11_cut rm11_cut [.ref (b + 154), .int (E.2.2.2.2.2 (Int32.toNatClampNeg (v3 + (1 : Int32))))] M31 (fun r M34 => ∃ r35 : Bool, r = some (.int (xz r35)) ∧ xm_st b c p M34 ∧ (((xz r32) = (xz r35) → (xm_st b c p M34 → xm_X l E (yL_law nm) rmL_law Q 28 [(0, .ref E.2.2.2.1), (1, .ref (b + 0)), (2, .ref (b + 154)), (3, .int (v3 + Int32.ofInt (6)))] [] 178 88747 M34)) ∧ (¬ (xz r32) = (xz r35) → (xm_st b c p M34 → Q (some (.int (0 : Int32))) M34)))))))) ∧ (((E.2.2.2.2.2 (Int32.toNatClampNeg v3)) &&& (15 : Int32)) = (5 : Int32) → (vp_in (v3 + (1 : Int32)) E.2.2.2.2.1 ∧ (vp_in (v3 + (2 : Int32)) E.2.2.2.2.1 ∧ xm_C l E y0_change rm0_change [.ref (b + 0), .int (E.2.2.2.2.2 (Int32.toNatClampNeg (v3 + (1 : Int32)))), .int (E.2.2.2.2.2 (Int32.toNatClampNeg (v3 + (2 : Int32))))] M (fun r M38 => ∃ r39 : Bool, r = some (.int (xz r39)) ∧ xm_st b c p M38 ∧ (vp_in (v3 + (1 : Int32)) E.2.2.2.2.1 ∧ (vp_in (v3 + (2 : Int32)) E.2.2.2.2.1 ∧ xm_C l E y11_change rm11_change [.ref (b + 154), .int (E.2.2.2.2.2 (Int32.toNatClampNeg (v3 + (1 : Int32)))), .int (E.2.2.2.2.2 (Int32.toNatClampNeg (v3 + (2 : Int32))))] M38 (fun r M42 => ∃ r43 : Bool, r = some (.int (xz r43)) ∧ xm_st b c p M42 ∧ (((xz r39) = (xz r43) → (xm_st b c p M42 → xm_X l E (yL_law nm) rmL_law Q 28 [(0, .ref E.2.2.2.1), (1, .ref (b + 0)), (2, .ref (b + 154)), (3, .int (v3 + Int32.ofInt (6)))] [] 178 88747 M42)) ∧ (¬ (xz r39) = (xz r43) → (xm_st b c p M42 → Q (some (.int (0 : Int32))) M42)))))))))) ∧ (((E.2.2.2.2.2 (Int32.toNatClampNeg v3)) &&& (15 : Int32)) = (6 : Int32) → xm_C l E y0_length rm0_length [.ref (b + 0)] M (fun r M44 => ∃ r45 : Int32, r = some (.int r45) ∧ xm_st b c p M44 ∧ xm_C l E y11_length rm11_length [.ref (b + 154)] M44 (fun r M46 => ∃ r47 : Int32, r = some (.int r47) ∧ xm_st b c p M46 ∧ ((r45 = r47 → (xm_st b c p M46 → xm_X l E (yL_law nm) rmL_law Q 28 [(0, .ref E.2.2.2.1), (1, .ref (b + 0)), (2, .ref (b + 154)), (3, .int (v3 + Int32.ofInt (6)))] [] 178 88747 M46)) ∧ (¬ r45 = r47 → (xm_st b c p M46 → Q (some (.int (0 : Int32))) M46)))))) ∧ (((E.2.2.2.2.2 (Int32.toNatClampNeg v3)) &&& (15 : Int32)) = (7 : Int32) → (vp_in (v3 + (1 : Int32)) E.2.2.2.2.1 ∧ xm_C l E y0_at rm0_at [.ref (b + 0), .int (E.2.2.2.2.2 (Int32.toNatClampNeg (v3 + (1 : Int32))))] M (fun r M49 => ∃ r50 : Int32, r = some (.int r50) ∧ xm_st b c p M49 ∧ (vp_in (v3 + (1 : Int32)) E.2.2.2.2.1 ∧ xm_C l E y11_at rm11_at [.ref (b + 154), .int (E.2.2.2.2.2 (Int32.toNatClampNeg (v3 + (1 : Int32))))] M49 (fun r M52 => ∃ r53 : Int32, r = some (.int r53) ∧ xm_st b c p M52 ∧ ((r50 = r53 → (xm_st b c p M52 → xm_X l E (yL_law nm) rmL_law Q 28 [(0, .ref E.2.2.2.1), (1, .ref (b + 0)), (2, .ref (b + 154)), (3, .int (v3 + Int32.ofInt (6)))] [] 178 88747 M52)) ∧ (¬ r50 = r53 → (xm_st b c p M52 → Q (some (.int (0 : Int32))) M52)))))))) ∧ (((E.2.2.2.2.2 (Int32.toNatClampNeg v3)) &&& (15 : Int32)) = (8 : Int32) → xm_C l E y0_check rm0_check [.ref (b + 0)] M (fun r M54 => ∃ r55 : Int32, r = some (.int r55) ∧ xm_st b c p M54 ∧ xm_C l E y11_check rm11_check [.ref (b + 154)] M54 (fun r M56 => ∃ r57 : Int32, r = some (.int r57) ∧ xm_st b c p M56 ∧ ((r55 = r57 → (xm_st b c p M56 → xm_X l E (yL_law nm) rmL_law Q 28 [(0, .ref E.2.2.2.1), (1, .ref (b + 0)), (2, .ref (b + 154)), (3, .int (v3 + Int32.ofInt (6)))] [] 178 88747 M56)) ∧ (¬ r55 = r57 → (xm_st b c p M56 → Q (some (.int (0 : Int32))) M56)))))) ∧ (((E.2.2.2.2.2 (Int32.toNatClampNeg v3)) &&& (15 : Int32)) = (9 : Int32) → xm_C l E y0_place rm0_place [.ref (b + 0)] M (fun r M58 => ∃ r59 : Int32, r = some (.int r59) ∧ xm_st b c p M58 ∧ xm_C l E y11_place rm11_place [.ref (b + 154)] M58 (fun r M60 => ∃ r61 : Int32, r = some (.int r61) ∧ xm_st b c p M60 ∧ ((r59 = r61 → (xm_st b c p M60 → xm_X l E (yL_law nm) rmL_law Q 28 [(0, .ref E.2.2.2.1), (1, .ref (b + 0)), (2, .ref (b + 154)), (3, .int (v3 + Int32.ofInt (6)))] [] 178 88747 M60)) ∧ (¬ r59 = r61 → (xm_st b c p M60 → Q (some (.int (0 : Int32))) M60)))))) ∧ (((E.2.2.2.2.2 (Int32.toNatClampNeg v3)) &&& (15 : Int32)) = (10 : Int32) → (vp_in (v3 + (1 : Int32)) E.2.2.2.2.1 ∧ (vp_in (v3 + (2 : Int32)) E.2.2.2.2.1 ∧ (vp_in (v3 + (3 : Int32)) E.2.2.2.2.1 ∧ xm_C l E y0_receive rm0_receive [.ref (b + 0), .long (((Int32.toInt64 (E.2.2.2.2.2 (Int32.toNatClampNeg (v3 + (1 : Int32))))) <<< (Int32.toInt64 (32 : Int32) &&& 63)) ||| ((Int32.toInt64 (E.2.2.2.2.2 (Int32.toNatClampNeg (v3 + (2 : Int32))))) &&& (4294967295 : Int64))), .int (E.2.2.2.2.2 (Int32.toNatClampNeg (v3 + (3 : Int32))))] M (fun r M65 => ∃ r66 : Int32, r = some (.int r66) ∧ xm_st b c p M65 ∧ (vp_in (v3 + (1 : Int32)) E.2.2.2.2.1 ∧ (vp_in (v3 + (2 : Int32)) E.2.2.2.2.1 ∧ (vp_in (v3 + (3 : Int32)) E.2.2.2.2.1 ∧ xm_C l E y11_receive rm11_receive [.ref (b + 154), .long (((Int32.toInt64 (E.2.2.2.2.2 (Int32.toNatClampNeg (v3 + (1 : Int32))))) <<< (Int32.toInt64 (32 : Int32) &&& 63)) ||| ((Int32.toInt64 (E.2.2.2.2.2 (Int32.toNatClampNeg (v3 + (2 : Int32))))) &&& (4294967295 : Int64))), .int (E.2.2.2.2.2 (Int32.toNatClampNeg (v3 + (3 : Int32))))] M65 (fun r M70 => ∃ r71 : Int32, r = some (.int r71) ∧ xm_st b c p M70 ∧ ((r66 = r71 → (xm_st b c p M70 → xm_X l E (yL_law nm) rmL_law Q 28 [(0, .ref E.2.2.2.1), (1, .ref (b + 0)), (2, .ref (b + 154)), (3, .int (v3 + Int32.ofInt (6)))] [] 178 88747 M70)) ∧ (¬ r66 = r71 → (xm_st b c p M70 → Q (some (.int (0 : Int32))) M70)))))))))))) ∧ (((E.2.2.2.2.2 (Int32.toNatClampNeg v3)) &&& (15 : Int32)) = (11 : Int32) → xm_C l E y0_drop rm0_drop [.ref (b + 0)] M (fun r M72 => ∃ r73 : Int32, r = some (.int r73) ∧ xm_st b c p M72 ∧ xm_C l E y11_drop rm11_drop [.ref (b + 154)] M72 (fun r M74 => ∃ r75 : Int32, r = some (.int r75) ∧ xm_st b c p M74 ∧ ((r73 = r75 → (xm_st b c p M74 → xm_X l E (yL_law nm) rmL_law Q 28 [(0, .ref E.2.2.2.1), (1, .ref (b + 0)), (2, .ref (b + 154)), (3, .int (v3 + Int32.ofInt (6)))] [] 178 88747 M74)) ∧ (¬ r73 = r75 → (xm_st b c p M74 → Q (some (.int (0 : Int32))) M74)))))) ∧ (((E.2.2.2.2.2 (Int32.toNatClampNeg v3)) &&& (15 : Int32)) = (12 : Int32) → xm_C l E y0_run rm0_run [.ref (b + 0)] M (fun r M76 => ∃ r77 : Int32, r = some (.int r77) ∧ xm_st b c p M76 ∧ xm_C l E y11_run rm11_run [.ref (b + 154)] M76 (fun r M78 => ∃ r79 : Int32, r = some (.int r79) ∧ xm_st b c p M78 ∧ ((r77 = r79 → (xm_st b c p M78 → xm_X l E (yL_law nm) rmL_law Q 28 [(0, .ref E.2.2.2.1), (1, .ref (b + 0)), (2, .ref (b + 154)), (3, .int (v3 + Int32.ofInt (6)))] [] 178 88747 M78)) ∧ (¬ r77 = r79 → (xm_st b c p M78 → Q (some (.int (0 : Int32))) M78)))))) ∧ (((E.2.2.2.2.2 (Int32.toNatClampNeg v3)) &&& (15 : Int32)) = (13 : Int32) → xm_C l E y0_result rm0_result [.ref (b + 0)] M (fun r M80 => ∃ r81 : Int32, r = some (.int r81) ∧ xm_st b c p M80 ∧ xm_C l E y11_result rm11_result [.ref (b + 154)] M80 (fun r M82 => ∃ r83 : Int32, r = some (.int r83) ∧ xm_st b c p M82 ∧ ((r81 = r83 → (xm_st b c p M82 → xm_X l E (yL_law nm) rmL_law Q 28 [(0, .ref E.2.2.2.1), (1, .ref (b + 0)), (2, .ref (b + 154)), (3, .int (v3 + Int32.ofInt (6)))] [] 178 88747 M82)) ∧ (¬ r81 = r83 → (xm_st b c p M82 → Q (some (.int (0 : Int32))) M82)))))) ∧ (((E.2.2.2.2.2 (Int32.toNatClampNeg v3)) &&& (15 : Int32)) = (14 : Int32) → xm_C l E y0_steps rm0_steps [.ref (b + 0)] M (fun r M84 => ∃ r85 : Int32, r = some (.int r85) ∧ xm_st b c p M84 ∧ xm_C l E y11_steps rm11_steps [.ref (b + 154)] M84 (fun r M86 => ∃ r87 : Int32, r = some (.int r87) ∧ xm_st b c p M86 ∧ ((r85 = r87 → (xm_st b c p M86 → xm_X l E (yL_law nm) rmL_law Q 28 [(0, .ref E.2.2.2.1), (1, .ref (b + 0)), (2, .ref (b + 154)), (3, .int (v3 + Int32.ofInt (6)))] [] 178 88747 M86)) ∧ (¬ r85 = r87 → (xm_st b c p M86 → Q (some (.int (0 : Int32))) M86)))))) ∧ (¬ ((E.2.2.2.2.2 (Int32.toNatClampNeg v3)) &&& (15 : Int32)) = (0 : Int32) ∧ ¬ ((E.2.2.2.2.2 (Int32.toNatClampNeg v3)) &&& (15 : Int32)) = (1 : Int32) ∧ ¬ ((E.2.2.2.2.2 (Int32.toNatClampNeg v3)) &&& (15 : Int32)) = (2 : Int32) ∧ ¬ ((E.2.2.2.2.2 (Int32.toNatClampNeg v3)) &&& (15 : Int32)) = (3 : Int32) ∧ ¬ ((E.2.2.2.2.2 (Int32.toNatClampNeg v3)) &&& (15 : Int32)) = (4 : Int32) ∧ ¬ ((E.2.2.2.2.2 (Int32.toNatClampNeg v3)) &&& (15 : Int32)) = (5 : Int32) ∧ ¬ ((E.2.2.2.2.2 (Int32.toNatClampNeg v3)) &&& (15 : Int32)) = (6 : Int32) ∧ ¬ ((E.2.2.2.2.2 (Int32.toNatClampNeg v3)) &&& (15 : Int32)) = (7 : Int32) ∧ ¬ ((E.2.2.2.2.2 (Int32.toNatClampNeg v3)) &&& (15 : Int32)) = (8 : Int32) ∧ ¬ ((E.2.2.2.2.2 (Int32.toNatClampNeg v3)) &&& (15 : Int32)) = (9 : Int32) ∧ ¬ ((E.2.2.2.2.2 (Int32.toNatClampNeg v3)) &&& (15 : Int32)) = (10 : Int32) ∧ ¬ ((E.2.2.2.2.2 (Int32.toNatClampNeg v3)) &&& (15 : Int32)) = (11 : Int32) ∧ ¬ ((E.2.2.2.2.2 (Int32.toNatClampNeg v3)) &&& (15 : Int32)) = (12 : Int32) ∧ ¬ ((E.2.2.2.2.2 (Int32.toNatClampNeg v3)) &&& (15 : Int32)) = (13 : Int32) ∧ ¬ ((E.2.2.2.2.2 (Int32.toNatClampNeg v3)) &&& (15 : Int32)) = (14 : Int32) → (xm_st b c p M → xm_X l E (yL_law nm) rmL_law Q 28 [(0, .ref E.2.2.2.1), (1, .ref (b + 0)), (2, .ref (b + 154)), (3, .int (v3 + Int32.ofInt (6)))] [] 178 88747 M))))))) :
  xm_X l E (yL_law nm) rmL_law Q 28 [(0, .ref E.2.2.2.1), (1, .ref (b + 0)), (2, .ref (b + 154)), (3, .int v3)] [] 178 88747 M := by
  refine x_iload_n dL_law_28 3 rfl rfl ?_
  refine x_aload_n dL_law_29 0 rfl rfl ?_
  refine x_slen dL_law_30 ?_
  refine x_bipush dL_law_31 qb_6 ?_
  refine x_isub dL_law_33 ?_
  refine x_icmp_gt dL_law_34 (t := 467) (by decide) (fun g => ?_) (fun g => ?_)
  · have h := h.1 g
    refine x_iconst dL_law_467 qi_1 ?_
    exact x_ret (r := (some (.int (1 : Int32)))) dL_law_468 (xm_rZ (Or.inr rfl)) rfl ⟨by decide, by decide⟩ (h hS)
  · have h := h.2 g
    refine x_aload_n dL_law_37 0 rfl rfl ?_
    refine x_iload_n dL_law_38 3 rfl rfl ?_
    obtain ⟨g1, h⟩ := h
    refine x_sld dL_law_39 g1 ?_
    refine x_bipush dL_law_40 qb_15 ?_
    refine x_iand dL_law_42 ?_
    have hsw := h
    clear h
    by_cases e0 : ((E.2.2.2.2.2 (Int32.toNatClampNeg v3)) &&& (15 : Int32)) = (0 : Int32)
    · have h := hsw.1 e0
      refine x_swIn dL_law_43 0 (by rw [e0]; rfl) ⟨by decide, by decide⟩ rfl (t := 116) (by decide) ?_
      refine x_aload_n dL_law_116 1 rfl rfl ?_
      refine x_aload_n dL_law_117 0 rfl rfl ?_
      refine x_iload_n dL_law_118 3 rfl rfl ?_
      refine x_iconst dL_law_119 qi_1 ?_
      refine x_iadd dL_law_120 ?_
      obtain ⟨g2, h⟩ := h
      refine x_sld dL_law_121 g2 ?_
      refine x_aload_n dL_law_122 0 rfl rfl ?_
      refine x_iload_n dL_law_123 3 rfl rfl ?_
      refine x_iconst dL_law_124 qi_2 ?_
      refine x_iadd dL_law_125 ?_
      obtain ⟨g3, h⟩ := h
      refine x_sld dL_law_126 g3 ?_
      refine x_aload_n dL_law_127 0 rfl rfl ?_
      refine x_iload_n dL_law_128 3 rfl rfl ?_
      refine x_iconst dL_law_129 qi_3 ?_
      refine x_iadd dL_law_130 ?_
      obtain ⟨g4, h⟩ := h
      refine x_sld dL_law_131 g4 ?_
      refine x_aload_n dL_law_132 0 rfl rfl ?_
      refine x_iload_n dL_law_133 3 rfl rfl ?_
      refine x_iconst dL_law_134 qi_4 ?_
      refine x_iadd dL_law_135 ?_
      obtain ⟨g5, h⟩ := h
      refine x_sld dL_law_136 g5 ?_
      refine x_aload_n dL_law_137 0 rfl rfl ?_
      refine x_iload_n dL_law_138 3 rfl rfl ?_
      refine x_iconst dL_law_139 qi_5 ?_
      refine x_iadd dL_law_140 ?_
      obtain ⟨g6, h⟩ := h
      refine x_sld dL_law_141 g6 ?_
      refine x_cVI (Z := y0_instruction) (S := rm0_instruction) (As := [.int (E.2.2.2.2.2 (Int32.toNatClampNeg (v3 + (1 : Int32)))), .int (E.2.2.2.2.2 (Int32.toNatClampNeg (v3 + (2 : Int32)))), .int (E.2.2.2.2.2 (Int32.toNatClampNeg (v3 + (3 : Int32)))), .int (E.2.2.2.2.2 (Int32.toNatClampNeg (v3 + (4 : Int32)))), .int (E.2.2.2.2.2 (Int32.toNatClampNeg (v3 + (5 : Int32))))]) (rest := []) dL_law_142 mlL_21 k0_instruction rfl (b := (b + 0)) (hS.1 _ _ (sh_0 b)) rfl rfl (Nat.le_of_ble_eq_true rfl) ⟨⟨by decide, by decide⟩, by decide, by decide⟩ ⟨rfl, rfl⟩ h (fun r8 M7 h => ?_)
      obtain ⟨hS, h⟩ := h
      refine x_aload_n dL_law_145 2 rfl rfl ?_
      refine x_aload_n dL_law_146 0 rfl rfl ?_
      refine x_iload_n dL_law_147 3 rfl rfl ?_
      refine x_iconst dL_law_148 qi_1 ?_
      refine x_iadd dL_law_149 ?_
      obtain ⟨g9, h⟩ := h
      refine x_sld dL_law_150 g9 ?_
      refine x_aload_n dL_law_151 0 rfl rfl ?_
      refine x_iload_n dL_law_152 3 rfl rfl ?_
      refine x_iconst dL_law_153 qi_2 ?_
      refine x_iadd dL_law_154 ?_
      obtain ⟨g10, h⟩ := h
      refine x_sld dL_law_155 g10 ?_
      refine x_aload_n dL_law_156 0 rfl rfl ?_
      refine x_iload_n dL_law_157 3 rfl rfl ?_
      refine x_iconst dL_law_158 qi_3 ?_
      refine x_iadd dL_law_159 ?_
      obtain ⟨g11, h⟩ := h
      refine x_sld dL_law_160 g11 ?_
      refine x_aload_n dL_law_161 0 rfl rfl ?_
      refine x_iload_n dL_law_162 3 rfl rfl ?_
      refine x_iconst dL_law_163 qi_4 ?_
      refine x_iadd dL_law_164 ?_
      obtain ⟨g12, h⟩ := h
      refine x_sld dL_law_165 g12 ?_
      refine x_aload_n dL_law_166 0 rfl rfl ?_
      refine x_iload_n dL_law_167 3 rfl rfl ?_
      refine x_iconst dL_law_168 qi_5 ?_
      refine x_iadd dL_law_169 ?_
      obtain ⟨g13, h⟩ := h
      refine x_sld dL_law_170 g13 ?_
      refine x_cVI (Z := y11_instruction) (S := rm11_instruction) (As := [.int (E.2.2.2.2.2 (Int32.toNatClampNeg (v3 + (1 : Int32)))), .int (E.2.2.2.2.2 (Int32.toNatClampNeg (v3 + (2 : Int32)))), .int (E.2.2.2.2.2 (Int32.toNatClampNeg (v3 + (3 : Int32)))), .int (E.2.2.2.2.2 (Int32.toNatClampNeg (v3 + (4 : Int32)))), .int (E.2.2.2.2.2 (Int32.toNatClampNeg (v3 + (5 : Int32))))]) (rest := [.int r8]) dL_law_171 mlL_25 k11_instruction rfl (b := (b + 154)) (hS.1 _ _ (sh_154 b)) rfl rfl (Nat.le_of_ble_eq_true rfl) ⟨⟨by decide, by decide⟩, by decide, by decide⟩ ⟨rfl, rfl⟩ h (fun r15 M14 h => ?_)
      obtain ⟨hS, h⟩ := h
      refine x_icmp_eq dL_law_174 (t := 461) (by decide) (fun g => ?_) (fun g => ?_)
      · have h := h.1 g
        refine x_iinc dL_law_461 3 rfl rfl (Nat.le_of_ble_eq_true rfl) (L' := [(3, .int (v3 + Int32.ofInt (6))), (0, .ref E.2.2.2.1), (1, .ref (b + 0)), (2, .ref (b + 154))]) rfl ?_
        refine x_goto dL_law_464 (t := 28) (by decide) ?_
        exact xm_X.sub [1, 2, 3, 0] rfl (h hS)
      · have h := h.2 g
        refine x_iconst dL_law_177 qi_0 ?_
        exact x_ret (r := (some (.int (0 : Int32)))) dL_law_178 (xm_rZ (Or.inl rfl)) rfl ⟨by decide, by decide⟩ (h hS)
    by_cases e1 : ((E.2.2.2.2.2 (Int32.toNatClampNeg v3)) &&& (15 : Int32)) = (1 : Int32)
    · have h := hsw.2.1 e1
      refine x_swIn dL_law_43 1 (by rw [e1]; rfl) ⟨by decide, by decide⟩ rfl (t := 179) (by decide) ?_
      refine x_aload_n dL_law_179 1 rfl rfl ?_
      refine x_cVI (Z := y0_clear) (S := rm0_clear) (As := []) (rest := []) dL_law_180 mlL_26 k0_clear rfl (b := (b + 0)) (hS.1 _ _ (sh_0 b)) rfl rfl (Nat.le_of_ble_eq_true rfl) ⟨⟨by decide, by decide⟩, by decide, by decide⟩ ⟨rfl, rfl⟩ h (fun r17 M16 h => ?_)
      obtain ⟨hS, h⟩ := h
      refine x_aload_n dL_law_183 2 rfl rfl ?_
      refine x_cVI (Z := y11_clear) (S := rm11_clear) (As := []) (rest := [.int r17]) dL_law_184 mlL_30 k11_clear rfl (b := (b + 154)) (hS.1 _ _ (sh_154 b)) rfl rfl (Nat.le_of_ble_eq_true rfl) ⟨⟨by decide, by decide⟩, by decide, by decide⟩ ⟨rfl, rfl⟩ h (fun r19 M18 h => ?_)
      obtain ⟨hS, h⟩ := h
      refine x_icmp_eq dL_law_187 (t := 461) (by decide) (fun g => ?_) (fun g => ?_)
      · have h := h.1 g
        refine x_iinc dL_law_461 3 rfl rfl (Nat.le_of_ble_eq_true rfl) (L' := [(3, .int (v3 + Int32.ofInt (6))), (0, .ref E.2.2.2.1), (1, .ref (b + 0)), (2, .ref (b + 154))]) rfl ?_
        refine x_goto dL_law_464 (t := 28) (by decide) ?_
        exact xm_X.sub [1, 2, 3, 0] rfl (h hS)
      · have h := h.2 g
        refine x_iconst dL_law_190 qi_0 ?_
        exact x_ret (r := (some (.int (0 : Int32)))) dL_law_191 (xm_rZ (Or.inl rfl)) rfl ⟨by decide, by decide⟩ (h hS)
    by_cases e2 : ((E.2.2.2.2.2 (Int32.toNatClampNeg v3)) &&& (15 : Int32)) = (2 : Int32)
    · have h := hsw.2.2.1 e2
      refine x_swIn dL_law_43 2 (by rw [e2]; rfl) ⟨by decide, by decide⟩ rfl (t := 192) (by decide) ?_
      refine x_aload_n dL_law_192 1 rfl rfl ?_
      refine x_cVI (Z := y0_prove) (S := rm0_prove) (As := []) (rest := []) dL_law_193 mlL_31 k0_prove rfl (b := (b + 0)) (hS.1 _ _ (sh_0 b)) rfl rfl (Nat.le_of_ble_eq_true rfl) ⟨⟨by decide, by decide⟩, by decide, by decide⟩ ⟨rfl, rfl⟩ h (fun r21 M20 h => ?_)
      obtain ⟨hS, h⟩ := h
      refine x_aload_n dL_law_196 2 rfl rfl ?_
      refine x_cVI (Z := y11_prove) (S := rm11_prove) (As := []) (rest := [.int r21]) dL_law_197 mlL_34 k11_prove rfl (b := (b + 154)) (hS.1 _ _ (sh_154 b)) rfl rfl (Nat.le_of_ble_eq_true rfl) ⟨⟨by decide, by decide⟩, by decide, by decide⟩ ⟨rfl, rfl⟩ h (fun r23 M22 h => ?_)
      obtain ⟨hS, h⟩ := h
      refine x_icmp_eq dL_law_200 (t := 461) (by decide) (fun g => ?_) (fun g => ?_)
      · have h := h.1 g
        refine x_iinc dL_law_461 3 rfl rfl (Nat.le_of_ble_eq_true rfl) (L' := [(3, .int (v3 + Int32.ofInt (6))), (0, .ref E.2.2.2.1), (1, .ref (b + 0)), (2, .ref (b + 154))]) rfl ?_
        refine x_goto dL_law_464 (t := 28) (by decide) ?_
        exact xm_X.sub [1, 2, 3, 0] rfl (h hS)
      · have h := h.2 g
        refine x_iconst dL_law_203 qi_0 ?_
        exact x_ret (r := (some (.int (0 : Int32)))) dL_law_204 (xm_rZ (Or.inl rfl)) rfl ⟨by decide, by decide⟩ (h hS)
    by_cases e3 : ((E.2.2.2.2.2 (Int32.toNatClampNeg v3)) &&& (15 : Int32)) = (3 : Int32)
    · have h := hsw.2.2.2.1 e3
      refine x_swIn dL_law_43 3 (by rw [e3]; rfl) ⟨by decide, by decide⟩ rfl (t := 205) (by decide) ?_
      refine x_aload_n dL_law_205 1 rfl rfl ?_
      refine x_aload_n dL_law_206 0 rfl rfl ?_
      refine x_iload_n dL_law_207 3 rfl rfl ?_
      refine x_iconst dL_law_208 qi_1 ?_
      refine x_iadd dL_law_209 ?_
      obtain ⟨g24, h⟩ := h
      refine x_sld dL_law_210 g24 ?_
      refine x_cVI (Z := y0_say) (S := rm0_say) (As := [.int (E.2.2.2.2.2 (Int32.toNatClampNeg (v3 + (1 : Int32))))]) (rest := []) dL_law_211 mlL_35 k0_say rfl (b := (b + 0)) (hS.1 _ _ (sh_0 b)) rfl rfl (Nat.le_of_ble_eq_true rfl) ⟨⟨by decide, by decide⟩, by decide, by decide⟩ ⟨rfl, rfl⟩ h (fun r26 M25 h => ?_)
      obtain ⟨hS, h⟩ := h
      refine x_aload_n dL_law_214 2 rfl rfl ?_
      refine x_aload_n dL_law_215 0 rfl rfl ?_
      refine x_iload_n dL_law_216 3 rfl rfl ?_
      refine x_iconst dL_law_217 qi_1 ?_
      refine x_iadd dL_law_218 ?_
      obtain ⟨g27, h⟩ := h
      refine x_sld dL_law_219 g27 ?_
      refine x_cVI (Z := y11_say) (S := rm11_say) (As := [.int (E.2.2.2.2.2 (Int32.toNatClampNeg (v3 + (1 : Int32))))]) (rest := [.int r26]) dL_law_220 mlL_39 k11_say rfl (b := (b + 154)) (hS.1 _ _ (sh_154 b)) rfl rfl (Nat.le_of_ble_eq_true rfl) ⟨⟨by decide, by decide⟩, by decide, by decide⟩ ⟨rfl, rfl⟩ h (fun r29 M28 h => ?_)
      obtain ⟨hS, h⟩ := h
      refine x_icmp_eq dL_law_223 (t := 461) (by decide) (fun g => ?_) (fun g => ?_)
      · have h := h.1 g
        refine x_iinc dL_law_461 3 rfl rfl (Nat.le_of_ble_eq_true rfl) (L' := [(3, .int (v3 + Int32.ofInt (6))), (0, .ref E.2.2.2.1), (1, .ref (b + 0)), (2, .ref (b + 154))]) rfl ?_
        refine x_goto dL_law_464 (t := 28) (by decide) ?_
        exact xm_X.sub [1, 2, 3, 0] rfl (h hS)
      · have h := h.2 g
        refine x_iconst dL_law_226 qi_0 ?_
        exact x_ret (r := (some (.int (0 : Int32)))) dL_law_227 (xm_rZ (Or.inl rfl)) rfl ⟨by decide, by decide⟩ (h hS)
    by_cases e4 : ((E.2.2.2.2.2 (Int32.toNatClampNeg v3)) &&& (15 : Int32)) = (4 : Int32)
    · have h := hsw.2.2.2.2.1 e4
      refine x_swIn dL_law_43 4 (by rw [e4]; rfl) ⟨by decide, by decide⟩ rfl (t := 228) (by decide) ?_
      refine x_aload_n dL_law_228 1 rfl rfl ?_
      refine x_aload_n dL_law_229 0 rfl rfl ?_
      refine x_iload_n dL_law_230 3 rfl rfl ?_
      refine x_iconst dL_law_231 qi_1 ?_
      refine x_iadd dL_law_232 ?_
      obtain ⟨g30, h⟩ := h
      refine x_sld dL_law_233 g30 ?_
      refine x_cVZ (Z := y0_cut) (S := rm0_cut) (As := [.int (E.2.2.2.2.2 (Int32.toNatClampNeg (v3 + (1 : Int32))))]) (rest := []) dL_law_234 mlL_40 k0_cut rfl (b := (b + 0)) (hS.1 _ _ (sh_0 b)) rfl rfl (Nat.le_of_ble_eq_true rfl) ⟨⟨by decide, by decide⟩, by decide, by decide⟩ ⟨rfl, rfl⟩ h (fun r32 M31 h => ?_)
      obtain ⟨hS, h⟩ := h
      refine x_aload_n dL_law_237 2 rfl rfl ?_
      refine x_aload_n dL_law_238 0 rfl rfl ?_
      refine x_iload_n dL_law_239 3 rfl rfl ?_
      refine x_iconst dL_law_240 qi_1 ?_
      refine x_iadd dL_law_241 ?_
      obtain ⟨g33, h⟩ := h
      refine x_sld dL_law_242 g33 ?_
      refine x_cVZ (Z := y11_cut) (S := rm11_cut) (As := [.int (E.2.2.2.2.2 (Int32.toNatClampNeg (v3 + (1 : Int32))))]) (rest := [.int (xz r32)]) dL_law_243 mlL_44 k11_cut rfl (b := (b + 154)) (hS.1 _ _ (sh_154 b)) rfl rfl (Nat.le_of_ble_eq_true rfl) ⟨⟨by decide, by decide⟩, by decide, by decide⟩ ⟨rfl, rfl⟩ h (fun r35 M34 h => ?_)
      obtain ⟨hS, h⟩ := h
      refine x_icmp_eq dL_law_246 (t := 461) (by decide) (fun g => ?_) (fun g => ?_)
      · have h := h.1 g
        refine x_iinc dL_law_461 3 rfl rfl (Nat.le_of_ble_eq_true rfl) (L' := [(3, .int (v3 + Int32.ofInt (6))), (0, .ref E.2.2.2.1), (1, .ref (b + 0)), (2, .ref (b + 154))]) rfl ?_
        refine x_goto dL_law_464 (t := 28) (by decide) ?_
        exact xm_X.sub [1, 2, 3, 0] rfl (h hS)
      · have h := h.2 g
        refine x_iconst dL_law_249 qi_0 ?_
        exact x_ret (r := (some (.int (0 : Int32)))) dL_law_250 (xm_rZ (Or.inl rfl)) rfl ⟨by decide, by decide⟩ (h hS)
    by_cases e5 : ((E.2.2.2.2.2 (Int32.toNatClampNeg v3)) &&& (15 : Int32)) = (5 : Int32)
    · have h := hsw.2.2.2.2.2.1 e5
      refine x_swIn dL_law_43 5 (by rw [e5]; rfl) ⟨by decide, by decide⟩ rfl (t := 251) (by decide) ?_
      refine x_aload_n dL_law_251 1 rfl rfl ?_
      refine x_aload_n dL_law_252 0 rfl rfl ?_
      refine x_iload_n dL_law_253 3 rfl rfl ?_
      refine x_iconst dL_law_254 qi_1 ?_
      refine x_iadd dL_law_255 ?_
      obtain ⟨g36, h⟩ := h
      refine x_sld dL_law_256 g36 ?_
      refine x_aload_n dL_law_257 0 rfl rfl ?_
      refine x_iload_n dL_law_258 3 rfl rfl ?_
      refine x_iconst dL_law_259 qi_2 ?_
      refine x_iadd dL_law_260 ?_
      obtain ⟨g37, h⟩ := h
      refine x_sld dL_law_261 g37 ?_
      refine x_cVZ (Z := y0_change) (S := rm0_change) (As := [.int (E.2.2.2.2.2 (Int32.toNatClampNeg (v3 + (1 : Int32)))), .int (E.2.2.2.2.2 (Int32.toNatClampNeg (v3 + (2 : Int32))))]) (rest := []) dL_law_262 mlL_45 k0_change rfl (b := (b + 0)) (hS.1 _ _ (sh_0 b)) rfl rfl (Nat.le_of_ble_eq_true rfl) ⟨⟨by decide, by decide⟩, by decide, by decide⟩ ⟨rfl, rfl⟩ h (fun r39 M38 h => ?_)
      obtain ⟨hS, h⟩ := h
      refine x_aload_n dL_law_265 2 rfl rfl ?_
      refine x_aload_n dL_law_266 0 rfl rfl ?_
      refine x_iload_n dL_law_267 3 rfl rfl ?_
      refine x_iconst dL_law_268 qi_1 ?_
      refine x_iadd dL_law_269 ?_
      obtain ⟨g40, h⟩ := h
      refine x_sld dL_law_270 g40 ?_
      refine x_aload_n dL_law_271 0 rfl rfl ?_
      refine x_iload_n dL_law_272 3 rfl rfl ?_
      refine x_iconst dL_law_273 qi_2 ?_
      refine x_iadd dL_law_274 ?_
      obtain ⟨g41, h⟩ := h
      refine x_sld dL_law_275 g41 ?_
      refine x_cVZ (Z := y11_change) (S := rm11_change) (As := [.int (E.2.2.2.2.2 (Int32.toNatClampNeg (v3 + (1 : Int32)))), .int (E.2.2.2.2.2 (Int32.toNatClampNeg (v3 + (2 : Int32))))]) (rest := [.int (xz r39)]) dL_law_276 mlL_49 k11_change rfl (b := (b + 154)) (hS.1 _ _ (sh_154 b)) rfl rfl (Nat.le_of_ble_eq_true rfl) ⟨⟨by decide, by decide⟩, by decide, by decide⟩ ⟨rfl, rfl⟩ h (fun r43 M42 h => ?_)
      obtain ⟨hS, h⟩ := h
      refine x_icmp_eq dL_law_279 (t := 461) (by decide) (fun g => ?_) (fun g => ?_)
      · have h := h.1 g
        refine x_iinc dL_law_461 3 rfl rfl (Nat.le_of_ble_eq_true rfl) (L' := [(3, .int (v3 + Int32.ofInt (6))), (0, .ref E.2.2.2.1), (1, .ref (b + 0)), (2, .ref (b + 154))]) rfl ?_
        refine x_goto dL_law_464 (t := 28) (by decide) ?_
        exact xm_X.sub [1, 2, 3, 0] rfl (h hS)
      · have h := h.2 g
        refine x_iconst dL_law_282 qi_0 ?_
        exact x_ret (r := (some (.int (0 : Int32)))) dL_law_283 (xm_rZ (Or.inl rfl)) rfl ⟨by decide, by decide⟩ (h hS)
    by_cases e6 : ((E.2.2.2.2.2 (Int32.toNatClampNeg v3)) &&& (15 : Int32)) = (6 : Int32)
    · have h := hsw.2.2.2.2.2.2.1 e6
      refine x_swIn dL_law_43 6 (by rw [e6]; rfl) ⟨by decide, by decide⟩ rfl (t := 284) (by decide) ?_
      refine x_aload_n dL_law_284 1 rfl rfl ?_
      refine x_cVI (Z := y0_length) (S := rm0_length) (As := []) (rest := []) dL_law_285 mlL_50 k0_length rfl (b := (b + 0)) (hS.1 _ _ (sh_0 b)) rfl rfl (Nat.le_of_ble_eq_true rfl) ⟨⟨by decide, by decide⟩, by decide, by decide⟩ ⟨rfl, rfl⟩ h (fun r45 M44 h => ?_)
      obtain ⟨hS, h⟩ := h
      refine x_aload_n dL_law_288 2 rfl rfl ?_
      refine x_cVI (Z := y11_length) (S := rm11_length) (As := []) (rest := [.int r45]) dL_law_289 mlL_53 k11_length rfl (b := (b + 154)) (hS.1 _ _ (sh_154 b)) rfl rfl (Nat.le_of_ble_eq_true rfl) ⟨⟨by decide, by decide⟩, by decide, by decide⟩ ⟨rfl, rfl⟩ h (fun r47 M46 h => ?_)
      obtain ⟨hS, h⟩ := h
      refine x_icmp_eq dL_law_292 (t := 461) (by decide) (fun g => ?_) (fun g => ?_)
      · have h := h.1 g
        refine x_iinc dL_law_461 3 rfl rfl (Nat.le_of_ble_eq_true rfl) (L' := [(3, .int (v3 + Int32.ofInt (6))), (0, .ref E.2.2.2.1), (1, .ref (b + 0)), (2, .ref (b + 154))]) rfl ?_
        refine x_goto dL_law_464 (t := 28) (by decide) ?_
        exact xm_X.sub [1, 2, 3, 0] rfl (h hS)
      · have h := h.2 g
        refine x_iconst dL_law_295 qi_0 ?_
        exact x_ret (r := (some (.int (0 : Int32)))) dL_law_296 (xm_rZ (Or.inl rfl)) rfl ⟨by decide, by decide⟩ (h hS)
    by_cases e7 : ((E.2.2.2.2.2 (Int32.toNatClampNeg v3)) &&& (15 : Int32)) = (7 : Int32)
    · have h := hsw.2.2.2.2.2.2.2.1 e7
      refine x_swIn dL_law_43 7 (by rw [e7]; rfl) ⟨by decide, by decide⟩ rfl (t := 297) (by decide) ?_
      refine x_aload_n dL_law_297 1 rfl rfl ?_
      refine x_aload_n dL_law_298 0 rfl rfl ?_
      refine x_iload_n dL_law_299 3 rfl rfl ?_
      refine x_iconst dL_law_300 qi_1 ?_
      refine x_iadd dL_law_301 ?_
      obtain ⟨g48, h⟩ := h
      refine x_sld dL_law_302 g48 ?_
      refine x_cVI (Z := y0_at) (S := rm0_at) (As := [.int (E.2.2.2.2.2 (Int32.toNatClampNeg (v3 + (1 : Int32))))]) (rest := []) dL_law_303 mlL_54 k0_at rfl (b := (b + 0)) (hS.1 _ _ (sh_0 b)) rfl rfl (Nat.le_of_ble_eq_true rfl) ⟨⟨by decide, by decide⟩, by decide, by decide⟩ ⟨rfl, rfl⟩ h (fun r50 M49 h => ?_)
      obtain ⟨hS, h⟩ := h
      refine x_aload_n dL_law_306 2 rfl rfl ?_
      refine x_aload_n dL_law_307 0 rfl rfl ?_
      refine x_iload_n dL_law_308 3 rfl rfl ?_
      refine x_iconst dL_law_309 qi_1 ?_
      refine x_iadd dL_law_310 ?_
      obtain ⟨g51, h⟩ := h
      refine x_sld dL_law_311 g51 ?_
      refine x_cVI (Z := y11_at) (S := rm11_at) (As := [.int (E.2.2.2.2.2 (Int32.toNatClampNeg (v3 + (1 : Int32))))]) (rest := [.int r50]) dL_law_312 mlL_57 k11_at rfl (b := (b + 154)) (hS.1 _ _ (sh_154 b)) rfl rfl (Nat.le_of_ble_eq_true rfl) ⟨⟨by decide, by decide⟩, by decide, by decide⟩ ⟨rfl, rfl⟩ h (fun r53 M52 h => ?_)
      obtain ⟨hS, h⟩ := h
      refine x_icmp_eq dL_law_315 (t := 461) (by decide) (fun g => ?_) (fun g => ?_)
      · have h := h.1 g
        refine x_iinc dL_law_461 3 rfl rfl (Nat.le_of_ble_eq_true rfl) (L' := [(3, .int (v3 + Int32.ofInt (6))), (0, .ref E.2.2.2.1), (1, .ref (b + 0)), (2, .ref (b + 154))]) rfl ?_
        refine x_goto dL_law_464 (t := 28) (by decide) ?_
        exact xm_X.sub [1, 2, 3, 0] rfl (h hS)
      · have h := h.2 g
        refine x_iconst dL_law_318 qi_0 ?_
        exact x_ret (r := (some (.int (0 : Int32)))) dL_law_319 (xm_rZ (Or.inl rfl)) rfl ⟨by decide, by decide⟩ (h hS)
    by_cases e8 : ((E.2.2.2.2.2 (Int32.toNatClampNeg v3)) &&& (15 : Int32)) = (8 : Int32)
    · have h := hsw.2.2.2.2.2.2.2.2.1 e8
      refine x_swIn dL_law_43 8 (by rw [e8]; rfl) ⟨by decide, by decide⟩ rfl (t := 320) (by decide) ?_
      refine x_aload_n dL_law_320 1 rfl rfl ?_
      refine x_cVI (Z := y0_check) (S := rm0_check) (As := []) (rest := []) dL_law_321 mlL_58 k0_check rfl (b := (b + 0)) (hS.1 _ _ (sh_0 b)) rfl rfl (Nat.le_of_ble_eq_true rfl) ⟨⟨by decide, by decide⟩, by decide, by decide⟩ ⟨rfl, rfl⟩ h (fun r55 M54 h => ?_)
      obtain ⟨hS, h⟩ := h
      refine x_aload_n dL_law_324 2 rfl rfl ?_
      refine x_cVI (Z := y11_check) (S := rm11_check) (As := []) (rest := [.int r55]) dL_law_325 mlL_61 k11_check rfl (b := (b + 154)) (hS.1 _ _ (sh_154 b)) rfl rfl (Nat.le_of_ble_eq_true rfl) ⟨⟨by decide, by decide⟩, by decide, by decide⟩ ⟨rfl, rfl⟩ h (fun r57 M56 h => ?_)
      obtain ⟨hS, h⟩ := h
      refine x_icmp_eq dL_law_328 (t := 461) (by decide) (fun g => ?_) (fun g => ?_)
      · have h := h.1 g
        refine x_iinc dL_law_461 3 rfl rfl (Nat.le_of_ble_eq_true rfl) (L' := [(3, .int (v3 + Int32.ofInt (6))), (0, .ref E.2.2.2.1), (1, .ref (b + 0)), (2, .ref (b + 154))]) rfl ?_
        refine x_goto dL_law_464 (t := 28) (by decide) ?_
        exact xm_X.sub [1, 2, 3, 0] rfl (h hS)
      · have h := h.2 g
        refine x_iconst dL_law_331 qi_0 ?_
        exact x_ret (r := (some (.int (0 : Int32)))) dL_law_332 (xm_rZ (Or.inl rfl)) rfl ⟨by decide, by decide⟩ (h hS)
    by_cases e9 : ((E.2.2.2.2.2 (Int32.toNatClampNeg v3)) &&& (15 : Int32)) = (9 : Int32)
    · have h := hsw.2.2.2.2.2.2.2.2.2.1 e9
      refine x_swIn dL_law_43 9 (by rw [e9]; rfl) ⟨by decide, by decide⟩ rfl (t := 333) (by decide) ?_
      refine x_aload_n dL_law_333 1 rfl rfl ?_
      refine x_cVI (Z := y0_place) (S := rm0_place) (As := []) (rest := []) dL_law_334 mlL_62 k0_place rfl (b := (b + 0)) (hS.1 _ _ (sh_0 b)) rfl rfl (Nat.le_of_ble_eq_true rfl) ⟨⟨by decide, by decide⟩, by decide, by decide⟩ ⟨rfl, rfl⟩ h (fun r59 M58 h => ?_)
      obtain ⟨hS, h⟩ := h
      refine x_aload_n dL_law_337 2 rfl rfl ?_
      refine x_cVI (Z := y11_place) (S := rm11_place) (As := []) (rest := [.int r59]) dL_law_338 mlL_65 k11_place rfl (b := (b + 154)) (hS.1 _ _ (sh_154 b)) rfl rfl (Nat.le_of_ble_eq_true rfl) ⟨⟨by decide, by decide⟩, by decide, by decide⟩ ⟨rfl, rfl⟩ h (fun r61 M60 h => ?_)
      obtain ⟨hS, h⟩ := h
      refine x_icmp_eq dL_law_341 (t := 461) (by decide) (fun g => ?_) (fun g => ?_)
      · have h := h.1 g
        refine x_iinc dL_law_461 3 rfl rfl (Nat.le_of_ble_eq_true rfl) (L' := [(3, .int (v3 + Int32.ofInt (6))), (0, .ref E.2.2.2.1), (1, .ref (b + 0)), (2, .ref (b + 154))]) rfl ?_
        refine x_goto dL_law_464 (t := 28) (by decide) ?_
        exact xm_X.sub [1, 2, 3, 0] rfl (h hS)
      · have h := h.2 g
        refine x_iconst dL_law_344 qi_0 ?_
        exact x_ret (r := (some (.int (0 : Int32)))) dL_law_345 (xm_rZ (Or.inl rfl)) rfl ⟨by decide, by decide⟩ (h hS)
    by_cases e10 : ((E.2.2.2.2.2 (Int32.toNatClampNeg v3)) &&& (15 : Int32)) = (10 : Int32)
    · have h := hsw.2.2.2.2.2.2.2.2.2.2.1 e10
      refine x_swIn dL_law_43 10 (by rw [e10]; rfl) ⟨by decide, by decide⟩ rfl (t := 346) (by decide) ?_
      refine x_aload_n dL_law_346 1 rfl rfl ?_
      refine x_aload_n dL_law_347 0 rfl rfl ?_
      refine x_iload_n dL_law_348 3 rfl rfl ?_
      refine x_iconst dL_law_349 qi_1 ?_
      refine x_iadd dL_law_350 ?_
      obtain ⟨g62, h⟩ := h
      refine x_sld dL_law_351 g62 ?_
      refine x_i2l dL_law_352 ?_
      refine x_bipush dL_law_353 qb_32 ?_
      refine x_lshl dL_law_355 ?_
      refine x_aload_n dL_law_356 0 rfl rfl ?_
      refine x_iload_n dL_law_357 3 rfl rfl ?_
      refine x_iconst dL_law_358 qi_2 ?_
      refine x_iadd dL_law_359 ?_
      obtain ⟨g63, h⟩ := h
      refine x_sld dL_law_360 g63 ?_
      refine x_i2l dL_law_361 ?_
      refine x_ldc2 dL_law_362 lcL_66 ?_
      refine x_land dL_law_365 ?_
      refine x_lor dL_law_366 ?_
      refine x_aload_n dL_law_367 0 rfl rfl ?_
      refine x_iload_n dL_law_368 3 rfl rfl ?_
      refine x_iconst dL_law_369 qi_3 ?_
      refine x_iadd dL_law_370 ?_
      obtain ⟨g64, h⟩ := h
      refine x_sld dL_law_371 g64 ?_
      refine x_cVI (Z := y0_receive) (S := rm0_receive) (As := [.long (((Int32.toInt64 (E.2.2.2.2.2 (Int32.toNatClampNeg (v3 + (1 : Int32))))) <<< (Int32.toInt64 (32 : Int32) &&& 63)) ||| ((Int32.toInt64 (E.2.2.2.2.2 (Int32.toNatClampNeg (v3 + (2 : Int32))))) &&& (4294967295 : Int64))), .int (E.2.2.2.2.2 (Int32.toNatClampNeg (v3 + (3 : Int32))))]) (rest := []) dL_law_372 mlL_68 k0_receive rfl (b := (b + 0)) (hS.1 _ _ (sh_0 b)) rfl rfl (Nat.le_of_ble_eq_true rfl) ⟨⟨by decide, by decide⟩, by decide, by decide⟩ ⟨rfl, rfl⟩ h (fun r66 M65 h => ?_)
      obtain ⟨hS, h⟩ := h
      refine x_aload_n dL_law_375 2 rfl rfl ?_
      refine x_aload_n dL_law_376 0 rfl rfl ?_
      refine x_iload_n dL_law_377 3 rfl rfl ?_
      refine x_iconst dL_law_378 qi_1 ?_
      refine x_iadd dL_law_379 ?_
      obtain ⟨g67, h⟩ := h
      refine x_sld dL_law_380 g67 ?_
      refine x_i2l dL_law_381 ?_
      refine x_bipush dL_law_382 qb_32 ?_
      refine x_lshl dL_law_384 ?_
      refine x_aload_n dL_law_385 0 rfl rfl ?_
      refine x_iload_n dL_law_386 3 rfl rfl ?_
      refine x_iconst dL_law_387 qi_2 ?_
      refine x_iadd dL_law_388 ?_
      obtain ⟨g68, h⟩ := h
      refine x_sld dL_law_389 g68 ?_
      refine x_i2l dL_law_390 ?_
      refine x_ldc2 dL_law_391 lcL_66 ?_
      refine x_land dL_law_394 ?_
      refine x_lor dL_law_395 ?_
      refine x_aload_n dL_law_396 0 rfl rfl ?_
      refine x_iload_n dL_law_397 3 rfl rfl ?_
      refine x_iconst dL_law_398 qi_3 ?_
      refine x_iadd dL_law_399 ?_
      obtain ⟨g69, h⟩ := h
      refine x_sld dL_law_400 g69 ?_
      refine x_cVI (Z := y11_receive) (S := rm11_receive) (As := [.long (((Int32.toInt64 (E.2.2.2.2.2 (Int32.toNatClampNeg (v3 + (1 : Int32))))) <<< (Int32.toInt64 (32 : Int32) &&& 63)) ||| ((Int32.toInt64 (E.2.2.2.2.2 (Int32.toNatClampNeg (v3 + (2 : Int32))))) &&& (4294967295 : Int64))), .int (E.2.2.2.2.2 (Int32.toNatClampNeg (v3 + (3 : Int32))))]) (rest := [.int r66]) dL_law_401 mlL_72 k11_receive rfl (b := (b + 154)) (hS.1 _ _ (sh_154 b)) rfl rfl (Nat.le_of_ble_eq_true rfl) ⟨⟨by decide, by decide⟩, by decide, by decide⟩ ⟨rfl, rfl⟩ h (fun r71 M70 h => ?_)
      obtain ⟨hS, h⟩ := h
      refine x_icmp_eq dL_law_404 (t := 461) (by decide) (fun g => ?_) (fun g => ?_)
      · have h := h.1 g
        refine x_iinc dL_law_461 3 rfl rfl (Nat.le_of_ble_eq_true rfl) (L' := [(3, .int (v3 + Int32.ofInt (6))), (0, .ref E.2.2.2.1), (1, .ref (b + 0)), (2, .ref (b + 154))]) rfl ?_
        refine x_goto dL_law_464 (t := 28) (by decide) ?_
        exact xm_X.sub [1, 2, 3, 0] rfl (h hS)
      · have h := h.2 g
        refine x_iconst dL_law_407 qi_0 ?_
        exact x_ret (r := (some (.int (0 : Int32)))) dL_law_408 (xm_rZ (Or.inl rfl)) rfl ⟨by decide, by decide⟩ (h hS)
    by_cases e11 : ((E.2.2.2.2.2 (Int32.toNatClampNeg v3)) &&& (15 : Int32)) = (11 : Int32)
    · have h := hsw.2.2.2.2.2.2.2.2.2.2.2.1 e11
      refine x_swIn dL_law_43 11 (by rw [e11]; rfl) ⟨by decide, by decide⟩ rfl (t := 409) (by decide) ?_
      refine x_aload_n dL_law_409 1 rfl rfl ?_
      refine x_cVI (Z := y0_drop) (S := rm0_drop) (As := []) (rest := []) dL_law_410 mlL_73 k0_drop rfl (b := (b + 0)) (hS.1 _ _ (sh_0 b)) rfl rfl (Nat.le_of_ble_eq_true rfl) ⟨⟨by decide, by decide⟩, by decide, by decide⟩ ⟨rfl, rfl⟩ h (fun r73 M72 h => ?_)
      obtain ⟨hS, h⟩ := h
      refine x_aload_n dL_law_413 2 rfl rfl ?_
      refine x_cVI (Z := y11_drop) (S := rm11_drop) (As := []) (rest := [.int r73]) dL_law_414 mlL_76 k11_drop rfl (b := (b + 154)) (hS.1 _ _ (sh_154 b)) rfl rfl (Nat.le_of_ble_eq_true rfl) ⟨⟨by decide, by decide⟩, by decide, by decide⟩ ⟨rfl, rfl⟩ h (fun r75 M74 h => ?_)
      obtain ⟨hS, h⟩ := h
      refine x_icmp_eq dL_law_417 (t := 461) (by decide) (fun g => ?_) (fun g => ?_)
      · have h := h.1 g
        refine x_iinc dL_law_461 3 rfl rfl (Nat.le_of_ble_eq_true rfl) (L' := [(3, .int (v3 + Int32.ofInt (6))), (0, .ref E.2.2.2.1), (1, .ref (b + 0)), (2, .ref (b + 154))]) rfl ?_
        refine x_goto dL_law_464 (t := 28) (by decide) ?_
        exact xm_X.sub [1, 2, 3, 0] rfl (h hS)
      · have h := h.2 g
        refine x_iconst dL_law_420 qi_0 ?_
        exact x_ret (r := (some (.int (0 : Int32)))) dL_law_421 (xm_rZ (Or.inl rfl)) rfl ⟨by decide, by decide⟩ (h hS)
    by_cases e12 : ((E.2.2.2.2.2 (Int32.toNatClampNeg v3)) &&& (15 : Int32)) = (12 : Int32)
    · have h := hsw.2.2.2.2.2.2.2.2.2.2.2.2.1 e12
      refine x_swIn dL_law_43 12 (by rw [e12]; rfl) ⟨by decide, by decide⟩ rfl (t := 422) (by decide) ?_
      refine x_aload_n dL_law_422 1 rfl rfl ?_
      refine x_cVI (Z := y0_run) (S := rm0_run) (As := []) (rest := []) dL_law_423 mlL_77 k0_run rfl (b := (b + 0)) (hS.1 _ _ (sh_0 b)) rfl rfl (Nat.le_of_ble_eq_true rfl) ⟨⟨by decide, by decide⟩, by decide, by decide⟩ ⟨rfl, rfl⟩ h (fun r77 M76 h => ?_)
      obtain ⟨hS, h⟩ := h
      refine x_aload_n dL_law_426 2 rfl rfl ?_
      refine x_cVI (Z := y11_run) (S := rm11_run) (As := []) (rest := [.int r77]) dL_law_427 mlL_80 k11_run rfl (b := (b + 154)) (hS.1 _ _ (sh_154 b)) rfl rfl (Nat.le_of_ble_eq_true rfl) ⟨⟨by decide, by decide⟩, by decide, by decide⟩ ⟨rfl, rfl⟩ h (fun r79 M78 h => ?_)
      obtain ⟨hS, h⟩ := h
      refine x_icmp_eq dL_law_430 (t := 461) (by decide) (fun g => ?_) (fun g => ?_)
      · have h := h.1 g
        refine x_iinc dL_law_461 3 rfl rfl (Nat.le_of_ble_eq_true rfl) (L' := [(3, .int (v3 + Int32.ofInt (6))), (0, .ref E.2.2.2.1), (1, .ref (b + 0)), (2, .ref (b + 154))]) rfl ?_
        refine x_goto dL_law_464 (t := 28) (by decide) ?_
        exact xm_X.sub [1, 2, 3, 0] rfl (h hS)
      · have h := h.2 g
        refine x_iconst dL_law_433 qi_0 ?_
        exact x_ret (r := (some (.int (0 : Int32)))) dL_law_434 (xm_rZ (Or.inl rfl)) rfl ⟨by decide, by decide⟩ (h hS)
    by_cases e13 : ((E.2.2.2.2.2 (Int32.toNatClampNeg v3)) &&& (15 : Int32)) = (13 : Int32)
    · have h := hsw.2.2.2.2.2.2.2.2.2.2.2.2.2.1 e13
      refine x_swIn dL_law_43 13 (by rw [e13]; rfl) ⟨by decide, by decide⟩ rfl (t := 435) (by decide) ?_
      refine x_aload_n dL_law_435 1 rfl rfl ?_
      refine x_cVI (Z := y0_result) (S := rm0_result) (As := []) (rest := []) dL_law_436 mlL_81 k0_result rfl (b := (b + 0)) (hS.1 _ _ (sh_0 b)) rfl rfl (Nat.le_of_ble_eq_true rfl) ⟨⟨by decide, by decide⟩, by decide, by decide⟩ ⟨rfl, rfl⟩ h (fun r81 M80 h => ?_)
      obtain ⟨hS, h⟩ := h
      refine x_aload_n dL_law_439 2 rfl rfl ?_
      refine x_cVI (Z := y11_result) (S := rm11_result) (As := []) (rest := [.int r81]) dL_law_440 mlL_84 k11_result rfl (b := (b + 154)) (hS.1 _ _ (sh_154 b)) rfl rfl (Nat.le_of_ble_eq_true rfl) ⟨⟨by decide, by decide⟩, by decide, by decide⟩ ⟨rfl, rfl⟩ h (fun r83 M82 h => ?_)
      obtain ⟨hS, h⟩ := h
      refine x_icmp_eq dL_law_443 (t := 461) (by decide) (fun g => ?_) (fun g => ?_)
      · have h := h.1 g
        refine x_iinc dL_law_461 3 rfl rfl (Nat.le_of_ble_eq_true rfl) (L' := [(3, .int (v3 + Int32.ofInt (6))), (0, .ref E.2.2.2.1), (1, .ref (b + 0)), (2, .ref (b + 154))]) rfl ?_
        refine x_goto dL_law_464 (t := 28) (by decide) ?_
        exact xm_X.sub [1, 2, 3, 0] rfl (h hS)
      · have h := h.2 g
        refine x_iconst dL_law_446 qi_0 ?_
        exact x_ret (r := (some (.int (0 : Int32)))) dL_law_447 (xm_rZ (Or.inl rfl)) rfl ⟨by decide, by decide⟩ (h hS)
    by_cases e14 : ((E.2.2.2.2.2 (Int32.toNatClampNeg v3)) &&& (15 : Int32)) = (14 : Int32)
    · have h := hsw.2.2.2.2.2.2.2.2.2.2.2.2.2.2.1 e14
      refine x_swIn dL_law_43 14 (by rw [e14]; rfl) ⟨by decide, by decide⟩ rfl (t := 448) (by decide) ?_
      refine x_aload_n dL_law_448 1 rfl rfl ?_
      refine x_cVI (Z := y0_steps) (S := rm0_steps) (As := []) (rest := []) dL_law_449 mlL_85 k0_steps rfl (b := (b + 0)) (hS.1 _ _ (sh_0 b)) rfl rfl (Nat.le_of_ble_eq_true rfl) ⟨⟨by decide, by decide⟩, by decide, by decide⟩ ⟨rfl, rfl⟩ h (fun r85 M84 h => ?_)
      obtain ⟨hS, h⟩ := h
      refine x_aload_n dL_law_452 2 rfl rfl ?_
      refine x_cVI (Z := y11_steps) (S := rm11_steps) (As := []) (rest := [.int r85]) dL_law_453 mlL_88 k11_steps rfl (b := (b + 154)) (hS.1 _ _ (sh_154 b)) rfl rfl (Nat.le_of_ble_eq_true rfl) ⟨⟨by decide, by decide⟩, by decide, by decide⟩ ⟨rfl, rfl⟩ h (fun r87 M86 h => ?_)
      obtain ⟨hS, h⟩ := h
      refine x_icmp_eq dL_law_456 (t := 461) (by decide) (fun g => ?_) (fun g => ?_)
      · have h := h.1 g
        refine x_iinc dL_law_461 3 rfl rfl (Nat.le_of_ble_eq_true rfl) (L' := [(3, .int (v3 + Int32.ofInt (6))), (0, .ref E.2.2.2.1), (1, .ref (b + 0)), (2, .ref (b + 154))]) rfl ?_
        refine x_goto dL_law_464 (t := 28) (by decide) ?_
        exact xm_X.sub [1, 2, 3, 0] rfl (h hS)
      · have h := h.2 g
        refine x_iconst dL_law_459 qi_0 ?_
        exact x_ret (r := (some (.int (0 : Int32)))) dL_law_460 (xm_rZ (Or.inl rfl)) rfl ⟨by decide, by decide⟩ (h hS)
    have h := hsw.2.2.2.2.2.2.2.2.2.2.2.2.2.2.2 ⟨e0, e1, e2, e3, e4, e5, e6, e7, e8, e9, e10, e11, e12, e13, e14⟩
    have n0 := lv_neT (a := 0) e0 (by decide)
    have n1 := lv_neT (a := 1) e1 (by decide)
    have n2 := lv_neT (a := 2) e2 (by decide)
    have n3 := lv_neT (a := 3) e3 (by decide)
    have n4 := lv_neT (a := 4) e4 (by decide)
    have n5 := lv_neT (a := 5) e5 (by decide)
    have n6 := lv_neT (a := 6) e6 (by decide)
    have n7 := lv_neT (a := 7) e7 (by decide)
    have n8 := lv_neT (a := 8) e8 (by decide)
    have n9 := lv_neT (a := 9) e9 (by decide)
    have n10 := lv_neT (a := 10) e10 (by decide)
    have n11 := lv_neT (a := 11) e11 (by decide)
    have n12 := lv_neT (a := 12) e12 (by decide)
    have n13 := lv_neT (a := 13) e13 (by decide)
    have n14 := lv_neT (a := 14) e14 (by decide)
    refine x_swOut dL_law_43 (by omega) (t := 461) (by decide) ?_
    refine x_iinc dL_law_461 3 rfl rfl (Nat.le_of_ble_eq_true rfl) (L' := [(3, .int (v3 + Int32.ofInt (6))), (0, .ref E.2.2.2.1), (1, .ref (b + 0)), (2, .ref (b + 154))]) rfl ?_
    refine x_goto dL_law_464 (t := 28) (by decide) ?_
    exact xm_X.sub [1, 2, 3, 0] rfl (h hS)
