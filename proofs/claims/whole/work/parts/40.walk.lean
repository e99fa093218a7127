set_option maxRecDepth 20000 in
theorem t11_instruction_0 {l : Launch} {E : xm_E} {b : Nat} {c p : Bool} {Q : Option Value → xm_M → Prop} (M : xm_M) (v1 : Int32) (v2 : Int32) (v3 : Int32) (v4 : Int32) (v5 : Int32) (hS : xm_st b c p M)
  (h : ((v1 < 0 → (xm_st b c p M → Q (some (.int (-1 : Int32))) M)) ∧ (¬ v1 < 0 → ((v1 ≤ (16 : Int32) → ((¬ (xm_gi M (b + 154) 1) = (48 : Int32) → (vp_in (xm_gi M (b + 154) 1) 48 ∧ (∀ M2 : xm_M, M2 = (xm_pi M (b + 155) (Int32.toNatClampNeg (xm_gi M (b + 154) 1)) v1) → (vp_in (xm_gi M2 (b + 154) 1) 48 ∧ (∀ M5 : xm_M, M5 = (xm_pi M2 (b + 156) (Int32.toNatClampNeg (xm_gi M2 (b + 154) 1)) v2) → (vp_in (xm_gi M5 (b + 154) 1) 48 ∧ (∀ M8 : xm_M, M8 = (xm_pi M5 (b + 157) (Int32.toNatClampNeg (xm_gi M5 (b + 154) 1)) v3) → (vp_in (xm_gi M8 (b + 154) 1) 48 ∧ (∀ M11 : xm_M, M11 = (xm_pi M8 (b + 158) (Int32.toNatClampNeg (xm_gi M8 (b + 154) 1)) v4) → (vp_in (xm_gi M11 (b + 154) 1) 48 ∧ (∀ M14 : xm_M, M14 = (xm_pi M11 (b + 159) (Int32.toNatClampNeg (xm_gi M11 (b + 154) 1)) v5) → (∀ M16 : xm_M, M16 = (xm_pi M14 (b + 154) 1 ((xm_gi M14 (b + 154) 1) + (1 : Int32))) → (xm_st b c p M16 → Q (some (.int (xm_gi M16 (b + 154) 1))) M16))))))))))))) ∧ ((xm_gi M (b + 154) 1) = (48 : Int32) → (xm_st b c p M → Q (some (.int (-3 : Int32))) M)))) ∧ (¬ v1 ≤ (16 : Int32) → (xm_st b c p M → Q (some (.int (-1 : Int32))) M)))))) :
  xm_X l E y11_instruction rm11_instruction Q 0 [(0, .ref (b + 154)), (1, .int v1), (2, .int v2), (3, .int v3), (4, .int v4), (5, .int v5)] [] 0 0 M := by
  refine x_iload_n d11_instruction_0 1 rfl rfl ?_
  refine x_if_lt d11_instruction_1 (t := 10) (by decide) (fun g => ?_) (fun g => ?_)
  · have h := h.1 g
    refine x_iconst d11_instruction_10 qi_n1 ?_
    exact x_ret (r := (some (.int (-1 : Int32)))) d11_instruction_11 xm_rI rfl ⟨Nat.le_refl _, Nat.le_refl _⟩ (h hS)
  · have h := h.2 g
    refine x_iload_n d11_instruction_4 1 rfl rfl ?_
    refine x_bipush d11_instruction_5 qb_16 ?_
    refine x_icmp_le d11_instruction_7 (t := 12) (by decide) (fun g => ?_) (fun g => ?_)
    · have h := h.1 g
      refine x_aload_n d11_instruction_12 0 rfl rfl ?_
      refine x_getI d11_instruction_13 fl11_89 (fun _ _ => rfl) (hS.1 _ _ (sh_154 b)) ?_
      refine x_bipush d11_instruction_16 qb_48 ?_
      refine x_icmp_ne d11_instruction_18 (t := 24) (by decide) (fun g => ?_) (fun g => ?_)
      · have h := h.1 g
        refine x_aload_n d11_instruction_24 0 rfl rfl ?_
        refine x_getR d11_instruction_25 fl11_7 (fun _ _ => rfl) (hS.1 _ _ (sh_154 b)) (hS.2.1 _ _ _ (pt_154_2 b)) ?_
        refine x_aload_n d11_instruction_28 0 rfl rfl ?_
        refine x_getI d11_instruction_29 fl11_89 (fun _ _ => rfl) (hS.1 _ _ (sh_154 b)) ?_
        refine x_iload_n d11_instruction_32 1 rfl rfl ?_
        obtain ⟨g1, h⟩ := h
        refine x_iast d11_instruction_33 (hS.1 _ _ (sh_155 b)) g1 ?_
        refine xm_nm (fun M2 e3 => ?_)
        have h := h M2 e3
        have hS : xm_st b c p M2 := by rw [e3]; exact hS.pi
        refine x_aload_n d11_instruction_34 0 rfl rfl ?_
        refine x_getR d11_instruction_35 fl11_13 (fun _ _ => rfl) (hS.1 _ _ (sh_154 b)) (hS.2.1 _ _ _ (pt_154_3 b)) ?_
        refine x_aload_n d11_instruction_38 0 rfl rfl ?_
        refine x_getI d11_instruction_39 fl11_89 (fun _ _ => rfl) (hS.1 _ _ (sh_154 b)) ?_
        refine x_iload_n d11_instruction_42 2 rfl rfl ?_
        obtain ⟨g4, h⟩ := h
        refine x_iast d11_instruction_43 (hS.1 _ _ (sh_156 b)) g4 ?_
        refine xm_nm (fun M5 e6 => ?_)
        have h := h M5 e6
        have hS : xm_st b c p M5 := by rw [e6]; exact hS.pi
        refine x_aload_n d11_instruction_44 0 rfl rfl ?_
        refine x_getR d11_instruction_45 fl11_16 (fun _ _ => rfl) (hS.1 _ _ (sh_154 b)) (hS.2.1 _ _ _ (pt_154_4 b)) ?_
        refine x_aload_n d11_instruction_48 0 rfl rfl ?_
        refine x_getI d11_instruction_49 fl11_89 (fun _ _ => rfl) (hS.1 _ _ (sh_154 b)) ?_
        refine x_iload_n d11_instruction_52 3 rfl rfl ?_
        obtain ⟨g7, h⟩ := h
        refine x_iast d11_instruction_53 (hS.1 _ _ (sh_157 b)) g7 ?_
        refine xm_nm (fun M8 e9 => ?_)
        have h := h M8 e9
        have hS : xm_st b c p M8 := by rw [e9]; exact hS.pi
        refine x_aload_n d11_instruction_54 0 rfl rfl ?_
        refine x_getR d11_instruction_55 fl11_19 (fun _ _ => rfl) (hS.1 _ _ (sh_154 b)) (hS.2.1 _ _ _ (pt_154_5 b)) ?_
        refine x_aload_n d11_instruction_58 0 rfl rfl ?_
        refine x_getI d11_instruction_59 fl11_89 (fun _ _ => rfl) (hS.1 _ _ (sh_154 b)) ?_
        refine x_iload d11_instruction_62 4 rfl ?_
        obtain ⟨g10, h⟩ := h
        refine x_iast d11_instruction_64 (hS.1 _ _ (sh_158 b)) g10 ?_
        refine xm_nm (fun M11 e12 => ?_)
        have h := h M11 e12
        have hS : xm_st b c p M11 := by rw [e12]; exact hS.pi
        refine x_aload_n d11_instruction_65 0 rfl rfl ?_
        refine x_getR d11_instruction_66 fl11_22 (fun _ _ => rfl) (hS.1 _ _ (sh_154 b)) (hS.2.1 _ _ _ (pt_154_6 b)) ?_
        refine x_aload_n d11_instruction_69 0 rfl rfl ?_
        refine x_getI d11_instruction_70 fl11_89 (fun _ _ => rfl) (hS.1 _ _ (sh_154 b)) ?_
        refine x_iload d11_instruction_73 5 rfl ?_
        obtain ⟨g13, h⟩ := h
        refine x_iast d11_instruction_75 (hS.1 _ _ (sh_159 b)) g13 ?_
        refine xm_nm (fun M14 e15 => ?_)
        have h := h M14 e15
        have hS : xm_st b c p M14 := by rw [e15]; exact hS.pi
        refine x_aload_n d11_instruction_76 0 rfl rfl ?_
        refine x_dup d11_instruction_77 rfl ?_
        refine x_getI d11_instruction_78 fl11_89 (fun _ _ => rfl) (hS.1 _ _ (sh_154 b)) ?_
        refine x_iconst d11_instruction_81 qi_1 ?_
        refine x_iadd d11_instruction_82 ?_
        refine x_putI d11_instruction_83 fw11_89 (fun _ _ => rfl) rfl rfl (hS.1 _ _ (sh_154 b)) ?_
        refine xm_nm (fun M16 e17 => ?_)
        have h := h M16 e17
        have hS : xm_st b c p M16 := by rw [e17]; exact hS.pi
        refine x_aload_n d11_instruction_86 0 rfl rfl ?_
        refine x_getI d11_instruction_87 fl11_89 (fun _ _ => rfl) (hS.1 _ _ (sh_154 b)) ?_
        exact x_ret (r := (some (.int (xm_gi M16 (b + 154) 1)))) d11_instruction_90 xm_rI rfl ⟨Nat.le_refl _, Nat.le_refl _⟩ (h hS)
      · have h := h.2 g
        refine x_bipush d11_instruction_21 qb_n3 ?_
        exact x_ret (r := (some (.int (-3 : Int32)))) d11_instruction_23 xm_rI rfl ⟨Nat.le_refl _, Nat.le_refl _⟩ (h hS)
    · have h := h.2 g
      refine x_iconst d11_instruction_10 qi_n1 ?_
      exact x_ret (r := (some (.int (-1 : Int32)))) d11_instruction_11 xm_rI rfl ⟨Nat.le_refl _, Nat.le_refl _⟩ (h hS)

set_option maxRecDepth 20000 in
theorem t11_clear_0 {l : Launch} {E : xm_E} {b : Nat} {c p : Bool} {Q : Option Value → xm_M → Prop} (M : xm_M)  (hS : xm_st b c p M)
  (h : (xm_st b c p (xm_pi M (b + 154) 1 (0 : Int32)) → Q (some (.int (xm_gi M (b + 154) 1))) (xm_pi M (b + 154) 1 (0 : Int32)))) :
  xm_X l E y11_clear rm11_clear Q 0 [(0, .ref (b + 154))] [] 0 0 M := by
  refine x_aload_n d11_clear_0 0 rfl rfl ?_
  refine x_getI d11_clear_1 fl11_89 (fun _ _ => rfl) (hS.1 _ _ (sh_154 b)) ?_
  refine x_istore_n d11_clear_4 rfl (by decide) (L' := [(1, .int (xm_gi M (b + 154) 1)), (0, .ref (b + 154))]) rfl ?_
  refine x_aload_n d11_clear_5 1 rfl rfl ?_
  refine x_iconst d11_clear_6 qi_0 ?_
  refine x_putI d11_clear_7 fw11_89 (fun _ _ => rfl) rfl rfl (hS.1 _ _ (sh_154 b)) ?_
  refine x_iload_n d11_clear_10 0 rfl rfl ?_
  exact x_ret (r := (some (.int (xm_gi M (b + 154) 1)))) d11_clear_11 xm_rI rfl ⟨Nat.le_refl _, Nat.le_refl _⟩ (h hS.pi)

set_option maxRecDepth 20000 in
theorem t11_prove_0 {l : Launch} {E : xm_E} {b : Nat} {c p : Bool} {Q : Option Value → xm_M → Prop} (M : xm_M)  (hS : xm_st b c p M)
  (h : xm_C l E y11_wrong rm11_wrong [.ref (b + 154)] (xm_pi M (b + 154) 8 (0 : Int32)) (fun r M1 => ∃ r2 : Int32, r = some (.int r2) ∧ xm_st b c p M1 ∧ (((xm_gi (xm_pi M1 (b + 154) 9 r2) (b + 154) 9) < 0 → xm_C l E y11_findBounds rm11_findBounds [.ref (b + 154)] (xm_pi (xm_pi M1 (b + 154) 9 r2) (b + 154) 9 (-2 : Int32)) (fun r M3 => r = none ∧ xm_st b c p M3 ∧ (xm_st b c p M3 → xm_X l E y11_prove rm11_prove Q 34 [(0, .ref (b + 154)), (1, .int (0 : Int32))] [] 0 0 M3))) ∧ (¬ (xm_gi (xm_pi M1 (b + 154) 9 r2) (b + 154) 9) < 0 → (xm_st b c p (xm_pi M1 (b + 154) 9 r2) → Q (some (.int (-1 : Int32))) (xm_pi M1 (b + 154) 9 r2)))))) :
  xm_X l E y11_prove rm11_prove Q 0 [(0, .ref (b + 154))] [] 0 0 M := by
  refine x_aload_n d11_prove_0 0 rfl rfl ?_
  refine x_iconst d11_prove_1 qi_0 ?_
  refine x_putI d11_prove_2 fw11_217 (fun _ _ => rfl) rfl rfl (hS.1 _ _ (sh_154 b)) ?_
  refine x_aload_n d11_prove_5 0 rfl rfl ?_
  refine x_aload_n d11_prove_6 0 rfl rfl ?_
  refine x_cVI (Z := y11_wrong) (S := rm11_wrong) (As := []) (rest := [.ref (b + 154)]) d11_prove_7 ml11_220 k11_wrong rfl (b := (b + 154)) (hS.pi.1 _ _ (sh_154 b)) rfl rfl (Nat.le_of_ble_eq_true rfl) ⟨⟨by decide, by decide⟩, by decide, by decide⟩ ⟨rfl, rfl⟩ h (fun r2 M1 h => ?_)
  obtain ⟨hS, h⟩ := h
  refine x_putI d11_prove_10 fw11_28 (fun _ _ => rfl) rfl rfl (hS.1 _ _ (sh_154 b)) ?_
  refine x_aload_n d11_prove_13 0 rfl rfl ?_
  refine x_getI d11_prove_14 fl11_28 (fun _ _ => rfl) (hS.pi.1 _ _ (sh_154 b)) ?_
  refine x_if_lt d11_prove_17 (t := 22) (by decide) (fun g => ?_) (fun g => ?_)
  · have h := h.1 g
    refine x_aload_n d11_prove_22 0 rfl rfl ?_
    refine x_bipush d11_prove_23 qb_n2 ?_
    refine x_putI d11_prove_25 fw11_28 (fun _ _ => rfl) rfl rfl (hS.pi.1 _ _ (sh_154 b)) ?_
    refine x_aload_n d11_prove_28 0 rfl rfl ?_
    refine x_cVN (Z := y11_findBounds) (S := rm11_findBounds) (As := []) (rest := []) d11_prove_29 ml11_223 k11_findBounds rfl (b := (b + 154)) (hS.pi.pi.1 _ _ (sh_154 b)) rfl rfl (Nat.le_of_ble_eq_true rfl) ⟨⟨by decide, by decide⟩, by decide, by decide⟩ ⟨rfl, rfl⟩ h (fun M3 h => ?_)
    obtain ⟨hS, h⟩ := h
    refine x_iconst d11_prove_32 qi_0 ?_
    refine x_istore_n d11_prove_33 rfl (by decide) (L' := [(1, .int (0 : Int32)), (0, .ref (b + 154))]) rfl ?_
    exact xm_X.sub [1, 0] rfl (h hS)
  · have h := h.2 g
    refine x_iconst d11_prove_20 qi_n1 ?_
    exact x_ret (r := (some (.int (-1 : Int32)))) d11_prove_21 xm_rI rfl ⟨Nat.le_refl _, Nat.le_refl _⟩ (h hS.pi)
set_option maxRecDepth 20000 in
theorem t11_prove_34 {l : Launch} {E : xm_E} {b : Nat} {c p : Bool} {Q : Option Value → xm_M → Prop} (M : xm_M) (v1 : Int32) (hS : xm_st b c p M)
  (h : ((((100 : Int32) * (xm_gi M (b + 154) 1)) ≤ v1 → (xm_st b c p M → xm_X l E y11_prove rm11_prove Q 65 [(0, .ref (b + 154)), (1, .int ((xm_gi M (b + 154) 1) - (1 : Int32)))] [] 0 0 M)) ∧ (¬ ((100 : Int32) * (xm_gi M (b + 154) 1)) ≤ v1 → (vp_in v1 4800 ∧ (xm_st b c p (xm_pi M (b + 172) (Int32.toNatClampNeg v1) (0 : Int32)) → xm_X l E y11_prove rm11_prove Q 34 [(0, .ref (b + 154)), (1, .int (v1 + Int32.ofInt (1)))] [] 0 0 (xm_pi M (b + 172) (Int32.toNatClampNeg v1) (0 : Int32))))))) :
  xm_X l E y11_prove rm11_prove Q 34 [(0, .ref (b + 154)), (1, .int v1)] [] 0 0 M := by
  refine x_iload_n d11_prove_34 1 rfl rfl ?_
  refine x_bipush d11_prove_35 qb_100 ?_
  refine x_aload_n d11_prove_37 0 rfl rfl ?_
  refine x_getI d11_prove_38 fl11_89 (fun _ _ => rfl) (hS.1 _ _ (sh_154 b)) ?_
  refine x_imul d11_prove_41 ?_
  refine x_icmp_ge d11_prove_42 (t := 58) (by decide) (fun g => ?_) (fun g => ?_)
  · have h := h.1 g
    refine x_aload_n d11_prove_58 0 rfl rfl ?_
    refine x_getI d11_prove_59 fl11_89 (fun _ _ => rfl) (hS.1 _ _ (sh_154 b)) ?_
    refine x_iconst d11_prove_62 qi_1 ?_
    refine x_isub d11_prove_63 ?_
    refine x_istore_n d11_prove_64 rfl (by decide) (L' := [(1, .int ((xm_gi M (b + 154) 1) - (1 : Int32))), (0, .ref (b + 154))]) rfl ?_
    exact xm_X.sub [1, 0] rfl (h hS)
  · have h := h.2 g
    refine x_aload_n d11_prove_45 0 rfl rfl ?_
    refine x_getR d11_prove_46 fl11_68 (fun _ _ => rfl) (hS.1 _ _ (sh_154 b)) (hS.2.1 _ _ _ (pt_154_27 b)) ?_
    refine x_iload_n d11_prove_49 1 rfl rfl ?_
    refine x_iconst d11_prove_50 qi_0 ?_
    obtain ⟨g1, h⟩ := h
    refine x_zast d11_prove_51 (hS.1 _ _ (sh_172 b)) g1 rfl ?_
    refine x_iinc d11_prove_52 1 rfl rfl (by decide) (L' := [(1, .int (v1 + Int32.ofInt (1))), (0, .ref (b + 154))]) rfl ?_
    refine x_goto d11_prove_55 (t := 34) (by decide) ?_
    exact xm_X.sub [1, 0] rfl (h hS.pi)
set_option maxRecDepth 20000 in
theorem t11_prove_65 {l : Launch} {E : xm_E} {b : Nat} {c p : Bool} {Q : Option Value → xm_M → Prop} (M : xm_M) (v1 : Int32) (hS : xm_st b c p M)
  (h : ((v1 < 0 → xm_C l E y11_tellFacts rm11_tellFacts [.ref (b + 154)] (xm_pi M (b + 154) 29 (0 : Int32)) (fun r M1 => r = none ∧ xm_st b c p M1 ∧ xm_C l E y11_beginning rm11_beginning [.ref (b + 154)] M1 (fun r M3 => r = none ∧ xm_st b c p M3 ∧ (xm_st b c p M3 → xm_X l E y11_prove rm11_prove Q 118 [(0, .ref (b + 154)), (1, .int (0 : Int32))] [] 0 0 M3)))) ∧ (¬ v1 < 0 → (vp_in v1 48 ∧ (((xm_gi M (b + 167) (Int32.toNatClampNeg v1)) = 0 → (xm_st b c p M → xm_X l E y11_prove rm11_prove Q 65 [(0, .ref (b + 154)), (1, .int (v1 + Int32.ofInt (-1)))] [] 0 0 M)) ∧ (¬ (xm_gi M (b + 167) (Int32.toNatClampNeg v1)) = 0 → xm_C l E y11_need rm11_need [.ref (b + 154), .int v1] M (fun r M6 => ∃ r7 : Bool, r = some (.int (xz r7)) ∧ xm_st b c p M6 ∧ (((xz r7) = 0 → (xm_st b c p (xm_pi M6 (b + 154) 9 v1) → Q (some (.int (-2 : Int32))) (xm_pi M6 (b + 154) 9 v1))) ∧ (¬ (xz r7) = 0 → (xm_st b c p M6 → xm_X l E y11_prove rm11_prove Q 65 [(0, .ref (b + 154)), (1, .int (v1 + Int32.ofInt (-1)))] [] 0 0 M6)))))))))) :
  xm_X l E y11_prove rm11_prove Q 65 [(0, .ref (b + 154)), (1, .int v1)] [] 0 0 M := by
  refine x_iload_n d11_prove_65 1 rfl rfl ?_
  refine x_if_lt d11_prove_66 (t := 103) (by decide) (fun g => ?_) (fun g => ?_)
  · have h := h.1 g
    refine x_aload_n d11_prove_103 0 rfl rfl ?_
    refine x_iconst d11_prove_104 qi_0 ?_
    refine x_putI d11_prove_105 fw11_205 (fun _ _ => rfl) rfl rfl (hS.1 _ _ (sh_154 b)) ?_
    refine x_aload_n d11_prove_108 0 rfl rfl ?_
    refine x_cVN (Z := y11_tellFacts) (S := rm11_tellFacts) (As := []) (rest := []) d11_prove_109 ml11_229 k11_tellFacts rfl (b := (b + 154)) (hS.pi.1 _ _ (sh_154 b)) rfl rfl (Nat.le_of_ble_eq_true rfl) ⟨⟨by decide, by decide⟩, by decide, by decide⟩ ⟨rfl, rfl⟩ h (fun M1 h => ?_)
    obtain ⟨hS, h⟩ := h
    refine x_aload_n d11_prove_112 0 rfl rfl ?_
    refine x_cVN (Z := y11_beginning) (S := rm11_beginning) (As := []) (rest := []) d11_prove_113 ml11_148 k11_beginning rfl (b := (b + 154)) (hS.1 _ _ (sh_154 b)) rfl rfl (Nat.le_of_ble_eq_true rfl) ⟨⟨by decide, by decide⟩, by decide, by decide⟩ ⟨rfl, rfl⟩ h (fun M3 h => ?_)
    obtain ⟨hS, h⟩ := h
    refine x_iconst d11_prove_116 qi_0 ?_
    refine x_istore_n d11_prove_117 rfl (by decide) (L' := [(1, .int (0 : Int32)), (0, .ref (b + 154))]) rfl ?_
    exact xm_X.sub [1, 0] rfl (h hS)
  · have h := h.2 g
    refine x_aload_n d11_prove_69 0 rfl rfl ?_
    refine x_getR d11_prove_70 fl11_52 (fun _ _ => rfl) (hS.1 _ _ (sh_154 b)) (hS.2.1 _ _ _ (pt_154_21 b)) ?_
    refine x_iload_n d11_prove_73 1 rfl rfl ?_
    obtain ⟨g5, h⟩ := h
    refine x_zald d11_prove_74 (hS.1 _ _ (sh_167 b)) g5 ?_
    refine x_if_eq d11_prove_75 (t := 97) (by decide) (fun g => ?_) (fun g => ?_)
    · have h := h.1 g
      refine x_iinc d11_prove_97 1 rfl rfl (by decide) (L' := [(1, .int (v1 + Int32.ofInt (-1))), (0, .ref (b + 154))]) rfl ?_
      refine x_goto d11_prove_100 (t := 65) (by decide) ?_
      exact xm_X.sub [1, 0] rfl (h hS)
    · have h := h.2 g
      refine x_aload_n d11_prove_78 0 rfl rfl ?_
      refine x_iload_n d11_prove_79 1 rfl rfl ?_
      refine x_cVZ (Z := y11_need) (S := rm11_need) (As := [.int v1]) (rest := []) d11_prove_80 ml11_226 k11_need rfl (b := (b + 154)) (hS.1 _ _ (sh_154 b)) rfl rfl (Nat.le_of_ble_eq_true rfl) ⟨⟨by decide, by decide⟩, by decide, by decide⟩ ⟨rfl, rfl⟩ h (fun r7 M6 h => ?_)
      obtain ⟨hS, h⟩ := h
      refine x_if_eq d11_prove_83 (t := 89) (by decide) (fun g => ?_) (fun g => ?_)
      · have h := h.1 g
        refine x_aload_n d11_prove_89 0 rfl rfl ?_
        refine x_iload_n d11_prove_90 1 rfl rfl ?_
        refine x_putI d11_prove_91 fw11_28 (fun _ _ => rfl) rfl rfl (hS.1 _ _ (sh_154 b)) ?_
        refine x_bipush d11_prove_94 qb_n2 ?_
        exact x_ret (r := (some (.int (-2 : Int32)))) d11_prove_96 xm_rI rfl ⟨Nat.le_refl _, Nat.le_refl _⟩ (h hS.pi)
      · have h := h.2 g
        refine x_goto d11_prove_86 (t := 97) (by decide) ?_
        refine x_iinc d11_prove_97 1 rfl rfl (by decide) (L' := [(1, .int (v1 + Int32.ofInt (-1))), (0, .ref (b + 154))]) rfl ?_
        refine x_goto d11_prove_100 (t := 65) (by decide) ?_
        exact xm_X.sub [1, 0] rfl (h hS)
set_option maxRecDepth 20000 in
theorem t11_prove_118 {l : Launch} {E : xm_E} {b : Nat} {c p : Bool} {Q : Option Value → xm_M → Prop} (M : xm_M) (v1 : Int32) (hS : xm_st b c p M)
  (h : (((100 : Int32) ≤ v1 → (xm_st b c p M → xm_X l E y11_prove rm11_prove Q 168 [(0, .ref (b + 154)), (1, .int (0 : Int32))] [] 0 0 M)) ∧ (¬ (100 : Int32) ≤ v1 → (vp_in v1 4800 ∧ ((¬ (xm_gi M (b + 172) (Int32.toNatClampNeg v1)) = 0 → (vp_in v1 4800 ∧ xm_C l E y11_findReason rm11_findReason [.ref (b + 154), .int (v1 / (10 : Int32)), .int (v1 - v1 / (10 : Int32) * (10 : Int32)), .long (xm_gl M (b + 166) (Int32.toNatClampNeg v1))] M (fun r M3 => ∃ r4 : Bool, r = some (.int (xz r4)) ∧ xm_st b c p M3 ∧ xm_C l E y11_tellReason rm11_tellReason [.ref (b + 154), .int (-1 : Int32)] M3 (fun r M5 => r = none ∧ xm_st b c p M5 ∧ (xm_st b c p M5 → xm_X l E y11_prove rm11_prove Q 118 [(0, .ref (b + 154)), (1, .int (v1 + Int32.ofInt (1)))] [] 0 0 M5))))) ∧ ((xm_gi M (b + 172) (Int32.toNatClampNeg v1)) = 0 → (xm_st b c p M → xm_X l E y11_prove rm11_prove Q 118 [(0, .ref (b + 154)), (1, .int (v1 + Int32.ofInt (1)))] [] 0 0 M))))))) :
  xm_X l E y11_prove rm11_prove Q 118 [(0, .ref (b + 154)), (1, .int v1)] [] 0 0 M := by
  refine x_iload_n d11_prove_118 1 rfl rfl ?_
  refine x_bipush d11_prove_119 qb_100 ?_
  refine x_icmp_ge d11_prove_121 (t := 166) (by decide) (fun g => ?_) (fun g => ?_)
  · have h := h.1 g
    refine x_iconst d11_prove_166 qi_0 ?_
    refine x_istore_n d11_prove_167 rfl (by decide) (L' := [(1, .int (0 : Int32)), (0, .ref (b + 154))]) rfl ?_
    exact xm_X.sub [1, 0] rfl (h hS)
  · have h := h.2 g
    refine x_aload_n d11_prove_124 0 rfl rfl ?_
    refine x_getR d11_prove_125 fl11_68 (fun _ _ => rfl) (hS.1 _ _ (sh_154 b)) (hS.2.1 _ _ _ (pt_154_27 b)) ?_
    refine x_iload_n d11_prove_128 1 rfl rfl ?_
    obtain ⟨g1, h⟩ := h
    refine x_zald d11_prove_129 (hS.1 _ _ (sh_172 b)) g1 ?_
    refine x_if_ne d11_prove_130 (t := 136) (by decide) (fun g => ?_) (fun g => ?_)
    · have h := h.1 g
      refine x_aload_n d11_prove_136 0 rfl rfl ?_
      refine x_iload_n d11_prove_137 1 rfl rfl ?_
      refine x_bipush d11_prove_138 qb_10 ?_
      refine x_idiv d11_prove_140 (by decide) ?_
      refine x_iload_n d11_prove_141 1 rfl rfl ?_
      refine x_bipush d11_prove_142 qb_10 ?_
      refine x_irem d11_prove_144 (by decide) ?_
      refine x_aload_n d11_prove_145 0 rfl rfl ?_
      refine x_getR d11_prove_146 fl11_49 (fun _ _ => rfl) (hS.1 _ _ (sh_154 b)) (hS.2.1 _ _ _ (pt_154_20 b)) ?_
      refine x_iload_n d11_prove_149 1 rfl rfl ?_
      obtain ⟨g2, h⟩ := h
      refine x_lald d11_prove_150 (hS.1 _ _ (sh_166 b)) g2 ?_
      refine x_cVZ (Z := y11_findReason) (S := rm11_findReason) (As := [.int (v1 / (10 : Int32)), .int (v1 - v1 / (10 : Int32) * (10 : Int32)), .long (xm_gl M (b + 166) (Int32.toNatClampNeg v1))]) (rest := []) d11_prove_151 ml11_173 k11_findReason rfl (b := (b + 154)) (hS.1 _ _ (sh_154 b)) rfl rfl (Nat.le_of_ble_eq_true rfl) ⟨⟨by decide, by decide⟩, by decide, by decide⟩ ⟨rfl, rfl⟩ h (fun r4 M3 h => ?_)
      obtain ⟨hS, h⟩ := h
      refine x_pop d11_prove_154 rfl ?_
      refine x_aload_n d11_prove_155 0 rfl rfl ?_
      refine x_iconst d11_prove_156 qi_n1 ?_
      refine x_cVN (Z := y11_tellReason) (S := rm11_tellReason) (As := [.int (-1 : Int32)]) (rest := []) d11_prove_157 ml11_214 k11_tellReason rfl (b := (b + 154)) (hS.1 _ _ (sh_154 b)) rfl rfl (Nat.le_of_ble_eq_true rfl) ⟨⟨by decide, by decide⟩, by decide, by decide⟩ ⟨rfl, rfl⟩ h (fun M5 h => ?_)
      obtain ⟨hS, h⟩ := h
      refine x_iinc d11_prove_160 1 rfl rfl (by decide) (L' := [(1, .int (v1 + Int32.ofInt (1))), (0, .ref (b + 154))]) rfl ?_
      refine x_goto d11_prove_163 (t := 118) (by decide) ?_
      exact xm_X.sub [1, 0] rfl (h hS)
    · have h := h.2 g
      refine x_goto d11_prove_133 (t := 160) (by decide) ?_
      refine x_iinc d11_prove_160 1 rfl rfl (by decide) (L' := [(1, .int (v1 + Int32.ofInt (1))), (0, .ref (b + 154))]) rfl ?_
      refine x_goto d11_prove_163 (t := 118) (by decide) ?_
      exact xm_X.sub [1, 0] rfl (h hS)
set_option maxRecDepth 20000 in
theorem t11_prove_168 {l : Launch} {E : xm_E} {b : Nat} {c p : Bool} {Q : Option Value → xm_M → Prop} (M : xm_M) (v1 : Int32) (hS : xm_st b c p M)
  (h : (((xm_gi M (b + 154) 1) ≤ v1 → (((xm_gi M (b + 154) 29) ≤ (20000 : Int32) → (xm_st b c p M → xm_X l E y11_prove rm11_prove Q 219 [(0, .ref (b + 154)), (1, .int (0 : Int32))] [] 0 0 M)) ∧ (¬ (xm_gi M (b + 154) 29) ≤ (20000 : Int32) → (xm_st b c p (xm_pi M (b + 154) 9 (xm_gi M (b + 154) 1)) → Q (some (.int (-2 : Int32))) (xm_pi M (b + 154) 9 (xm_gi M (b + 154) 1)))))) ∧ (¬ (xm_gi M (b + 154) 1) ≤ v1 → (vp_in v1 48 ∧ (((xm_gi M (b + 167) (Int32.toNatClampNeg v1)) = 0 → (xm_st b c p M → xm_X l E y11_prove rm11_prove Q 168 [(0, .ref (b + 154)), (1, .int (v1 + Int32.ofInt (1)))] [] 0 0 M)) ∧ (¬ (xm_gi M (b + 167) (Int32.toNatClampNeg v1)) = 0 → xm_C l E y11_tellInstruction rm11_tellInstruction [.ref (b + 154), .int v1] M (fun r M2 => r = none ∧ xm_st b c p M2 ∧ (xm_st b c p M2 → xm_X l E y11_prove rm11_prove Q 168 [(0, .ref (b + 154)), (1, .int (v1 + Int32.ofInt (1)))] [] 0 0 M2)))))))) :
  xm_X l E y11_prove rm11_prove Q 168 [(0, .ref (b + 154)), (1, .int v1)] [] 0 0 M := by
  refine x_iload_n d11_prove_168 1 rfl rfl ?_
  refine x_aload_n d11_prove_169 0 rfl rfl ?_
  refine x_getI d11_prove_170 fl11_89 (fun _ _ => rfl) (hS.1 _ _ (sh_154 b)) ?_
  refine x_icmp_ge d11_prove_173 (t := 196) (by decide) (fun g => ?_) (fun g => ?_)
  · have h := h.1 g
    refine x_aload_n d11_prove_196 0 rfl rfl ?_
    refine x_getI d11_prove_197 fl11_205 (fun _ _ => rfl) (hS.1 _ _ (sh_154 b)) ?_
    refine x_sipush d11_prove_200 qs_20000 ?_
    refine x_icmp_le d11_prove_203 (t := 217) (by decide) (fun g => ?_) (fun g => ?_)
    · have h := h.1 g
      refine x_iconst d11_prove_217 qi_0 ?_
      refine x_istore_n d11_prove_218 rfl (by decide) (L' := [(1, .int (0 : Int32)), (0, .ref (b + 154))]) rfl ?_
      exact xm_X.sub [1, 0] rfl (h hS)
    · have h := h.2 g
      refine x_aload_n d11_prove_206 0 rfl rfl ?_
      refine x_aload_n d11_prove_207 0 rfl rfl ?_
      refine x_getI d11_prove_208 fl11_89 (fun _ _ => rfl) (hS.1 _ _ (sh_154 b)) ?_
      refine x_putI d11_prove_211 fw11_28 (fun _ _ => rfl) rfl rfl (hS.1 _ _ (sh_154 b)) ?_
      refine x_bipush d11_prove_214 qb_n2 ?_
      exact x_ret (r := (some (.int (-2 : Int32)))) d11_prove_216 xm_rI rfl ⟨Nat.le_refl _, Nat.le_refl _⟩ (h hS.pi)
  · have h := h.2 g
    refine x_aload_n d11_prove_176 0 rfl rfl ?_
    refine x_getR d11_prove_177 fl11_52 (fun _ _ => rfl) (hS.1 _ _ (sh_154 b)) (hS.2.1 _ _ _ (pt_154_21 b)) ?_
    refine x_iload_n d11_prove_180 1 rfl rfl ?_
    obtain ⟨g1, h⟩ := h
    refine x_zald d11_prove_181 (hS.1 _ _ (sh_167 b)) g1 ?_
    refine x_if_eq d11_prove_182 (t := 190) (by decide) (fun g => ?_) (fun g => ?_)
    · have h := h.1 g
      refine x_iinc d11_prove_190 1 rfl rfl (by decide) (L' := [(1, .int (v1 + Int32.ofInt (1))), (0, .ref (b + 154))]) rfl ?_
      refine x_goto d11_prove_193 (t := 168) (by decide) ?_
      exact xm_X.sub [1, 0] rfl (h hS)
    · have h := h.2 g
      refine x_aload_n d11_prove_185 0 rfl rfl ?_
      refine x_iload_n d11_prove_186 1 rfl rfl ?_
      refine x_cVN (Z := y11_tellInstruction) (S := rm11_tellInstruction) (As := [.int v1]) (rest := []) d11_prove_187 ml11_232 k11_tellInstruction rfl (b := (b + 154)) (hS.1 _ _ (sh_154 b)) rfl rfl (Nat.le_of_ble_eq_true rfl) ⟨⟨by decide, by decide⟩, by decide, by decide⟩ ⟨rfl, rfl⟩ h (fun M2 h => ?_)
      obtain ⟨hS, h⟩ := h
      refine x_iinc d11_prove_190 1 rfl rfl (by decide) (L' := [(1, .int (v1 + Int32.ofInt (1))), (0, .ref (b + 154))]) rfl ?_
      refine x_goto d11_prove_193 (t := 168) (by decide) ?_
      exact xm_X.sub [1, 0] rfl (h hS)
set_option maxRecDepth 20000 in
theorem t11_prove_219 {l : Launch} {E : xm_E} {b : Nat} {c p : Bool} {Q : Option Value → xm_M → Prop} (M : xm_M) (v1 : Int32) (hS : xm_st b c p M)
  (h : (((xm_gi M (b + 154) 29) ≤ v1 → (xm_st b c p (xm_pi M (b + 154) 8 (xm_gi M (b + 154) 29)) → Q (some (.int (xm_gi (xm_pi M (b + 154) 8 (xm_gi M (b + 154) 29)) (b + 154) 8))) (xm_pi M (b + 154) 8 (xm_gi M (b + 154) 29)))) ∧ (¬ (xm_gi M (b + 154) 29) ≤ v1 → (vp_in v1 20000 ∧ (vp_in v1 20000 ∧ (xm_st b c p (xm_pi M (b + 160) (Int32.toNatClampNeg v1) (xm_gi M (b + 173) (Int32.toNatClampNeg v1))) → xm_X l E y11_prove rm11_prove Q 219 [(0, .ref (b + 154)), (1, .int (v1 + Int32.ofInt (1)))] [] 0 0 (xm_pi M (b + 160) (Int32.toNatClampNeg v1) (xm_gi M (b + 173) (Int32.toNatClampNeg v1))))))))) :
  xm_X l E y11_prove rm11_prove Q 219 [(0, .ref (b + 154)), (1, .int v1)] [] 0 0 M := by
  refine x_iload_n d11_prove_219 1 rfl rfl ?_
  refine x_aload_n d11_prove_220 0 rfl rfl ?_
  refine x_getI d11_prove_221 fl11_205 (fun _ _ => rfl) (hS.1 _ _ (sh_154 b)) ?_
  refine x_icmp_ge d11_prove_224 (t := 245) (by decide) (fun g => ?_) (fun g => ?_)
  · have h := h.1 g
    refine x_aload_n d11_prove_245 0 rfl rfl ?_
    refine x_aload_n d11_prove_246 0 rfl rfl ?_
    refine x_getI d11_prove_247 fl11_205 (fun _ _ => rfl) (hS.1 _ _ (sh_154 b)) ?_
    refine x_putI d11_prove_250 fw11_217 (fun _ _ => rfl) rfl rfl (hS.1 _ _ (sh_154 b)) ?_
    refine x_aload_n d11_prove_253 0 rfl rfl ?_
    refine x_getI d11_prove_254 fl11_217 (fun _ _ => rfl) (hS.pi.1 _ _ (sh_154 b)) ?_
    exact x_ret (r := (some (.int (xm_gi (xm_pi M (b + 154) 8 (xm_gi M (b + 154) 29)) (b + 154) 8)))) d11_prove_257 xm_rI rfl ⟨Nat.le_refl _, Nat.le_refl _⟩ (h hS.pi)
  · have h := h.2 g
    refine x_aload_n d11_prove_227 0 rfl rfl ?_
    refine x_getR d11_prove_228 fl11_25 (fun _ _ => rfl) (hS.1 _ _ (sh_154 b)) (hS.2.1 _ _ _ (pt_154_7 b)) ?_
    refine x_iload_n d11_prove_231 1 rfl rfl ?_
    refine x_aload_n d11_prove_232 0 rfl rfl ?_
    refine x_getR d11_prove_233 fl11_71 (fun _ _ => rfl) (hS.1 _ _ (sh_154 b)) (hS.2.1 _ _ _ (pt_154_28 b)) ?_
    refine x_iload_n d11_prove_236 1 rfl rfl ?_
    obtain ⟨g1, h⟩ := h
    refine x_iald d11_prove_237 (hS.1 _ _ (sh_173 b)) g1 ?_
    obtain ⟨g2, h⟩ := h
    refine x_iast d11_prove_238 (hS.1 _ _ (sh_160 b)) g2 ?_
    refine x_iinc d11_prove_239 1 rfl rfl (by decide) (L' := [(1, .int (v1 + Int32.ofInt (1))), (0, .ref (b + 154))]) rfl ?_
    refine x_goto d11_prove_242 (t := 219) (by decide) ?_
    exact xm_X.sub [1, 0] rfl (h hS.pi)

set_option maxRecDepth 20000 in
theorem t11_wrong_0 {l : Launch} {E : xm_E} {b : Nat} {c p : Bool} {Q : Option Value → xm_M → Prop} (M : xm_M)  (hS : xm_st b c p M)
  (h : (xm_st b c p M → xm_X l E y11_wrong rm11_wrong Q 2 [(0, .ref (b + 154)), (1, .int (0 : Int32))] [] 0 0 M)) :
  xm_X l E y11_wrong rm11_wrong Q 0 [(0, .ref (b + 154))] [] 0 0 M := by
  refine x_iconst d11_wrong_0 qi_0 ?_
  refine x_istore_n d11_wrong_1 rfl (by decide) (L' := [(1, .int (0 : Int32)), (0, .ref (b + 154))]) rfl ?_
  exact xm_X.sub [1, 0] rfl (h hS)
set_option maxRecDepth 20000 in
theorem t11_wrong_2 {l : Launch} {E : xm_E} {b : Nat} {c p : Bool} {Q : Option Value → xm_M → Prop} (M : xm_M) (v1 : Int32) (hS : xm_st b c p M)
  (h : (((xm_gi M (b + 154) 1) ≤ v1 → (((xm_gi M (b + 154) 1) ≤ 0 → (xm_st b c p M → Q (some (.int (xm_gi M (b + 154) 1))) M)) ∧ (¬ (xm_gi M (b + 154) 1) ≤ 0 → (vp_in ((xm_gi M (b + 154) 1) - (1 : Int32)) 48 ∧ ((¬ (xm_gi M (b + 155) (Int32.toNatClampNeg ((xm_gi M (b + 154) 1) - (1 : Int32)))) = 0 → (xm_st b c p M → Q (some (.int (xm_gi M (b + 154) 1))) M)) ∧ ((xm_gi M (b + 155) (Int32.toNatClampNeg ((xm_gi M (b + 154) 1) - (1 : Int32)))) = 0 → (xm_st b c p M → Q (some (.int (-1 : Int32))) M))))))) ∧ (¬ (xm_gi M (b + 154) 1) ≤ v1 → (vp_in v1 48 ∧ (((xm_gi M (b + 156) (Int32.toNatClampNeg v1)) < 0 → (xm_st b c p M → xm_X l E y11_wrong rm11_wrong Q 56 [(0, .ref (b + 154)), (1, .int v1), (2, .int (0 : Int32))] [] 0 0 M)) ∧ (¬ (xm_gi M (b + 156) (Int32.toNatClampNeg v1)) < 0 → (vp_in v1 48 ∧ (((8 : Int32) ≤ (xm_gi M (b + 156) (Int32.toNatClampNeg v1)) → (xm_st b c p M → xm_X l E y11_wrong rm11_wrong Q 56 [(0, .ref (b + 154)), (1, .int v1), (2, .int (0 : Int32))] [] 0 0 M)) ∧ (¬ (8 : Int32) ≤ (xm_gi M (b + 156) (Int32.toNatClampNeg v1)) → (vp_in v1 48 ∧ (((xm_gi M (b + 157) (Int32.toNatClampNeg v1)) < 0 → (xm_st b c p M → xm_X l E y11_wrong rm11_wrong Q 56 [(0, .ref (b + 154)), (1, .int v1), (2, .int (0 : Int32))] [] 0 0 M)) ∧ (¬ (xm_gi M (b + 157) (Int32.toNatClampNeg v1)) < 0 → (vp_in v1 48 ∧ (((8 : Int32) ≤ (xm_gi M (b + 157) (Int32.toNatClampNeg v1)) → (xm_st b c p M → xm_X l E y11_wrong rm11_wrong Q 56 [(0, .ref (b + 154)), (1, .int v1), (2, .int (0 : Int32))] [] 0 0 M)) ∧ (¬ (8 : Int32) ≤ (xm_gi M (b + 157) (Int32.toNatClampNeg v1)) → (xm_st b c p M → xm_X l E y11_wrong rm11_wrong Q 56 [(0, .ref (b + 154)), (1, .int v1), (2, .int (1 : Int32))] [] 0 0 M)))))))))))))))) :
  xm_X l E y11_wrong rm11_wrong Q 2 [(0, .ref (b + 154)), (1, .int v1)] [] 0 0 M := by
  refine x_iload_n d11_wrong_2 1 rfl rfl ?_
  refine x_aload_n d11_wrong_3 0 rfl rfl ?_
  refine x_getI d11_wrong_4 fl11_89 (fun _ _ => rfl) (hS.1 _ _ (sh_154 b)) ?_
  refine x_icmp_ge d11_wrong_7 (t := 183) (by decide) (fun g => ?_) (fun g => ?_)
  · have h := h.1 g
    refine x_aload_n d11_wrong_183 0 rfl rfl ?_
    refine x_getI d11_wrong_184 fl11_89 (fun _ _ => rfl) (hS.1 _ _ (sh_154 b)) ?_
    refine x_if_le d11_wrong_187 (t := 208) (by decide) (fun g => ?_) (fun g => ?_)
    · have h := h.1 g
      refine x_aload_n d11_wrong_208 0 rfl rfl ?_
      refine x_getI d11_wrong_209 fl11_89 (fun _ _ => rfl) (hS.1 _ _ (sh_154 b)) ?_
      exact x_ret (r := (some (.int (xm_gi M (b + 154) 1)))) d11_wrong_212 xm_rI rfl ⟨Nat.le_refl _, Nat.le_refl _⟩ (h hS)
    · have h := h.2 g
      refine x_aload_n d11_wrong_190 0 rfl rfl ?_
      refine x_getR d11_wrong_191 fl11_7 (fun _ _ => rfl) (hS.1 _ _ (sh_154 b)) (hS.2.1 _ _ _ (pt_154_2 b)) ?_
      refine x_aload_n d11_wrong_194 0 rfl rfl ?_
      refine x_getI d11_wrong_195 fl11_89 (fun _ _ => rfl) (hS.1 _ _ (sh_154 b)) ?_
      refine x_iconst d11_wrong_198 qi_1 ?_
      refine x_isub d11_wrong_199 ?_
      obtain ⟨g1, h⟩ := h
      refine x_iald d11_wrong_200 (hS.1 _ _ (sh_155 b)) g1 ?_
      refine x_if_ne d11_wrong_201 (t := 208) (by decide) (fun g => ?_) (fun g => ?_)
      · have h := h.1 g
        refine x_aload_n d11_wrong_208 0 rfl rfl ?_
        refine x_getI d11_wrong_209 fl11_89 (fun _ _ => rfl) (hS.1 _ _ (sh_154 b)) ?_
        exact x_ret (r := (some (.int (xm_gi M (b + 154) 1)))) d11_wrong_212 xm_rI rfl ⟨Nat.le_refl _, Nat.le_refl _⟩ (h hS)
      · have h := h.2 g
        refine x_iconst d11_wrong_204 qi_n1 ?_
        refine x_goto d11_wrong_205 (t := 212) (by decide) ?_
        exact x_ret (r := (some (.int (-1 : Int32)))) d11_wrong_212 xm_rI rfl ⟨Nat.le_refl _, Nat.le_refl _⟩ (h hS)
  · have h := h.2 g
    refine x_aload_n d11_wrong_10 0 rfl rfl ?_
    refine x_getR d11_wrong_11 fl11_13 (fun _ _ => rfl) (hS.1 _ _ (sh_154 b)) (hS.2.1 _ _ _ (pt_154_3 b)) ?_
    refine x_iload_n d11_wrong_14 1 rfl rfl ?_
    obtain ⟨g2, h⟩ := h
    refine x_iald d11_wrong_15 (hS.1 _ _ (sh_156 b)) g2 ?_
    refine x_if_lt d11_wrong_16 (t := 54) (by decide) (fun g => ?_) (fun g => ?_)
    · have h := h.1 g
      refine x_iconst d11_wrong_54 qi_0 ?_
      refine x_istore_n d11_wrong_55 rfl (by decide) (L' := [(2, .int (0 : Int32)), (0, .ref (b + 154)), (1, .int v1)]) rfl ?_
      exact xm_X.sub [1, 2, 0] rfl (h hS)
    · have h := h.2 g
      refine x_aload_n d11_wrong_19 0 rfl rfl ?_
      refine x_getR d11_wrong_20 fl11_13 (fun _ _ => rfl) (hS.1 _ _ (sh_154 b)) (hS.2.1 _ _ _ (pt_154_3 b)) ?_
      refine x_iload_n d11_wrong_23 1 rfl rfl ?_
      obtain ⟨g3, h⟩ := h
      refine x_iald d11_wrong_24 (hS.1 _ _ (sh_156 b)) g3 ?_
      refine x_bipush d11_wrong_25 qb_8 ?_
      refine x_icmp_ge d11_wrong_27 (t := 54) (by decide) (fun g => ?_) (fun g => ?_)
      · have h := h.1 g
        refine x_iconst d11_wrong_54 qi_0 ?_
        refine x_istore_n d11_wrong_55 rfl (by decide) (L' := [(2, .int (0 : Int32)), (0, .ref (b + 154)), (1, .int v1)]) rfl ?_
        exact xm_X.sub [1, 2, 0] rfl (h hS)
      · have h := h.2 g
        refine x_aload_n d11_wrong_30 0 rfl rfl ?_
        refine x_getR d11_wrong_31 fl11_16 (fun _ _ => rfl) (hS.1 _ _ (sh_154 b)) (hS.2.1 _ _ _ (pt_154_4 b)) ?_
        refine x_iload_n d11_wrong_34 1 rfl rfl ?_
        obtain ⟨g4, h⟩ := h
        refine x_iald d11_wrong_35 (hS.1 _ _ (sh_157 b)) g4 ?_
        refine x_if_lt d11_wrong_36 (t := 54) (by decide) (fun g => ?_) (fun g => ?_)
        · have h := h.1 g
          refine x_iconst d11_wrong_54 qi_0 ?_
          refine x_istore_n d11_wrong_55 rfl (by decide) (L' := [(2, .int (0 : Int32)), (0, .ref (b + 154)), (1, .int v1)]) rfl ?_
          exact xm_X.sub [1, 2, 0] rfl (h hS)
        · have h := h.2 g
          refine x_aload_n d11_wrong_39 0 rfl rfl ?_
          refine x_getR d11_wrong_40 fl11_16 (fun _ _ => rfl) (hS.1 _ _ (sh_154 b)) (hS.2.1 _ _ _ (pt_154_4 b)) ?_
          refine x_iload_n d11_wrong_43 1 rfl rfl ?_
          obtain ⟨g5, h⟩ := h
          refine x_iald d11_wrong_44 (hS.1 _ _ (sh_157 b)) g5 ?_
          refine x_bipush d11_wrong_45 qb_8 ?_
          refine x_icmp_ge d11_wrong_47 (t := 54) (by decide) (fun g => ?_) (fun g => ?_)
          · have h := h.1 g
            refine x_iconst d11_wrong_54 qi_0 ?_
            refine x_istore_n d11_wrong_55 rfl (by decide) (L' := [(2, .int (0 : Int32)), (0, .ref (b + 154)), (1, .int v1)]) rfl ?_
            exact xm_X.sub [1, 2, 0] rfl (h hS)
          · have h := h.2 g
            refine x_iconst d11_wrong_50 qi_1 ?_
            refine x_goto d11_wrong_51 (t := 55) (by decide) ?_
            refine x_istore_n d11_wrong_55 rfl (by decide) (L' := [(2, .int (1 : Int32)), (0, .ref (b + 154)), (1, .int v1)]) rfl ?_
            exact xm_X.sub [1, 2, 0] rfl (h hS)
set_option maxRecDepth 20000 in
theorem t11_wrong_56 {l : Launch} {E : xm_E} {b : Nat} {c p : Bool} {Q : Option Value → xm_M → Prop} (M : xm_M) (v1 : Int32) (v2 : Int32) (hS : xm_st b c p M)
  (h : (vp_in v1 48 ∧ ((¬ (xm_gi M (b + 155) (Int32.toNatClampNeg v1)) = (6 : Int32) → (xm_st b c p M → xm_X l E y11_wrong rm11_wrong Q 86 [(0, .ref (b + 154)), (1, .int v1), (2, .int v2)] [] 0 0 M)) ∧ ((xm_gi M (b + 155) (Int32.toNatClampNeg v1)) = (6 : Int32) → ((v2 = 0 → (xm_st b c p M → xm_X l E y11_wrong rm11_wrong Q 86 [(0, .ref (b + 154)), (1, .int v1), (2, .int (0 : Int32))] [] 0 0 M)) ∧ (¬ v2 = 0 → (vp_in v1 48 ∧ (((xm_gi M (b + 158) (Int32.toNatClampNeg v1)) < 0 → (xm_st b c p M → xm_X l E y11_wrong rm11_wrong Q 86 [(0, .ref (b + 154)), (1, .int v1), (2, .int (0 : Int32))] [] 0 0 M)) ∧ (¬ (xm_gi M (b + 158) (Int32.toNatClampNeg v1)) < 0 → (xm_st b c p M → xm_X l E y11_wrong rm11_wrong Q 86 [(0, .ref (b + 154)), (1, .int v1), (2, .int (1 : Int32))] [] 0 0 M)))))))))) :
  xm_X l E y11_wrong rm11_wrong Q 56 [(0, .ref (b + 154)), (1, .int v1), (2, .int v2)] [] 0 0 M := by
  refine x_aload_n d11_wrong_56 0 rfl rfl ?_
  refine x_getR d11_wrong_57 fl11_7 (fun _ _ => rfl) (hS.1 _ _ (sh_154 b)) (hS.2.1 _ _ _ (pt_154_2 b)) ?_
  refine x_iload_n d11_wrong_60 1 rfl rfl ?_
  obtain ⟨g1, h⟩ := h
  refine x_iald d11_wrong_61 (hS.1 _ _ (sh_155 b)) g1 ?_
  refine x_bipush d11_wrong_62 qb_6 ?_
  refine x_icmp_ne d11_wrong_64 (t := 86) (by decide) (fun g => ?_) (fun g => ?_)
  · have h := h.1 g
    exact xm_X.sub [0, 1, 2] rfl (h hS)
  · have h := h.2 g
    refine x_iload_n d11_wrong_67 2 rfl rfl ?_
    refine x_if_eq d11_wrong_68 (t := 84) (by decide) (fun g => ?_) (fun g => ?_)
    · have h := h.1 g
      refine x_iconst d11_wrong_84 qi_0 ?_
      refine x_istore_n d11_wrong_85 rfl (by decide) (L' := [(2, .int (0 : Int32)), (0, .ref (b + 154)), (1, .int v1)]) rfl ?_
      exact xm_X.sub [1, 2, 0] rfl (h hS)
    · have h := h.2 g
      refine x_aload_n d11_wrong_71 0 rfl rfl ?_
      refine x_getR d11_wrong_72 fl11_19 (fun _ _ => rfl) (hS.1 _ _ (sh_154 b)) (hS.2.1 _ _ _ (pt_154_5 b)) ?_
      refine x_iload_n d11_wrong_75 1 rfl rfl ?_
      obtain ⟨g2, h⟩ := h
      refine x_iald d11_wrong_76 (hS.1 _ _ (sh_158 b)) g2 ?_
      refine x_if_lt d11_wrong_77 (t := 84) (by decide) (fun g => ?_) (fun g => ?_)
      · have h := h.1 g
        refine x_iconst d11_wrong_84 qi_0 ?_
        refine x_istore_n d11_wrong_85 rfl (by decide) (L' := [(2, .int (0 : Int32)), (0, .ref (b + 154)), (1, .int v1)]) rfl ?_
        exact xm_X.sub [1, 2, 0] rfl (h hS)
      · have h := h.2 g
        refine x_iconst d11_wrong_80 qi_1 ?_
        refine x_goto d11_wrong_81 (t := 85) (by decide) ?_
        refine x_istore_n d11_wrong_85 rfl (by decide) (L' := [(2, .int (1 : Int32)), (0, .ref (b + 154)), (1, .int v1)]) rfl ?_
        exact xm_X.sub [1, 2, 0] rfl (h hS)
set_option maxRecDepth 20000 in
theorem t11_wrong_86 {l : Launch} {E : xm_E} {b : Nat} {c p : Bool} {Q : Option Value → xm_M → Prop} (M : xm_M) (v1 : Int32) (v2 : Int32) (hS : xm_st b c p M)
  (h : (vp_in v1 48 ∧ ((¬ (xm_gi M (b + 155) (Int32.toNatClampNeg v1)) = (7 : Int32) → (xm_st b c p M → xm_X l E y11_wrong rm11_wrong Q 127 [(0, .ref (b + 154)), (1, .int v1), (2, .int v2)] [] 0 0 M)) ∧ ((xm_gi M (b + 155) (Int32.toNatClampNeg v1)) = (7 : Int32) → ((v2 = 0 → (xm_st b c p M → xm_X l E y11_wrong rm11_wrong Q 127 [(0, .ref (b + 154)), (1, .int v1), (2, .int (0 : Int32))] [] 0 0 M)) ∧ (¬ v2 = 0 → (vp_in v1 48 ∧ (((xm_gi M (b + 158) (Int32.toNatClampNeg v1)) ≤ 0 → (xm_st b c p M → xm_X l E y11_wrong rm11_wrong Q 127 [(0, .ref (b + 154)), (1, .int v1), (2, .int (0 : Int32))] [] 0 0 M)) ∧ (¬ (xm_gi M (b + 158) (Int32.toNatClampNeg v1)) ≤ 0 → (vp_in v1 48 ∧ (((32 : Int32) ≤ (xm_gi M (b + 158) (Int32.toNatClampNeg v1)) → (xm_st b c p M → xm_X l E y11_wrong rm11_wrong Q 127 [(0, .ref (b + 154)), (1, .int v1), (2, .int (0 : Int32))] [] 0 0 M)) ∧ (¬ (32 : Int32) ≤ (xm_gi M (b + 158) (Int32.toNatClampNeg v1)) → (xm_st b c p M → xm_X l E y11_wrong rm11_wrong Q 127 [(0, .ref (b + 154)), (1, .int v1), (2, .int (1 : Int32))] [] 0 0 M))))))))))))) :
  xm_X l E y11_wrong rm11_wrong Q 86 [(0, .ref (b + 154)), (1, .int v1), (2, .int v2)] [] 0 0 M := by
  refine x_aload_n d11_wrong_86 0 rfl rfl ?_
  refine x_getR d11_wrong_87 fl11_7 (fun _ _ => rfl) (hS.1 _ _ (sh_154 b)) (hS.2.1 _ _ _ (pt_154_2 b)) ?_
  refine x_iload_n d11_wrong_90 1 rfl rfl ?_
  obtain ⟨g1, h⟩ := h
  refine x_iald d11_wrong_91 (hS.1 _ _ (sh_155 b)) g1 ?_
  refine x_bipush d11_wrong_92 qb_7 ?_
  refine x_icmp_ne d11_wrong_94 (t := 127) (by decide) (fun g => ?_) (fun g => ?_)
  · have h := h.1 g
    exact xm_X.sub [0, 1, 2] rfl (h hS)
  · have h := h.2 g
    refine x_iload_n d11_wrong_97 2 rfl rfl ?_
    refine x_if_eq d11_wrong_98 (t := 125) (by decide) (fun g => ?_) (fun g => ?_)
    · have h := h.1 g
      refine x_iconst d11_wrong_125 qi_0 ?_
      refine x_istore_n d11_wrong_126 rfl (by decide) (L' := [(2, .int (0 : Int32)), (0, .ref (b + 154)), (1, .int v1)]) rfl ?_
      exact xm_X.sub [1, 2, 0] rfl (h hS)
    · have h := h.2 g
      refine x_aload_n d11_wrong_101 0 rfl rfl ?_
      refine x_getR d11_wrong_102 fl11_19 (fun _ _ => rfl) (hS.1 _ _ (sh_154 b)) (hS.2.1 _ _ _ (pt_154_5 b)) ?_
      refine x_iload_n d11_wrong_105 1 rfl rfl ?_
      obtain ⟨g2, h⟩ := h
      refine x_iald d11_wrong_106 (hS.1 _ _ (sh_158 b)) g2 ?_
      refine x_if_le d11_wrong_107 (t := 125) (by decide) (fun g => ?_) (fun g => ?_)
      · have h := h.1 g
        refine x_iconst d11_wrong_125 qi_0 ?_
        refine x_istore_n d11_wrong_126 rfl (by decide) (L' := [(2, .int (0 : Int32)), (0, .ref (b + 154)), (1, .int v1)]) rfl ?_
        exact xm_X.sub [1, 2, 0] rfl (h hS)
      · have h := h.2 g
        refine x_aload_n d11_wrong_110 0 rfl rfl ?_
        refine x_getR d11_wrong_111 fl11_19 (fun _ _ => rfl) (hS.1 _ _ (sh_154 b)) (hS.2.1 _ _ _ (pt_154_5 b)) ?_
        refine x_iload_n d11_wrong_114 1 rfl rfl ?_
        obtain ⟨g3, h⟩ := h
        refine x_iald d11_wrong_115 (hS.1 _ _ (sh_158 b)) g3 ?_
        refine x_bipush d11_wrong_116 qb_32 ?_
        refine x_icmp_ge d11_wrong_118 (t := 125) (by decide) (fun g => ?_) (fun g => ?_)
        · have h := h.1 g
          refine x_iconst d11_wrong_125 qi_0 ?_
          refine x_istore_n d11_wrong_126 rfl (by decide) (L' := [(2, .int (0 : Int32)), (0, .ref (b + 154)), (1, .int v1)]) rfl ?_
          exact xm_X.sub [1, 2, 0] rfl (h hS)
        · have h := h.2 g
          refine x_iconst d11_wrong_121 qi_1 ?_
          refine x_goto d11_wrong_122 (t := 126) (by decide) ?_
          refine x_istore_n d11_wrong_126 rfl (by decide) (L' := [(2, .int (1 : Int32)), (0, .ref (b + 154)), (1, .int v1)]) rfl ?_
          exact xm_X.sub [1, 2, 0] rfl (h hS)
set_option maxRecDepth 20000 in
theorem t11_wrong_127 {l : Launch} {E : xm_E} {b : Nat} {c p : Bool} {Q : Option Value → xm_M → Prop} (M : xm_M) (v1 : Int32) (v2 : Int32) (hS : xm_st b c p M)
  (h : (vp_in v1 48 ∧ (((xm_gi M (b + 155) (Int32.toNatClampNeg v1)) ≤ (12 : Int32) → (xm_st b c p M → xm_X l E y11_wrong rm11_wrong Q 171 [(0, .ref (b + 154)), (1, .int v1), (2, .int v2)] [] 0 0 M)) ∧ (¬ (xm_gi M (b + 155) (Int32.toNatClampNeg v1)) ≤ (12 : Int32) → ((v2 = 0 → (xm_st b c p M → xm_X l E y11_wrong rm11_wrong Q 171 [(0, .ref (b + 154)), (1, .int v1), (2, .int (0 : Int32))] [] 0 0 M)) ∧ (¬ v2 = 0 → (vp_in v1 48 ∧ (((xm_gi M (b + 159) (Int32.toNatClampNeg v1)) ≤ v1 → (xm_st b c p M → xm_X l E y11_wrong rm11_wrong Q 171 [(0, .ref (b + 154)), (1, .int v1), (2, .int (0 : Int32))] [] 0 0 M)) ∧ (¬ (xm_gi M (b + 159) (Int32.toNatClampNeg v1)) ≤ v1 → (vp_in v1 48 ∧ (((xm_gi M (b + 154) 1) ≤ (xm_gi M (b + 159) (Int32.toNatClampNeg v1)) → (xm_st b c p M → xm_X l E y11_wrong rm11_wrong Q 171 [(0, .ref (b + 154)), (1, .int v1), (2, .int (0 : Int32))] [] 0 0 M)) ∧ (¬ (xm_gi M (b + 154) 1) ≤ (xm_gi M (b + 159) (Int32.toNatClampNeg v1)) → (xm_st b c p M → xm_X l E y11_wrong rm11_wrong Q 171 [(0, .ref (b + 154)), (1, .int v1), (2, .int (1 : Int32))] [] 0 0 M))))))))))))) :
  xm_X l E y11_wrong rm11_wrong Q 127 [(0, .ref (b + 154)), (1, .int v1), (2, .int v2)] [] 0 0 M := by
  refine x_aload_n d11_wrong_127 0 rfl rfl ?_
  refine x_getR d11_wrong_128 fl11_7 (fun _ _ => rfl) (hS.1 _ _ (sh_154 b)) (hS.2.1 _ _ _ (pt_154_2 b)) ?_
  refine x_iload_n d11_wrong_131 1 rfl rfl ?_
  obtain ⟨g1, h⟩ := h
  refine x_iald d11_wrong_132 (hS.1 _ _ (sh_155 b)) g1 ?_
  refine x_bipush d11_wrong_133 qb_12 ?_
  refine x_icmp_le d11_wrong_135 (t := 171) (by decide) (fun g => ?_) (fun g => ?_)
  · have h := h.1 g
    exact xm_X.sub [0, 1, 2] rfl (h hS)
  · have h := h.2 g
    refine x_iload_n d11_wrong_138 2 rfl rfl ?_
    refine x_if_eq d11_wrong_139 (t := 169) (by decide) (fun g => ?_) (fun g => ?_)
    · have h := h.1 g
      refine x_iconst d11_wrong_169 qi_0 ?_
      refine x_istore_n d11_wrong_170 rfl (by decide) (L' := [(2, .int (0 : Int32)), (0, .ref (b + 154)), (1, .int v1)]) rfl ?_
      exact xm_X.sub [1, 2, 0] rfl (h hS)
    · have h := h.2 g
      refine x_aload_n d11_wrong_142 0 rfl rfl ?_
      refine x_getR d11_wrong_143 fl11_22 (fun _ _ => rfl) (hS.1 _ _ (sh_154 b)) (hS.2.1 _ _ _ (pt_154_6 b)) ?_
      refine x_iload_n d11_wrong_146 1 rfl rfl ?_
      obtain ⟨g2, h⟩ := h
      refine x_iald d11_wrong_147 (hS.1 _ _ (sh_159 b)) g2 ?_
      refine x_iload_n d11_wrong_148 1 rfl rfl ?_
      refine x_icmp_le d11_wrong_149 (t := 169) (by decide) (fun g => ?_) (fun g => ?_)
      · have h := h.1 g
        refine x_iconst d11_wrong_169 qi_0 ?_
        refine x_istore_n d11_wrong_170 rfl (by decide) (L' := [(2, .int (0 : Int32)), (0, .ref (b + 154)), (1, .int v1)]) rfl ?_
        exact xm_X.sub [1, 2, 0] rfl (h hS)
      · have h := h.2 g
        refine x_aload_n d11_wrong_152 0 rfl rfl ?_
        refine x_getR d11_wrong_153 fl11_22 (fun _ _ => rfl) (hS.1 _ _ (sh_154 b)) (hS.2.1 _ _ _ (pt_154_6 b)) ?_
        refine x_iload_n d11_wrong_156 1 rfl rfl ?_
        obtain ⟨g3, h⟩ := h
        refine x_iald d11_wrong_157 (hS.1 _ _ (sh_159 b)) g3 ?_
        refine x_aload_n d11_wrong_158 0 rfl rfl ?_
        refine x_getI d11_wrong_159 fl11_89 (fun _ _ => rfl) (hS.1 _ _ (sh_154 b)) ?_
        refine x_icmp_ge d11_wrong_162 (t := 169) (by decide) (fun g => ?_) (fun g => ?_)
        · have h := h.1 g
          refine x_iconst d11_wrong_169 qi_0 ?_
          refine x_istore_n d11_wrong_170 rfl (by decide) (L' := [(2, .int (0 : Int32)), (0, .ref (b + 154)), (1, .int v1)]) rfl ?_
          exact xm_X.sub [1, 2, 0] rfl (h hS)
        · have h := h.2 g
          refine x_iconst d11_wrong_165 qi_1 ?_
          refine x_goto d11_wrong_166 (t := 170) (by decide) ?_
          refine x_istore_n d11_wrong_170 rfl (by decide) (L' := [(2, .int (1 : Int32)), (0, .ref (b + 154)), (1, .int v1)]) rfl ?_
          exact xm_X.sub [1, 2, 0] rfl (h hS)
set_option maxRecDepth 20000 in
theorem t11_wrong_171 {l : Launch} {E : xm_E} {b : Nat} {c p : Bool} {Q : Option Value → xm_M → Prop} (M : xm_M) (v1 : Int32) (v2 : Int32) (hS : xm_st b c p M)
  (h : ((¬ v2 = 0 → (xm_st b c p M → xm_X l E y11_wrong rm11_wrong Q 2 [(0, .ref (b + 154)), (1, .int (v1 + Int32.ofInt (1)))] [] 0 0 M)) ∧ (v2 = 0 → (xm_st b c p M → Q (some (.int v1)) M)))) :
  xm_X l E y11_wrong rm11_wrong Q 171 [(0, .ref (b + 154)), (1, .int v1), (2, .int v2)] [] 0 0 M := by
  refine x_iload_n d11_wrong_171 2 rfl rfl ?_
  refine x_if_ne d11_wrong_172 (t := 177) (by decide) (fun g => ?_) (fun g => ?_)
  · have h := h.1 g
    refine x_iinc d11_wrong_177 1 rfl rfl (by decide) (L' := [(1, .int (v1 + Int32.ofInt (1))), (0, .ref (b + 154)), (2, .int v2)]) rfl ?_
    refine x_goto d11_wrong_180 (t := 2) (by decide) ?_
    exact xm_X.sub [1, 0] rfl (h hS)
  · have h := h.2 g
    refine x_iload_n d11_wrong_175 1 rfl rfl ?_
    exact x_ret (r := (some (.int v1))) d11_wrong_176 xm_rI rfl ⟨Nat.le_refl _, Nat.le_refl _⟩ (h hS)

set_option maxRecDepth 20000 in
theorem t11_findBounds_0 {l : Launch} {E : xm_E} {b : Nat} {c p : Bool} {Q : Option Value → xm_M → Prop} (M : xm_M)  (hS : xm_st b c p M)
  (h : (xm_st b c p M → xm_X l E y11_findBounds rm11_findBounds Q 2 [(0, .ref (b + 154)), (1, .int (0 : Int32))] [] 0 0 M)) :
  xm_X l E y11_findBounds rm11_findBounds Q 0 [(0, .ref (b + 154))] [] 0 0 M := by
  refine x_iconst d11_findBounds_0 qi_0 ?_
  refine x_istore_n d11_findBounds_1 rfl (by decide) (L' := [(1, .int (0 : Int32)), (0, .ref (b + 154))]) rfl ?_
  exact xm_X.sub [1, 0] rfl (h hS)
set_option maxRecDepth 20000 in
theorem t11_findBounds_2 {l : Launch} {E : xm_E} {b : Nat} {c p : Bool} {Q : Option Value → xm_M → Prop} (M : xm_M) (v1 : Int32) (hS : xm_st b c p M)
  (h : (((xm_gi M (b + 154) 1) ≤ v1 → xm_C l E y11_beginning rm11_beginning [.ref (b + 154)] M (fun r M1 => r = none ∧ xm_st b c p M1 ∧ xm_C l E y11_relax rm11_relax [.ref (b + 154)] M1 (fun r M3 => ∃ r4 : Bool, r = some (.int (xz r4)) ∧ xm_st b c p M3 ∧ xm_C l E y11_come rm11_come [.ref (b + 154), .int (0 : Int32)] M3 (fun r M5 => r = none ∧ xm_st b c p M5 ∧ (xm_st b c p M5 → xm_X l E y11_findBounds rm11_findBounds Q 39 [(0, .ref (b + 154)), (1, .int (0 : Int32))] [] 0 0 M5))))) ∧ (¬ (xm_gi M (b + 154) 1) ≤ v1 → (vp_in v1 48 ∧ (xm_st b c p (xm_pi M (b + 167) (Int32.toNatClampNeg v1) (0 : Int32)) → xm_X l E y11_findBounds rm11_findBounds Q 2 [(0, .ref (b + 154)), (1, .int (v1 + Int32.ofInt (1)))] [] 0 0 (xm_pi M (b + 167) (Int32.toNatClampNeg v1) (0 : Int32))))))) :
  xm_X l E y11_findBounds rm11_findBounds Q 2 [(0, .ref (b + 154)), (1, .int v1)] [] 0 0 M := by
  refine x_iload_n d11_findBounds_2 1 rfl rfl ?_
  refine x_aload_n d11_findBounds_3 0 rfl rfl ?_
  refine x_getI d11_findBounds_4 fl11_89 (fun _ _ => rfl) (hS.1 _ _ (sh_154 b)) ?_
  refine x_icmp_ge d11_findBounds_7 (t := 23) (by decide) (fun g => ?_) (fun g => ?_)
  · have h := h.1 g
    refine x_aload_n d11_findBounds_23 0 rfl rfl ?_
    refine x_cVN (Z := y11_beginning) (S := rm11_beginning) (As := []) (rest := []) d11_findBounds_24 ml11_148 k11_beginning rfl (b := (b + 154)) (hS.1 _ _ (sh_154 b)) rfl rfl (Nat.le_of_ble_eq_true rfl) ⟨⟨by decide, by decide⟩, by decide, by decide⟩ ⟨rfl, rfl⟩ h (fun M1 h => ?_)
    obtain ⟨hS, h⟩ := h
    refine x_aload_n d11_findBounds_27 0 rfl rfl ?_
    refine x_cVZ (Z := y11_relax) (S := rm11_relax) (As := []) (rest := []) d11_findBounds_28 ml11_151 k11_relax rfl (b := (b + 154)) (hS.1 _ _ (sh_154 b)) rfl rfl (Nat.le_of_ble_eq_true rfl) ⟨⟨by decide, by decide⟩, by decide, by decide⟩ ⟨rfl, rfl⟩ h (fun r4 M3 h => ?_)
    obtain ⟨hS, h⟩ := h
    refine x_pop d11_findBounds_31 rfl ?_
    refine x_aload_n d11_findBounds_32 0 rfl rfl ?_
    refine x_iconst d11_findBounds_33 qi_0 ?_
    refine x_cVN (Z := y11_come) (S := rm11_come) (As := [.int (0 : Int32)]) (rest := []) d11_findBounds_34 ml11_155 k11_come rfl (b := (b + 154)) (hS.1 _ _ (sh_154 b)) rfl rfl (Nat.le_of_ble_eq_true rfl) ⟨⟨by decide, by decide⟩, by decide, by decide⟩ ⟨rfl, rfl⟩ h (fun M5 h => ?_)
    obtain ⟨hS, h⟩ := h
    refine x_iconst d11_findBounds_37 qi_0 ?_
    refine x_istore_n d11_findBounds_38 rfl (by decide) (L' := [(1, .int (0 : Int32)), (0, .ref (b + 154))]) rfl ?_
    exact xm_X.sub [1, 0] rfl (h hS)
  · have h := h.2 g
    refine x_aload_n d11_findBounds_10 0 rfl rfl ?_
    refine x_getR d11_findBounds_11 fl11_52 (fun _ _ => rfl) (hS.1 _ _ (sh_154 b)) (hS.2.1 _ _ _ (pt_154_21 b)) ?_
    refine x_iload_n d11_findBounds_14 1 rfl rfl ?_
    refine x_iconst d11_findBounds_15 qi_0 ?_
    obtain ⟨g7, h⟩ := h
    refine x_zast d11_findBounds_16 (hS.1 _ _ (sh_167 b)) g7 rfl ?_
    refine x_iinc d11_findBounds_17 1 rfl rfl (by decide) (L' := [(1, .int (v1 + Int32.ofInt (1))), (0, .ref (b + 154))]) rfl ?_
    refine x_goto d11_findBounds_20 (t := 2) (by decide) ?_
    exact xm_X.sub [1, 0] rfl (h hS.pi)
set_option maxRecDepth 20000 in
theorem t11_findBounds_39 {l : Launch} {E : xm_E} {b : Nat} {c p : Bool} {Q : Option Value → xm_M → Prop} (M : xm_M) (v1 : Int32) (hS : xm_st b c p M)
  (h : (((xm_gi M (b + 154) 1) ≤ v1 → (xm_st b c p M → Q none M)) ∧ (¬ (xm_gi M (b + 154) 1) ≤ v1 → (xm_st b c p M → xm_X l E y11_findBounds rm11_findBounds Q 49 [(0, .ref (b + 154)), (1, .int v1), (2, .int (0 : Int32))] [] 0 0 M)))) :
  xm_X l E y11_findBounds rm11_findBounds Q 39 [(0, .ref (b + 154)), (1, .int v1)] [] 0 0 M := by
  refine x_iload_n d11_findBounds_39 1 rfl rfl ?_
  refine x_aload_n d11_findBounds_40 0 rfl rfl ?_
  refine x_getI d11_findBounds_41 fl11_89 (fun _ _ => rfl) (hS.1 _ _ (sh_154 b)) ?_
  refine x_icmp_ge d11_findBounds_44 (t := 135) (by decide) (fun g => ?_) (fun g => ?_)
  · have h := h.1 g
    exact x_ret (r := none) d11_findBounds_135 xm_rN rfl ⟨Nat.le_refl _, Nat.le_refl _⟩ (h hS)
  · have h := h.2 g
    refine x_iconst d11_findBounds_47 qi_0 ?_
    refine x_istore_n d11_findBounds_48 rfl (by decide) (L' := [(2, .int (0 : Int32)), (0, .ref (b + 154)), (1, .int v1)]) rfl ?_
    exact xm_X.sub [1, 2, 0] rfl (h hS)
set_option maxRecDepth 20000 in
theorem t11_findBounds_49 {l : Launch} {E : xm_E} {b : Nat} {c p : Bool} {Q : Option Value → xm_M → Prop} (M : xm_M) (v1 : Int32) (v2 : Int32) (hS : xm_st b c p M)
  (h : (((2 : Int32) ≤ v2 → (xm_st b c p M → xm_X l E y11_findBounds rm11_findBounds Q 39 [(0, .ref (b + 154)), (1, .int (v1 + Int32.ofInt (1)))] [] 0 0 M)) ∧ (¬ (2 : Int32) ≤ v2 → (vp_in v1 48 ∧ (((xm_gi M (b + 167) (Int32.toNatClampNeg v1)) = 0 → (xm_st b c p M → xm_X l E y11_findBounds rm11_findBounds Q 39 [(0, .ref (b + 154)), (1, .int (v1 + Int32.ofInt (1)))] [] 0 0 M)) ∧ (¬ (xm_gi M (b + 167) (Int32.toNatClampNeg v1)) = 0 → xm_C l E y11_end rm11_end [.ref (b + 154), .int v1, .int v2] M (fun r M2 => ∃ r3 : Int32, r = some (.int r3) ∧ xm_st b c p M2 ∧ ((0 ≤ r3 → xm_C l E y11_stepsOf rm11_stepsOf [.ref (b + 154), .int v1, .int v2] M2 (fun r M4 => r = none ∧ xm_st b c p M4 ∧ xm_C l E y11_relax rm11_relax [.ref (b + 154)] M4 (fun r M6 => ∃ r7 : Bool, r = some (.int (xz r7)) ∧ xm_st b c p M6 ∧ ((¬ (xz r7) = 0 → (vp_in (((2 : Int32) * v1) + v2) 96 ∧ (vp_in (((2 : Int32) * v1) + v2) 96 ∧ ((¬ (xm_gi (xm_pi M6 (b + 168) (Int32.toNatClampNeg (((2 : Int32) * v1) + v2)) (0 : Int32)) (b + 168) (Int32.toNatClampNeg (((2 : Int32) * v1) + v2))) = 0 → (xm_st b c p (xm_pi M6 (b + 168) (Int32.toNatClampNeg (((2 : Int32) * v1) + v2)) (0 : Int32)) → xm_X l E y11_findBounds rm11_findBounds Q 49 [(0, .ref (b + 154)), (1, .int v1), (2, .int (v2 + Int32.ofInt (1)))] [] 0 0 (xm_pi M6 (b + 168) (Int32.toNatClampNeg (((2 : Int32) * v1) + v2)) (0 : Int32)))) ∧ ((xm_gi (xm_pi M6 (b + 168) (Int32.toNatClampNeg (((2 : Int32) * v1) + v2)) (0 : Int32)) (b + 168) (Int32.toNatClampNeg (((2 : Int32) * v1) + v2))) = 0 → xm_C l E y11_come rm11_come [.ref (b + 154), .int r3] (xm_pi M6 (b + 168) (Int32.toNatClampNeg (((2 : Int32) * v1) + v2)) (0 : Int32)) (fun r M10 => r = none ∧ xm_st b c p M10 ∧ (xm_st b c p M10 → xm_X l E y11_findBounds rm11_findBounds Q 49 [(0, .ref (b + 154)), (1, .int v1), (2, .int (v2 + Int32.ofInt (1)))] [] 0 0 M10))))))) ∧ ((xz r7) = 0 → (vp_in (((2 : Int32) * v1) + v2) 96 ∧ (vp_in (((2 : Int32) * v1) + v2) 96 ∧ ((¬ (xm_gi (xm_pi M6 (b + 168) (Int32.toNatClampNeg (((2 : Int32) * v1) + v2)) (1 : Int32)) (b + 168) (Int32.toNatClampNeg (((2 : Int32) * v1) + v2))) = 0 → (xm_st b c p (xm_pi M6 (b + 168) (Int32.toNatClampNeg (((2 : Int32) * v1) + v2)) (1 : Int32)) → xm_X l E y11_findBounds rm11_findBounds Q 49 [(0, .ref (b + 154)), (1, .int v1), (2, .int (v2 + Int32.ofInt (1)))] [] 0 0 (xm_pi M6 (b + 168) (Int32.toNatClampNeg (((2 : Int32) * v1) + v2)) (1 : Int32)))) ∧ ((xm_gi (xm_pi M6 (b + 168) (Int32.toNatClampNeg (((2 : Int32) * v1) + v2)) (1 : Int32)) (b + 168) (Int32.toNatClampNeg (((2 : Int32) * v1) + v2))) = 0 → xm_C l E y11_come rm11_come [.ref (b + 154), .int r3] (xm_pi M6 (b + 168) (Int32.toNatClampNeg (((2 : Int32) * v1) + v2)) (1 : Int32)) (fun r M14 => r = none ∧ xm_st b c p M14 ∧ (xm_st b c p M14 → xm_X l E y11_findBounds rm11_findBounds Q 49 [(0, .ref (b + 154)), (1, .int v1), (2, .int (v2 + Int32.ofInt (1)))] [] 0 0 M14))))))))))) ∧ (¬ 0 ≤ r3 → (xm_st b c p M2 → xm_X l E y11_findBounds rm11_findBounds Q 49 [(0, .ref (b + 154)), (1, .int v1), (2, .int (v2 + Int32.ofInt (1)))] [] 0 0 M2)))))))))) :
  xm_X l E y11_findBounds rm11_findBounds Q 49 [(0, .ref (b + 154)), (1, .int v1), (2, .int v2)] [] 0 0 M := by
  refine x_iload_n d11_findBounds_49 2 rfl rfl ?_
  refine x_iconst d11_findBounds_50 qi_2 ?_
  refine x_icmp_ge d11_findBounds_51 (t := 129) (by decide) (fun g => ?_) (fun g => ?_)
  · have h := h.1 g
    refine x_iinc d11_findBounds_129 1 rfl rfl (by decide) (L' := [(1, .int (v1 + Int32.ofInt (1))), (0, .ref (b + 154)), (2, .int v2)]) rfl ?_
    refine x_goto d11_findBounds_132 (t := 39) (by decide) ?_
    exact xm_X.sub [1, 0] rfl (h hS)
  · have h := h.2 g
    refine x_aload_n d11_findBounds_54 0 rfl rfl ?_
    refine x_getR d11_findBounds_55 fl11_52 (fun _ _ => rfl) (hS.1 _ _ (sh_154 b)) (hS.2.1 _ _ _ (pt_154_21 b)) ?_
    refine x_iload_n d11_findBounds_58 1 rfl rfl ?_
    obtain ⟨g1, h⟩ := h
    refine x_zald d11_findBounds_59 (hS.1 _ _ (sh_167 b)) g1 ?_
    refine x_if_eq d11_findBounds_60 (t := 129) (by decide) (fun g => ?_) (fun g => ?_)
    · have h := h.1 g
      refine x_iinc d11_findBounds_129 1 rfl rfl (by decide) (L' := [(1, .int (v1 + Int32.ofInt (1))), (0, .ref (b + 154)), (2, .int v2)]) rfl ?_
      refine x_goto d11_findBounds_132 (t := 39) (by decide) ?_
      exact xm_X.sub [1, 0] rfl (h hS)
    · have h := h.2 g
      refine x_aload_n d11_findBounds_63 0 rfl rfl ?_
      refine x_iload_n d11_findBounds_64 1 rfl rfl ?_
      refine x_iload_n d11_findBounds_65 2 rfl rfl ?_
      refine x_cVI (Z := y11_end) (S := rm11_end) (As := [.int v1, .int v2]) (rest := []) d11_findBounds_66 ml11_159 k11_end rfl (b := (b + 154)) (hS.1 _ _ (sh_154 b)) rfl rfl (Nat.le_of_ble_eq_true rfl) ⟨⟨by decide, by decide⟩, by decide, by decide⟩ ⟨rfl, rfl⟩ h (fun r3 M2 h => ?_)
      obtain ⟨hS, h⟩ := h
      refine x_istore_n d11_findBounds_69 rfl (by decide) (L' := [(3, .int r3), (0, .ref (b + 154)), (1, .int v1), (2, .int v2)]) rfl ?_
      refine x_iload_n d11_findBounds_70 0 rfl rfl ?_
      refine x_if_ge d11_findBounds_71 (t := 77) (by decide) (fun g => ?_) (fun g => ?_)
      · have h := h.1 g
        refine x_aload_n d11_findBounds_77 1 rfl rfl ?_
        refine x_iload_n d11_findBounds_78 2 rfl rfl ?_
        refine x_iload_n d11_findBounds_79 3 rfl rfl ?_
        refine x_cVN (Z := y11_stepsOf) (S := rm11_stepsOf) (As := [.int v1, .int v2]) (rest := []) d11_findBounds_80 ml11_163 k11_stepsOf rfl (b := (b + 154)) (hS.1 _ _ (sh_154 b)) rfl rfl (Nat.le_of_ble_eq_true rfl) ⟨⟨by decide, by decide⟩, by decide, by decide⟩ ⟨rfl, rfl⟩ h (fun M4 h => ?_)
        obtain ⟨hS, h⟩ := h
        refine x_aload_n d11_findBounds_83 1 rfl rfl ?_
        refine x_getR d11_findBounds_84 fl11_56 (fun _ _ => rfl) (hS.1 _ _ (sh_154 b)) (hS.2.1 _ _ _ (pt_154_22 b)) ?_
        refine x_iconst d11_findBounds_87 qi_2 ?_
        refine x_iload_n d11_findBounds_88 2 rfl rfl ?_
        refine x_imul d11_findBounds_89 ?_
        refine x_iload_n d11_findBounds_90 3 rfl rfl ?_
        refine x_iadd d11_findBounds_91 ?_
        refine x_aload_n d11_findBounds_92 1 rfl rfl ?_
        refine x_cVZ (Z := y11_relax) (S := rm11_relax) (As := []) (rest := [.int (((2 : Int32) * v1) + v2), .ref (b + 168)]) d11_findBounds_93 ml11_151 k11_relax rfl (b := (b + 154)) (hS.1 _ _ (sh_154 b)) rfl rfl (Nat.le_of_ble_eq_true rfl) ⟨⟨by decide, by decide⟩, by decide, by decide⟩ ⟨rfl, rfl⟩ h (fun r7 M6 h => ?_)
        obtain ⟨hS, h⟩ := h
        refine x_if_ne d11_findBounds_96 (t := 103) (by decide) (fun g => ?_) (fun g => ?_)
        · have h := h.1 g
          refine x_iconst d11_findBounds_103 qi_0 ?_
          obtain ⟨g8, h⟩ := h
          refine x_zast d11_findBounds_104 (hS.1 _ _ (sh_168 b)) g8 rfl ?_
          refine x_aload_n d11_findBounds_105 1 rfl rfl ?_
          refine x_getR d11_findBounds_106 fl11_56 (fun _ _ => rfl) (hS.pi.1 _ _ (sh_154 b)) (hS.pi.2.1 _ _ _ (pt_154_22 b)) ?_
          refine x_iconst d11_findBounds_109 qi_2 ?_
          refine x_iload_n d11_findBounds_110 2 rfl rfl ?_
          refine x_imul d11_findBounds_111 ?_
          refine x_iload_n d11_findBounds_112 3 rfl rfl ?_
          refine x_iadd d11_findBounds_113 ?_
          obtain ⟨g9, h⟩ := h
          refine x_zald d11_findBounds_114 (hS.pi.1 _ _ (sh_168 b)) g9 ?_
          refine x_if_ne d11_findBounds_115 (t := 123) (by decide) (fun g => ?_) (fun g => ?_)
          · have h := h.1 g
            refine x_iinc d11_findBounds_123 3 rfl rfl (by decide) (L' := [(2, .int (v2 + Int32.ofInt (1))), (3, .int r3), (0, .ref (b + 154)), (1, .int v1)]) rfl ?_
            refine x_goto d11_findBounds_126 (t := 49) (by decide) ?_
            exact xm_X.sub [2, 3, 0] rfl (h hS.pi)
          · have h := h.2 g
            refine x_aload_n d11_findBounds_118 1 rfl rfl ?_
            refine x_iload_n d11_findBounds_119 0 rfl rfl ?_
            refine x_cVN (Z := y11_come) (S := rm11_come) (As := [.int r3]) (rest := []) d11_findBounds_120 ml11_155 k11_come rfl (b := (b + 154)) (hS.pi.1 _ _ (sh_154 b)) rfl rfl (Nat.le_of_ble_eq_true rfl) ⟨⟨by decide, by decide⟩, by decide, by decide⟩ ⟨rfl, rfl⟩ h (fun M10 h => ?_)
            obtain ⟨hS, h⟩ := h
            refine x_iinc d11_findBounds_123 3 rfl rfl (by decide) (L' := [(2, .int (v2 + Int32.ofInt (1))), (3, .int r3), (0, .ref (b + 154)), (1, .int v1)]) rfl ?_
            refine x_goto d11_findBounds_126 (t := 49) (by decide) ?_
            exact xm_X.sub [2, 3, 0] rfl (h hS)
        · have h := h.2 g
          refine x_iconst d11_findBounds_99 qi_1 ?_
          refine x_goto d11_findBounds_100 (t := 104) (by decide) ?_
          obtain ⟨g12, h⟩ := h
          refine x_zast d11_findBounds_104 (hS.1 _ _ (sh_168 b)) g12 rfl ?_
          refine x_aload_n d11_findBounds_105 1 rfl rfl ?_
          refine x_getR d11_findBounds_106 fl11_56 (fun _ _ => rfl) (hS.pi.1 _ _ (sh_154 b)) (hS.pi.2.1 _ _ _ (pt_154_22 b)) ?_
          refine x_iconst d11_findBounds_109 qi_2 ?_
          refine x_iload_n d11_findBounds_110 2 rfl rfl ?_
          refine x_imul d11_findBounds_111 ?_
          refine x_iload_n d11_findBounds_112 3 rfl rfl ?_
          refine x_iadd d11_findBounds_113 ?_
          obtain ⟨g13, h⟩ := h
          refine x_zald d11_findBounds_114 (hS.pi.1 _ _ (sh_168 b)) g13 ?_
          refine x_if_ne d11_findBounds_115 (t := 123) (by decide) (fun g => ?_) (fun g => ?_)
          · have h := h.1 g
            refine x_iinc d11_findBounds_123 3 rfl rfl (by decide) (L' := [(2, .int (v2 + Int32.ofInt (1))), (3, .int r3), (0, .ref (b + 154)), (1, .int v1)]) rfl ?_
            refine x_goto d11_findBounds_126 (t := 49) (by decide) ?_
            exact xm_X.sub [2, 3, 0] rfl (h hS.pi)
          · have h := h.2 g
            refine x_aload_n d11_findBounds_118 1 rfl rfl ?_
            refine x_iload_n d11_findBounds_119 0 rfl rfl ?_
            refine x_cVN (Z := y11_come) (S := rm11_come) (As := [.int r3]) (rest := []) d11_findBounds_120 ml11_155 k11_come rfl (b := (b + 154)) (hS.pi.1 _ _ (sh_154 b)) rfl rfl (Nat.le_of_ble_eq_true rfl) ⟨⟨by decide, by decide⟩, by decide, by decide⟩ ⟨rfl, rfl⟩ h (fun M14 h => ?_)
            obtain ⟨hS, h⟩ := h
            refine x_iinc d11_findBounds_123 3 rfl rfl (by decide) (L' := [(2, .int (v2 + Int32.ofInt (1))), (3, .int r3), (0, .ref (b + 154)), (1, .int v1)]) rfl ?_
            refine x_goto d11_findBounds_126 (t := 49) (by decide) ?_
            exact xm_X.sub [2, 3, 0] rfl (h hS)
      · have h := h.2 g
        refine x_goto d11_findBounds_74 (t := 123) (by decide) ?_
        refine x_iinc d11_findBounds_123 3 rfl rfl (by decide) (L' := [(2, .int (v2 + Int32.ofInt (1))), (3, .int r3), (0, .ref (b + 154)), (1, .int v1)]) rfl ?_
        refine x_goto d11_findBounds_126 (t := 49) (by decide) ?_
        exact xm_X.sub [2, 3, 0] rfl (h hS)

set_option maxRecDepth 20000 in
theorem t11_beginning_0 {l : Launch} {E : xm_E} {b : Nat} {c p : Bool} {Q : Option Value → xm_M → Prop} (M : xm_M)  (hS : xm_st b c p M)
  (h : xm_C l E y11_both rm11_both [.ref (b + 154), .int (0 : Int32), .int (2 : Int32), .int (9 : Int32), .long (0 : Int64), .long (0 : Int64)] (xm_pi (xm_pi M (b + 154) 19 (0 : Int32)) (b + 154) 14 (0 : Int32)) (fun r M1 => r = none ∧ xm_st b c p M1 ∧ (xm_st b c p M1 → xm_X l E y11_beginning rm11_beginning Q 24 [(0, .ref (b + 154)), (1, .int (2 : Int32)), (2, .int (0 : Int32))] [] 0 0 M1))) :
  xm_X l E y11_beginning rm11_beginning Q 0 [(0, .ref (b + 154))] [] 0 0 M := by
  refine x_aload_n d11_beginning_0 0 rfl rfl ?_
  refine x_iconst d11_beginning_1 qi_0 ?_
  refine x_putI d11_beginning_2 fw11_92 (fun _ _ => rfl) rfl rfl (hS.1 _ _ (sh_154 b)) ?_
  refine x_aload_n d11_beginning_5 0 rfl rfl ?_
  refine x_iconst d11_beginning_6 qi_0 ?_
  refine x_putI d11_beginning_7 fw11_100 (fun _ _ => rfl) rfl rfl (hS.pi.1 _ _ (sh_154 b)) ?_
  refine x_aload_n d11_beginning_10 0 rfl rfl ?_
  refine x_iconst d11_beginning_11 qi_0 ?_
  refine x_iconst d11_beginning_12 qi_2 ?_
  refine x_bipush d11_beginning_13 qb_9 ?_
  refine x_lconst d11_beginning_15 ql_0 ?_
  refine x_lconst d11_beginning_16 ql_0 ?_
  refine x_cVN (Z := y11_both) (S := rm11_both) (As := [.int (0 : Int32), .int (2 : Int32), .int (9 : Int32), .long (0 : Int64), .long (0 : Int64)]) (rest := []) d11_beginning_17 ml11_111 k11_both rfl (b := (b + 154)) (hS.pi.pi.1 _ _ (sh_154 b)) rfl rfl (Nat.le_of_ble_eq_true rfl) ⟨⟨by decide, by decide⟩, by decide, by decide⟩ ⟨rfl, rfl⟩ h (fun M1 h => ?_)
  obtain ⟨hS, h⟩ := h
  refine x_iconst d11_beginning_20 qi_2 ?_
  refine x_istore_n d11_beginning_21 rfl (by decide) (L' := [(1, .int (2 : Int32)), (0, .ref (b + 154))]) rfl ?_
  refine x_iconst d11_beginning_22 qi_0 ?_
  refine x_istore_n d11_beginning_23 rfl (by decide) (L' := [(2, .int (0 : Int32)), (1, .int (2 : Int32)), (0, .ref (b + 154))]) rfl ?_
  exact xm_X.sub [2, 1, 0] rfl (h hS)
set_option maxRecDepth 20000 in
theorem t11_beginning_24 {l : Launch} {E : xm_E} {b : Nat} {c p : Bool} {Q : Option Value → xm_M → Prop} (M : xm_M) (v1 : Int32) (v2 : Int32) (hS : xm_st b c p M)
  (h : (((8 : Int32) ≤ v2 → xm_C l E y11_step rm11_step [.ref (b + 154), .int v1, .int (0 : Int32), .int (9 : Int32), .long (-(Int32.toInt64 (xm_gi M (b + 154) 0)))] M (fun r M1 => r = none ∧ xm_st b c p M1 ∧ xm_C l E y11_step rm11_step [.ref (b + 154), .int (v1 + (1 : Int32)), .int (9 : Int32), .int (0 : Int32), .long (1024 : Int64)] M1 (fun r M3 => r = none ∧ xm_st b c p M3 ∧ (xm_st b c p M3 → Q none M3)))) ∧ (¬ (8 : Int32) ≤ v2 → ((¬ v2 = (1 : Int32) → xm_C l E y11_both rm11_both [.ref (b + 154), .int v1, .int ((1 : Int32) + v2), .int (0 : Int32), .long (0 : Int64), .long (0 : Int64)] M (fun r M5 => r = none ∧ xm_st b c p M5 ∧ (xm_st b c p M5 → xm_X l E y11_beginning rm11_beginning Q 24 [(0, .ref (b + 154)), (1, .int (v1 + Int32.ofInt (2))), (2, .int (v2 + Int32.ofInt (1)))] [] 0 0 M5))) ∧ (v2 = (1 : Int32) → (xm_st b c p M → xm_X l E y11_beginning rm11_beginning Q 24 [(0, .ref (b + 154)), (1, .int v1), (2, .int (v2 + Int32.ofInt (1)))] [] 0 0 M)))))) :
  xm_X l E y11_beginning rm11_beginning Q 24 [(0, .ref (b + 154)), (1, .int v1), (2, .int v2)] [] 0 0 M := by
  refine x_iload_n d11_beginning_24 2 rfl rfl ?_
  refine x_bipush d11_beginning_25 qb_8 ?_
  refine x_icmp_ge d11_beginning_27 (t := 58) (by decide) (fun g => ?_) (fun g => ?_)
  · have h := h.1 g
    refine x_aload_n d11_beginning_58 0 rfl rfl ?_
    refine x_iload_n d11_beginning_59 1 rfl rfl ?_
    refine x_iconst d11_beginning_60 qi_0 ?_
    refine x_bipush d11_beginning_61 qb_9 ?_
    refine x_aload_n d11_beginning_63 0 rfl rfl ?_
    refine x_getI d11_beginning_64 fl11_86 (fun _ _ => rfl) (hS.1 _ _ (sh_154 b)) ?_
    refine x_i2l d11_beginning_67 ?_
    refine x_lneg d11_beginning_68 ?_
    refine x_cVN (Z := y11_step) (S := rm11_step) (As := [.int v1, .int (0 : Int32), .int (9 : Int32), .long (-(Int32.toInt64 (xm_gi M (b + 154) 0)))]) (rest := []) d11_beginning_69 ml11_107 k11_step rfl (b := (b + 154)) (hS.1 _ _ (sh_154 b)) rfl rfl (Nat.le_of_ble_eq_true rfl) ⟨⟨by decide, by decide⟩, by decide, by decide⟩ ⟨rfl, rfl⟩ h (fun M1 h => ?_)
    obtain ⟨hS, h⟩ := h
    refine x_aload_n d11_beginning_72 0 rfl rfl ?_
    refine x_iload_n d11_beginning_73 1 rfl rfl ?_
    refine x_iconst d11_beginning_74 qi_1 ?_
    refine x_iadd d11_beginning_75 ?_
    refine x_bipush d11_beginning_76 qb_9 ?_
    refine x_iconst d11_beginning_78 qi_0 ?_
    refine x_ldc2 d11_beginning_79 lc11_121 ?_
    refine x_cVN (Z := y11_step) (S := rm11_step) (As := [.int (v1 + (1 : Int32)), .int (9 : Int32), .int (0 : Int32), .long (1024 : Int64)]) (rest := []) d11_beginning_82 ml11_107 k11_step rfl (b := (b + 154)) (hS.1 _ _ (sh_154 b)) rfl rfl (Nat.le_of_ble_eq_true rfl) ⟨⟨by decide, by decide⟩, by decide, by decide⟩ ⟨rfl, rfl⟩ h (fun M3 h => ?_)
    obtain ⟨hS, h⟩ := h
    exact x_ret (r := none) d11_beginning_85 xm_rN rfl ⟨Nat.le_refl _, Nat.le_refl _⟩ (h hS)
  · have h := h.2 g
    refine x_iload_n d11_beginning_30 2 rfl rfl ?_
    refine x_iconst d11_beginning_31 qi_1 ?_
    refine x_icmp_ne d11_beginning_32 (t := 38) (by decide) (fun g => ?_) (fun g => ?_)
    · have h := h.1 g
      refine x_aload_n d11_beginning_38 0 rfl rfl ?_
      refine x_iload_n d11_beginning_39 1 rfl rfl ?_
      refine x_iconst d11_beginning_40 qi_1 ?_
      refine x_iload_n d11_beginning_41 2 rfl rfl ?_
      refine x_iadd d11_beginning_42 ?_
      refine x_iconst d11_beginning_43 qi_0 ?_
      refine x_lconst d11_beginning_44 ql_0 ?_
      refine x_lconst d11_beginning_45 ql_0 ?_
      refine x_cVN (Z := y11_both) (S := rm11_both) (As := [.int v1, .int ((1 : Int32) + v2), .int (0 : Int32), .long (0 : Int64), .long (0 : Int64)]) (rest := []) d11_beginning_46 ml11_111 k11_both rfl (b := (b + 154)) (hS.1 _ _ (sh_154 b)) rfl rfl (Nat.le_of_ble_eq_true rfl) ⟨⟨by decide, by decide⟩, by decide, by decide⟩ ⟨rfl, rfl⟩ h (fun M5 h => ?_)
      obtain ⟨hS, h⟩ := h
      refine x_iinc d11_beginning_49 1 rfl rfl (by decide) (L' := [(1, .int (v1 + Int32.ofInt (2))), (0, .ref (b + 154)), (2, .int v2)]) rfl ?_
      refine x_iinc d11_beginning_52 2 rfl rfl (by decide) (L' := [(2, .int (v2 + Int32.ofInt (1))), (1, .int (v1 + Int32.ofInt (2))), (0, .ref (b + 154))]) rfl ?_
      refine x_goto d11_beginning_55 (t := 24) (by decide) ?_
      exact xm_X.sub [2, 1, 0] rfl (h hS)
    · have h := h.2 g
      refine x_goto d11_beginning_35 (t := 52) (by decide) ?_
      refine x_iinc d11_beginning_52 2 rfl rfl (by decide) (L' := [(2, .int (v2 + Int32.ofInt (1))), (0, .ref (b + 154)), (1, .int v1)]) rfl ?_
      refine x_goto d11_beginning_55 (t := 24) (by decide) ?_
      exact xm_X.sub [1, 2, 0] rfl (h hS)

set_option maxRecDepth 20000 in
theorem t11_both_0 {l : Launch} {E : xm_E} {b : Nat} {c p : Bool} {Q : Option Value → xm_M → Prop} (M : xm_M) (v1 : Int32) (v2 : Int32) (v3 : Int32) (w4 : Int64) (w6 : Int64) (hS : xm_st b c p M)
  (h : xm_C l E y11_step rm11_step [.ref (b + 154), .int v1, .int v2, .int v3, .long w4] M (fun r M1 => r = none ∧ xm_st b c p M1 ∧ xm_C l E y11_step rm11_step [.ref (b + 154), .int (v1 + (1 : Int32)), .int v3, .int v2, .long w6] M1 (fun r M3 => r = none ∧ xm_st b c p M3 ∧ (xm_st b c p M3 → Q none M3)))) :
  xm_X l E y11_both rm11_both Q 0 [(0, .ref (b + 154)), (1, .int v1), (2, .int v2), (3, .int v3), (4, .long w4), (6, .long w6)] [] 0 0 M := by
  refine x_aload_n d11_both_0 0 rfl rfl ?_
  refine x_iload_n d11_both_1 1 rfl rfl ?_
  refine x_iload_n d11_both_2 2 rfl rfl ?_
  refine x_iload_n d11_both_3 3 rfl rfl ?_
  refine x_lload d11_both_4 4 rfl ?_
  refine x_cVN (Z := y11_step) (S := rm11_step) (As := [.int v1, .int v2, .int v3, .long w4]) (rest := []) d11_both_6 ml11_107 k11_step rfl (b := (b + 154)) (hS.1 _ _ (sh_154 b)) rfl rfl (Nat.le_of_ble_eq_true rfl) ⟨⟨by decide, by decide⟩, by decide, by decide⟩ ⟨rfl, rfl⟩ h (fun M1 h => ?_)
  obtain ⟨hS, h⟩ := h
  refine x_aload_n d11_both_9 0 rfl rfl ?_
  refine x_iload_n d11_both_10 1 rfl rfl ?_
  refine x_iconst d11_both_11 qi_1 ?_
  refine x_iadd d11_both_12 ?_
  refine x_iload_n d11_both_13 3 rfl rfl ?_
  refine x_iload_n d11_both_14 2 rfl rfl ?_
  refine x_lload d11_both_15 5 rfl ?_
  refine x_cVN (Z := y11_step) (S := rm11_step) (As := [.int (v1 + (1 : Int32)), .int v3, .int v2, .long w6]) (rest := []) d11_both_17 ml11_107 k11_step rfl (b := (b + 154)) (hS.1 _ _ (sh_154 b)) rfl rfl (Nat.le_of_ble_eq_true rfl) ⟨⟨by decide, by decide⟩, by decide, by decide⟩ ⟨rfl, rfl⟩ h (fun M3 h => ?_)
  obtain ⟨hS, h⟩ := h
  exact x_ret (r := none) d11_both_20 xm_rN rfl ⟨Nat.le_refl _, Nat.le_refl _⟩ (h hS)

set_option maxRecDepth 20000 in
theorem t11_step_0 {l : Launch} {E : xm_E} {b : Nat} {c p : Bool} {Q : Option Value → xm_M → Prop} (M : xm_M) (v1 : Int32) (v2 : Int32) (v3 : Int32) (w4 : Int64) (hS : xm_st b c p M)
  (h : (((xm_gi M (b + 154) 19) = 0 → (vp_in (xm_gi M (b + 154) 14) 1200 ∧ (∀ M2 : xm_M, M2 = (xm_pi M (b + 162) (Int32.toNatClampNeg (xm_gi M (b + 154) 14)) v1) → (vp_in (xm_gi M2 (b + 154) 14) 1200 ∧ (∀ M5 : xm_M, M5 = (xm_pi M2 (b + 163) (Int32.toNatClampNeg (xm_gi M2 (b + 154) 14)) v2) → (vp_in (xm_gi M5 (b + 154) 14) 1200 ∧ (∀ M8 : xm_M, M8 = (xm_pi M5 (b + 164) (Int32.toNatClampNeg (xm_gi M5 (b + 154) 14)) v3) → (vp_in (xm_gi M8 (b + 154) 14) 1200 ∧ (∀ M11 : xm_M, M11 = (xm_pl M8 (b + 165) (Int32.toNatClampNeg (xm_gi M8 (b + 154) 14)) w4) → (∀ M13 : xm_M, M13 = (xm_pi M11 (b + 154) 14 ((xm_gi M11 (b + 154) 14) + (1 : Int32))) → (xm_st b c p M13 → Q none M13))))))))))) ∧ (¬ (xm_gi M (b + 154) 19) = 0 → xm_C l E y11_isInt rm11_isInt [.long w4] M (fun r M15 => ∃ r16 : Bool, r = some (.int (xz r16)) ∧ xm_st b c p M15 ∧ ((¬ (xz r16) = 0 → (vp_in (xm_gi M15 (b + 154) 14) 1200 ∧ (∀ M18 : xm_M, M18 = (xm_pi M15 (b + 162) (Int32.toNatClampNeg (xm_gi M15 (b + 154) 14)) v1) → (vp_in (xm_gi M18 (b + 154) 14) 1200 ∧ (∀ M21 : xm_M, M21 = (xm_pi M18 (b + 163) (Int32.toNatClampNeg (xm_gi M18 (b + 154) 14)) v2) → (vp_in (xm_gi M21 (b + 154) 14) 1200 ∧ (∀ M24 : xm_M, M24 = (xm_pi M21 (b + 164) (Int32.toNatClampNeg (xm_gi M21 (b + 154) 14)) v3) → (vp_in (xm_gi M24 (b + 154) 14) 1200 ∧ (∀ M27 : xm_M, M27 = (xm_pl M24 (b + 165) (Int32.toNatClampNeg (xm_gi M24 (b + 154) 14)) w4) → (∀ M29 : xm_M, M29 = (xm_pi M27 (b + 154) 14 ((xm_gi M27 (b + 154) 14) + (1 : Int32))) → (xm_st b c p M29 → Q none M29))))))))))) ∧ ((xz r16) = 0 → (xm_st b c p M15 → Q none M15))))))) :
  xm_X l E y11_step rm11_step Q 0 [(0, .ref (b + 154)), (1, .int v1), (2, .int v2), (3, .int v3), (4, .long w4)] [] 0 0 M := by
  refine x_aload_n d11_step_0 0 rfl rfl ?_
  refine x_getI d11_step_1 fl11_92 (fun _ _ => rfl) (hS.1 _ _ (sh_154 b)) ?_
  refine x_if_eq d11_step_4 (t := 16) (by decide) (fun g => ?_) (fun g => ?_)
  · have h := h.1 g
    refine x_aload_n d11_step_16 0 rfl rfl ?_
    refine x_getR d11_step_17 fl11_36 (fun _ _ => rfl) (hS.1 _ _ (sh_154 b)) (hS.2.1 _ _ _ (pt_154_15 b)) ?_
    refine x_aload_n d11_step_20 0 rfl rfl ?_
    refine x_getI d11_step_21 fl11_100 (fun _ _ => rfl) (hS.1 _ _ (sh_154 b)) ?_
    refine x_iload_n d11_step_24 1 rfl rfl ?_
    obtain ⟨g1, h⟩ := h
    refine x_iast d11_step_25 (hS.1 _ _ (sh_162 b)) g1 ?_
    refine xm_nm (fun M2 e3 => ?_)
    have h := h M2 e3
    have hS : xm_st b c p M2 := by rw [e3]; exact hS.pi
    refine x_aload_n d11_step_26 0 rfl rfl ?_
    refine x_getR d11_step_27 fl11_39 (fun _ _ => rfl) (hS.1 _ _ (sh_154 b)) (hS.2.1 _ _ _ (pt_154_16 b)) ?_
    refine x_aload_n d11_step_30 0 rfl rfl ?_
    refine x_getI d11_step_31 fl11_100 (fun _ _ => rfl) (hS.1 _ _ (sh_154 b)) ?_
    refine x_iload_n d11_step_34 2 rfl rfl ?_
    obtain ⟨g4, h⟩ := h
    refine x_iast d11_step_35 (hS.1 _ _ (sh_163 b)) g4 ?_
    refine xm_nm (fun M5 e6 => ?_)
    have h := h M5 e6
    have hS : xm_st b c p M5 := by rw [e6]; exact hS.pi
    refine x_aload_n d11_step_36 0 rfl rfl ?_
    refine x_getR d11_step_37 fl11_42 (fun _ _ => rfl) (hS.1 _ _ (sh_154 b)) (hS.2.1 _ _ _ (pt_154_17 b)) ?_
    refine x_aload_n d11_step_40 0 rfl rfl ?_
    refine x_getI d11_step_41 fl11_100 (fun _ _ => rfl) (hS.1 _ _ (sh_154 b)) ?_
    refine x_iload_n d11_step_44 3 rfl rfl ?_
    obtain ⟨g7, h⟩ := h
    refine x_iast d11_step_45 (hS.1 _ _ (sh_164 b)) g7 ?_
    refine xm_nm (fun M8 e9 => ?_)
    have h := h M8 e9
    have hS : xm_st b c p M8 := by rw [e9]; exact hS.pi
    refine x_aload_n d11_step_46 0 rfl rfl ?_
    refine x_getR d11_step_47 fl11_45 (fun _ _ => rfl) (hS.1 _ _ (sh_154 b)) (hS.2.1 _ _ _ (pt_154_18 b)) ?_
    refine x_aload_n d11_step_50 0 rfl rfl ?_
    refine x_getI d11_step_51 fl11_100 (fun _ _ => rfl) (hS.1 _ _ (sh_154 b)) ?_
    refine x_lload d11_step_54 4 rfl ?_
    obtain ⟨g10, h⟩ := h
    refine x_last d11_step_56 (hS.1 _ _ (sh_165 b)) g10 ?_
    refine xm_nm (fun M11 e12 => ?_)
    have h := h M11 e12
    have hS : xm_st b c p M11 := by rw [e12]; exact hS.pl
    refine x_aload_n d11_step_57 0 rfl rfl ?_
    refine x_dup d11_step_58 rfl ?_
    refine x_getI d11_step_59 fl11_100 (fun _ _ => rfl) (hS.1 _ _ (sh_154 b)) ?_
    refine x_iconst d11_step_62 qi_1 ?_
    refine x_iadd d11_step_63 ?_
    refine x_putI d11_step_64 fw11_100 (fun _ _ => rfl) rfl rfl (hS.1 _ _ (sh_154 b)) ?_
    refine xm_nm (fun M13 e14 => ?_)
    have h := h M13 e14
    have hS : xm_st b c p M13 := by rw [e14]; exact hS.pi
    exact x_ret (r := none) d11_step_67 xm_rN rfl ⟨Nat.le_refl _, Nat.le_refl _⟩ (h hS)
  · have h := h.2 g
    refine x_lload d11_step_7 4 rfl ?_
    refine x_cSZ (Z := y11_isInt) (S := rm11_isInt) (As := [.long w4]) (rest := []) d11_step_9 ml11_96 k11_isInt rfl rfl (Nat.le_of_ble_eq_true rfl) ⟨⟨by decide, by decide⟩, by decide, by decide⟩ ⟨rfl, rfl⟩ h (fun r16 M15 h => ?_)
    obtain ⟨hS, h⟩ := h
    refine x_if_ne d11_step_12 (t := 16) (by decide) (fun g => ?_) (fun g => ?_)
    · have h := h.1 g
      refine x_aload_n d11_step_16 0 rfl rfl ?_
      refine x_getR d11_step_17 fl11_36 (fun _ _ => rfl) (hS.1 _ _ (sh_154 b)) (hS.2.1 _ _ _ (pt_154_15 b)) ?_
      refine x_aload_n d11_step_20 0 rfl rfl ?_
      refine x_getI d11_step_21 fl11_100 (fun _ _ => rfl) (hS.1 _ _ (sh_154 b)) ?_
      refine x_iload_n d11_step_24 1 rfl rfl ?_
      obtain ⟨g17, h⟩ := h
      refine x_iast d11_step_25 (hS.1 _ _ (sh_162 b)) g17 ?_
      refine xm_nm (fun M18 e19 => ?_)
      have h := h M18 e19
      have hS : xm_st b c p M18 := by rw [e19]; exact hS.pi
      refine x_aload_n d11_step_26 0 rfl rfl ?_
      refine x_getR d11_step_27 fl11_39 (fun _ _ => rfl) (hS.1 _ _ (sh_154 b)) (hS.2.1 _ _ _ (pt_154_16 b)) ?_
      refine x_aload_n d11_step_30 0 rfl rfl ?_
      refine x_getI d11_step_31 fl11_100 (fun _ _ => rfl) (hS.1 _ _ (sh_154 b)) ?_
      refine x_iload_n d11_step_34 2 rfl rfl ?_
      obtain ⟨g20, h⟩ := h
      refine x_iast d11_step_35 (hS.1 _ _ (sh_163 b)) g20 ?_
      refine xm_nm (fun M21 e22 => ?_)
      have h := h M21 e22
      have hS : xm_st b c p M21 := by rw [e22]; exact hS.pi
      refine x_aload_n d11_step_36 0 rfl rfl ?_
      refine x_getR d11_step_37 fl11_42 (fun _ _ => rfl) (hS.1 _ _ (sh_154 b)) (hS.2.1 _ _ _ (pt_154_17 b)) ?_
      refine x_aload_n d11_step_40 0 rfl rfl ?_
      refine x_getI d11_step_41 fl11_100 (fun _ _ => rfl) (hS.1 _ _ (sh_154 b)) ?_
      refine x_iload_n d11_step_44 3 rfl rfl ?_
      obtain ⟨g23, h⟩ := h
      refine x_iast d11_step_45 (hS.1 _ _ (sh_164 b)) g23 ?_
      refine xm_nm (fun M24 e25 => ?_)
      have h := h M24 e25
      have hS : xm_st b c p M24 := by rw [e25]; exact hS.pi
      refine x_aload_n d11_step_46 0 rfl rfl ?_
      refine x_getR d11_step_47 fl11_45 (fun _ _ => rfl) (hS.1 _ _ (sh_154 b)) (hS.2.1 _ _ _ (pt_154_18 b)) ?_
      refine x_aload_n d11_step_50 0 rfl rfl ?_
      refine x_getI d11_step_51 fl11_100 (fun _ _ => rfl) (hS.1 _ _ (sh_154 b)) ?_
      refine x_lload d11_step_54 4 rfl ?_
      obtain ⟨g26, h⟩ := h
      refine x_last d11_step_56 (hS.1 _ _ (sh_165 b)) g26 ?_
      refine xm_nm (fun M27 e28 => ?_)
      have h := h M27 e28
      have hS : xm_st b c p M27 := by rw [e28]; exact hS.pl
      refine x_aload_n d11_step_57 0 rfl rfl ?_
      refine x_dup d11_step_58 rfl ?_
      refine x_getI d11_step_59 fl11_100 (fun _ _ => rfl) (hS.1 _ _ (sh_154 b)) ?_
      refine x_iconst d11_step_62 qi_1 ?_
      refine x_iadd d11_step_63 ?_
      refine x_putI d11_step_64 fw11_100 (fun _ _ => rfl) rfl rfl (hS.1 _ _ (sh_154 b)) ?_
      refine xm_nm (fun M29 e30 => ?_)
      have h := h M29 e30
      have hS : xm_st b c p M29 := by rw [e30]; exact hS.pi
      exact x_ret (r := none) d11_step_67 xm_rN rfl ⟨Nat.le_refl _, Nat.le_refl _⟩ (h hS)
    · have h := h.2 g
      exact x_ret (r := none) d11_step_15 xm_rN rfl ⟨Nat.le_refl _, Nat.le_refl _⟩ (h hS)

set_option maxRecDepth 20000 in
theorem t11_isInt_0 {l : Launch} {E : xm_E} {b : Nat} {c p : Bool} {Q : Option Value → xm_M → Prop} (M : xm_M) (w0 : Int64) (hS : xm_st b c p M)
  (h : ((w0 < (-2147483648 : Int64) → (xm_st b c p M → Q (some (.int (0 : Int32))) M)) ∧ (¬ w0 < (-2147483648 : Int64) → (((2147483647 : Int64) < w0 → (xm_st b c p M → Q (some (.int (0 : Int32))) M)) ∧ (¬ (2147483647 : Int64) < w0 → (xm_st b c p M → Q (some (.int (1 : Int32))) M)))))) :
  xm_X l E y11_isInt rm11_isInt Q 0 [(0, .long w0)] [] 0 0 M := by
  refine x_lload_n d11_isInt_0 0 rfl rfl ?_
  refine x_ldc2 d11_isInt_1 lc11_129 ?_
  refine x_lc_lt d11_isInt_4 d11_isInt_5 rfl rfl (t := 20) (by decide) (fun g => ?_) (fun g => ?_)
  · have h := h.1 g
    refine x_iconst d11_isInt_20 qi_0 ?_
    exact x_ret (r := (some (.int (0 : Int32)))) d11_isInt_21 (xm_rZ (Or.inl rfl)) rfl ⟨Nat.le_refl _, Nat.le_refl _⟩ (h hS)
  · have h := h.2 g
    refine x_lload_n d11_isInt_8 0 rfl rfl ?_
    refine x_ldc2 d11_isInt_9 lc11_131 ?_
    refine x_lc_gt d11_isInt_12 d11_isInt_13 rfl rfl (t := 20) (by decide) (fun g => ?_) (fun g => ?_)
    · have h := h.1 g
      refine x_iconst d11_isInt_20 qi_0 ?_
      exact x_ret (r := (some (.int (0 : Int32)))) d11_isInt_21 (xm_rZ (Or.inl rfl)) rfl ⟨Nat.le_refl _, Nat.le_refl _⟩ (h hS)
    · have h := h.2 g
      refine x_iconst d11_isInt_16 qi_1 ?_
      refine x_goto d11_isInt_17 (t := 21) (by decide) ?_
      exact x_ret (r := (some (.int (1 : Int32)))) d11_isInt_21 (xm_rZ (Or.inr rfl)) rfl ⟨Nat.le_refl _, Nat.le_refl _⟩ (h hS)

set_option maxRecDepth 20000 in
theorem t11_relax_0 {l : Launch} {E : xm_E} {b : Nat} {c p : Bool} {Q : Option Value → xm_M → Prop} (M : xm_M)  (hS : xm_st b c p M)
  (h : (xm_st b c p M → xm_X l E y11_relax rm11_relax Q 2 [(0, .ref (b + 154)), (1, .int (0 : Int32))] [] 0 0 M)) :
  xm_X l E y11_relax rm11_relax Q 0 [(0, .ref (b + 154))] [] 0 0 M := by
  refine x_iconst d11_relax_0 qi_0 ?_
  refine x_istore_n d11_relax_1 rfl (by decide) (L' := [(1, .int (0 : Int32)), (0, .ref (b + 154))]) rfl ?_
  exact xm_X.sub [1, 0] rfl (h hS)
set_option maxRecDepth 20000 in
theorem t11_relax_2 {l : Launch} {E : xm_E} {b : Nat} {c p : Bool} {Q : Option Value → xm_M → Prop} (M : xm_M) (v1 : Int32) (hS : xm_st b c p M)
  (h : (((100 : Int32) ≤ v1 → (xm_st b c p M → xm_X l E y11_relax rm11_relax Q 36 [(0, .ref (b + 154)), (1, .int (0 : Int32))] [] 0 0 M)) ∧ (¬ (100 : Int32) ≤ v1 → ((¬ (v1 - v1 / (11 : Int32) * (11 : Int32)) = 0 → (vp_in v1 100 ∧ (xm_st b c p (xm_pl M (b + 169) (Int32.toNatClampNeg v1) (1125899906842624 : Int64)) → xm_X l E y11_relax rm11_relax Q 2 [(0, .ref (b + 154)), (1, .int (v1 + Int32.ofInt (1)))] [] 0 0 (xm_pl M (b + 169) (Int32.toNatClampNeg v1) (1125899906842624 : Int64))))) ∧ ((v1 - v1 / (11 : Int32) * (11 : Int32)) = 0 → (vp_in v1 100 ∧ (xm_st b c p (xm_pl M (b + 169) (Int32.toNatClampNeg v1) (0 : Int64)) → xm_X l E y11_relax rm11_relax Q 2 [(0, .ref (b + 154)), (1, .int (v1 + Int32.ofInt (1)))] [] 0 0 (xm_pl M (b + 169) (Int32.toNatClampNeg v1) (0 : Int64))))))))) :
  xm_X l E y11_relax rm11_relax Q 2 [(0, .ref (b + 154)), (1, .int v1)] [] 0 0 M := by
  refine x_iload_n d11_relax_2 1 rfl rfl ?_
  refine x_bipush d11_relax_3 qb_100 ?_
  refine x_icmp_ge d11_relax_5 (t := 34) (by decide) (fun g => ?_) (fun g => ?_)
  · have h := h.1 g
    refine x_iconst d11_relax_34 qi_0 ?_
    refine x_istore_n d11_relax_35 rfl (by decide) (L' := [(1, .int (0 : Int32)), (0, .ref (b + 154))]) rfl ?_
    exact xm_X.sub [1, 0] rfl (h hS)
  · have h := h.2 g
    refine x_aload_n d11_relax_8 0 rfl rfl ?_
    refine x_getR d11_relax_9 fl11_59 (fun _ _ => rfl) (hS.1 _ _ (sh_154 b)) (hS.2.1 _ _ _ (pt_154_23 b)) ?_
    refine x_iload_n d11_relax_12 1 rfl rfl ?_
    refine x_iload_n d11_relax_13 1 rfl rfl ?_
    refine x_bipush d11_relax_14 qb_11 ?_
    refine x_irem d11_relax_16 (by decide) ?_
    refine x_if_ne d11_relax_17 (t := 24) (by decide) (fun g => ?_) (fun g => ?_)
    · have h := h.1 g
      refine x_ldc2 d11_relax_24 lc11_123 ?_
      obtain ⟨g1, h⟩ := h
      refine x_last d11_relax_27 (hS.1 _ _ (sh_169 b)) g1 ?_
      refine x_iinc d11_relax_28 1 rfl rfl (by decide) (L' := [(1, .int (v1 + Int32.ofInt (1))), (0, .ref (b + 154))]) rfl ?_
      refine x_goto d11_relax_31 (t := 2) (by decide) ?_
      exact xm_X.sub [1, 0] rfl (h hS.pl)
    · have h := h.2 g
      refine x_lconst d11_relax_20 ql_0 ?_
      refine x_goto d11_relax_21 (t := 27) (by decide) ?_
      obtain ⟨g2, h⟩ := h
      refine x_last d11_relax_27 (hS.1 _ _ (sh_169 b)) g2 ?_
      refine x_iinc d11_relax_28 1 rfl rfl (by decide) (L' := [(1, .int (v1 + Int32.ofInt (1))), (0, .ref (b + 154))]) rfl ?_
      refine x_goto d11_relax_31 (t := 2) (by decide) ?_
      exact xm_X.sub [1, 0] rfl (h hS.pl)
set_option maxRecDepth 20000 in
theorem t11_relax_36 {l : Launch} {E : xm_E} {b : Nat} {c p : Bool} {Q : Option Value → xm_M → Prop} (M : xm_M) (v1 : Int32) (hS : xm_st b c p M)
  (h : (((xm_gi M (b + 154) 14) ≤ v1 → (xm_st b c p M → xm_X l E y11_relax rm11_relax Q 97 [(0, .ref (b + 154)), (1, .int (1 : Int32))] [] 0 0 M)) ∧ (¬ (xm_gi M (b + 154) 14) ≤ v1 → (vp_in v1 1200 ∧ (vp_in v1 1200 ∧ (vp_in v1 1200 ∧ (vp_in (((10 : Int32) * (xm_gi M (b + 163) (Int32.toNatClampNeg v1))) + (xm_gi M (b + 164) (Int32.toNatClampNeg v1))) 100 ∧ (((xm_gl M (b + 169) (Int32.toNatClampNeg (((10 : Int32) * (xm_gi M (b + 163) (Int32.toNatClampNeg v1))) + (xm_gi M (b + 164) (Int32.toNatClampNeg v1))))) ≤ (xm_gl M (b + 165) (Int32.toNatClampNeg v1)) → (xm_st b c p M → xm_X l E y11_relax rm11_relax Q 36 [(0, .ref (b + 154)), (1, .int (v1 + Int32.ofInt (1)))] [] 0 0 M)) ∧ (¬ (xm_gl M (b + 169) (Int32.toNatClampNeg (((10 : Int32) * (xm_gi M (b + 163) (Int32.toNatClampNeg v1))) + (xm_gi M (b + 164) (Int32.toNatClampNeg v1))))) ≤ (xm_gl M (b + 165) (Int32.toNatClampNeg v1)) → (vp_in v1 1200 ∧ (vp_in (((10 : Int32) * (xm_gi M (b + 163) (Int32.toNatClampNeg v1))) + (xm_gi M (b + 164) (Int32.toNatClampNeg v1))) 100 ∧ (xm_st b c p (xm_pl M (b + 169) (Int32.toNatClampNeg (((10 : Int32) * (xm_gi M (b + 163) (Int32.toNatClampNeg v1))) + (xm_gi M (b + 164) (Int32.toNatClampNeg v1)))) (xm_gl M (b + 165) (Int32.toNatClampNeg v1))) → xm_X l E y11_relax rm11_relax Q 36 [(0, .ref (b + 154)), (1, .int (v1 + Int32.ofInt (1)))] [] 0 0 (xm_pl M (b + 169) (Int32.toNatClampNeg (((10 : Int32) * (xm_gi M (b + 163) (Int32.toNatClampNeg v1))) + (xm_gi M (b + 164) (Int32.toNatClampNeg v1)))) (xm_gl M (b + 165) (Int32.toNatClampNeg v1))))))))))))))) :
  xm_X l E y11_relax rm11_relax Q 36 [(0, .ref (b + 154)), (1, .int v1)] [] 0 0 M := by
  refine x_iload_n d11_relax_36 1 rfl rfl ?_
  refine x_aload_n d11_relax_37 0 rfl rfl ?_
  refine x_getI d11_relax_38 fl11_100 (fun _ _ => rfl) (hS.1 _ _ (sh_154 b)) ?_
  refine x_icmp_ge d11_relax_41 (t := 95) (by decide) (fun g => ?_) (fun g => ?_)
  · have h := h.1 g
    refine x_iconst d11_relax_95 qi_1 ?_
    refine x_istore_n d11_relax_96 rfl (by decide) (L' := [(1, .int (1 : Int32)), (0, .ref (b + 154))]) rfl ?_
    exact xm_X.sub [1, 0] rfl (h hS)
  · have h := h.2 g
    refine x_bipush d11_relax_44 qb_10 ?_
    refine x_aload_n d11_relax_46 0 rfl rfl ?_
    refine x_getR d11_relax_47 fl11_39 (fun _ _ => rfl) (hS.1 _ _ (sh_154 b)) (hS.2.1 _ _ _ (pt_154_16 b)) ?_
    refine x_iload_n d11_relax_50 1 rfl rfl ?_
    obtain ⟨g1, h⟩ := h
    refine x_iald d11_relax_51 (hS.1 _ _ (sh_163 b)) g1 ?_
    refine x_imul d11_relax_52 ?_
    refine x_aload_n d11_relax_53 0 rfl rfl ?_
    refine x_getR d11_relax_54 fl11_42 (fun _ _ => rfl) (hS.1 _ _ (sh_154 b)) (hS.2.1 _ _ _ (pt_154_17 b)) ?_
    refine x_iload_n d11_relax_57 1 rfl rfl ?_
    obtain ⟨g2, h⟩ := h
    refine x_iald d11_relax_58 (hS.1 _ _ (sh_164 b)) g2 ?_
    refine x_iadd d11_relax_59 ?_
    refine x_istore_n d11_relax_60 rfl (by decide) (L' := [(2, .int (((10 : Int32) * (xm_gi M (b + 163) (Int32.toNatClampNeg v1))) + (xm_gi M (b + 164) (Int32.toNatClampNeg v1)))), (0, .ref (b + 154)), (1, .int v1)]) rfl ?_
    refine x_aload_n d11_relax_61 1 rfl rfl ?_
    refine x_getR d11_relax_62 fl11_45 (fun _ _ => rfl) (hS.1 _ _ (sh_154 b)) (hS.2.1 _ _ _ (pt_154_18 b)) ?_
    refine x_iload_n d11_relax_65 2 rfl rfl ?_
    obtain ⟨g3, h⟩ := h
    refine x_lald d11_relax_66 (hS.1 _ _ (sh_165 b)) g3 ?_
    refine x_aload_n d11_relax_67 1 rfl rfl ?_
    refine x_getR d11_relax_68 fl11_59 (fun _ _ => rfl) (hS.1 _ _ (sh_154 b)) (hS.2.1 _ _ _ (pt_154_23 b)) ?_
    refine x_iload_n d11_relax_71 0 rfl rfl ?_
    obtain ⟨g4, h⟩ := h
    refine x_lald d11_relax_72 (hS.1 _ _ (sh_169 b)) g4 ?_
    refine x_lc_ge d11_relax_73 d11_relax_74 rfl rfl (t := 89) (by decide) (fun g => ?_) (fun g => ?_)
    · have h := h.1 g
      refine x_iinc d11_relax_89 2 rfl rfl (by decide) (L' := [(1, .int (v1 + Int32.ofInt (1))), (2, .int (((10 : Int32) * (xm_gi M (b + 163) (Int32.toNatClampNeg v1))) + (xm_gi M (b + 164) (Int32.toNatClampNeg v1)))), (0, .ref (b + 154))]) rfl ?_
      refine x_goto d11_relax_92 (t := 36) (by decide) ?_
      exact xm_X.sub [2, 0] rfl (h hS)
    · have h := h.2 g
      refine x_aload_n d11_relax_77 1 rfl rfl ?_
      refine x_getR d11_relax_78 fl11_59 (fun _ _ => rfl) (hS.1 _ _ (sh_154 b)) (hS.2.1 _ _ _ (pt_154_23 b)) ?_
      refine x_iload_n d11_relax_81 0 rfl rfl ?_
      refine x_aload_n d11_relax_82 1 rfl rfl ?_
      refine x_getR d11_relax_83 fl11_45 (fun _ _ => rfl) (hS.1 _ _ (sh_154 b)) (hS.2.1 _ _ _ (pt_154_18 b)) ?_
      refine x_iload_n d11_relax_86 2 rfl rfl ?_
      obtain ⟨g5, h⟩ := h
      refine x_lald d11_relax_87 (hS.1 _ _ (sh_165 b)) g5 ?_
      obtain ⟨g6, h⟩ := h
      refine x_last d11_relax_88 (hS.1 _ _ (sh_169 b)) g6 ?_
      refine x_iinc d11_relax_89 2 rfl rfl (by decide) (L' := [(1, .int (v1 + Int32.ofInt (1))), (2, .int (((10 : Int32) * (xm_gi M (b + 163) (Int32.toNatClampNeg v1))) + (xm_gi M (b + 164) (Int32.toNatClampNeg v1)))), (0, .ref (b + 154))]) rfl ?_
      refine x_goto d11_relax_92 (t := 36) (by decide) ?_
      exact xm_X.sub [2, 0] rfl (h hS.pl)
set_option maxRecDepth 20000 in
theorem t11_relax_97 {l : Launch} {E : xm_E} {b : Nat} {c p : Bool} {Q : Option Value → xm_M → Prop} (M : xm_M) (v1 : Int32) (hS : xm_st b c p M)
  (h : ((v1 = 0 → (xm_st b c p M → Q (some (.int (1 : Int32))) M)) ∧ (¬ v1 = 0 → (xm_st b c p M → xm_X l E y11_relax rm11_relax Q 105 [(0, .ref (b + 154)), (1, .int (0 : Int32)), (2, .int (0 : Int32))] [] 0 0 M)))) :
  xm_X l E y11_relax rm11_relax Q 97 [(0, .ref (b + 154)), (1, .int v1)] [] 0 0 M := by
  refine x_iload_n d11_relax_97 1 rfl rfl ?_
  refine x_if_eq d11_relax_98 (t := 185) (by decide) (fun g => ?_) (fun g => ?_)
  · have h := h.1 g
    refine x_iconst d11_relax_185 qi_1 ?_
    exact x_ret (r := (some (.int (1 : Int32)))) d11_relax_186 (xm_rZ (Or.inr rfl)) rfl ⟨Nat.le_refl _, Nat.le_refl _⟩ (h hS)
  · have h := h.2 g
    refine x_iconst d11_relax_101 qi_0 ?_
    refine x_istore_n d11_relax_102 rfl (by decide) (L' := [(1, .int (0 : Int32)), (0, .ref (b + 154))]) rfl ?_
    refine x_iconst d11_relax_103 qi_0 ?_
    refine x_istore_n d11_relax_104 rfl (by decide) (L' := [(2, .int (0 : Int32)), (1, .int (0 : Int32)), (0, .ref (b + 154))]) rfl ?_
    exact xm_X.sub [2, 1, 0] rfl (h hS)
set_option maxRecDepth 20000 in
theorem t11_relax_105 {l : Launch} {E : xm_E} {b : Nat} {c p : Bool} {Q : Option Value → xm_M → Prop} (M : xm_M) (v1 : Int32) (v2 : Int32) (hS : xm_st b c p M)
  (h : (((100 : Int32) ≤ v2 → (xm_st b c p M → xm_X l E y11_relax rm11_relax Q 154 [(0, .ref (b + 154)), (1, .int v1), (2, .int (0 : Int32))] [] 0 0 M)) ∧ (¬ (100 : Int32) ≤ v2 → (((v2 - v2 / (11 : Int32) * (11 : Int32)) = 0 → (xm_st b c p M → xm_X l E y11_relax rm11_relax Q 105 [(0, .ref (b + 154)), (1, .int v1), (2, .int (v2 + Int32.ofInt (1)))] [] 0 0 M)) ∧ (¬ (v2 - v2 / (11 : Int32) * (11 : Int32)) = 0 → (vp_in v2 100 ∧ (((1125899906842624 : Int64) ≤ (xm_gl M (b + 169) (Int32.toNatClampNeg v2)) → (xm_st b c p M → xm_X l E y11_relax rm11_relax Q 105 [(0, .ref (b + 154)), (1, .int v1), (2, .int (v2 + Int32.ofInt (1)))] [] 0 0 M)) ∧ (¬ (1125899906842624 : Int64) ≤ (xm_gl M (b + 169) (Int32.toNatClampNeg v2)) → xm_C l E y11_relaxOne rm11_relaxOne [.ref (b + 154), .int (v2 / (10 : Int32)), .int (v2 - v2 / (10 : Int32) * (10 : Int32))] M (fun r M2 => ∃ r3 : Bool, r = some (.int (xz r3)) ∧ xm_st b c p M2 ∧ (xm_st b c p M2 → xm_X l E y11_relax rm11_relax Q 105 [(0, .ref (b + 154)), (1, .int (v1 ||| (xz r3))), (2, .int (v2 + Int32.ofInt (1)))] [] 0 0 M2)))))))))) :
  xm_X l E y11_relax rm11_relax Q 105 [(0, .ref (b + 154)), (1, .int v1), (2, .int v2)] [] 0 0 M := by
  refine x_iload_n d11_relax_105 2 rfl rfl ?_
  refine x_bipush d11_relax_106 qb_100 ?_
  refine x_icmp_ge d11_relax_108 (t := 152) (by decide) (fun g => ?_) (fun g => ?_)
  · have h := h.1 g
    refine x_iconst d11_relax_152 qi_0 ?_
    refine x_istore_n d11_relax_153 rfl (by decide) (L' := [(2, .int (0 : Int32)), (0, .ref (b + 154)), (1, .int v1)]) rfl ?_
    exact xm_X.sub [1, 2, 0] rfl (h hS)
  · have h := h.2 g
    refine x_iload_n d11_relax_111 2 rfl rfl ?_
    refine x_bipush d11_relax_112 qb_11 ?_
    refine x_irem d11_relax_114 (by decide) ?_
    refine x_if_eq d11_relax_115 (t := 146) (by decide) (fun g => ?_) (fun g => ?_)
    · have h := h.1 g
      refine x_iinc d11_relax_146 2 rfl rfl (by decide) (L' := [(2, .int (v2 + Int32.ofInt (1))), (0, .ref (b + 154)), (1, .int v1)]) rfl ?_
      refine x_goto d11_relax_149 (t := 105) (by decide) ?_
      exact xm_X.sub [1, 2, 0] rfl (h hS)
    · have h := h.2 g
      refine x_aload_n d11_relax_118 0 rfl rfl ?_
      refine x_getR d11_relax_119 fl11_59 (fun _ _ => rfl) (hS.1 _ _ (sh_154 b)) (hS.2.1 _ _ _ (pt_154_23 b)) ?_
      refine x_iload_n d11_relax_122 2 rfl rfl ?_
      obtain ⟨g1, h⟩ := h
      refine x_lald d11_relax_123 (hS.1 _ _ (sh_169 b)) g1 ?_
      refine x_ldc2 d11_relax_124 lc11_123 ?_
      refine x_lc_ge d11_relax_127 d11_relax_128 rfl rfl (t := 146) (by decide) (fun g => ?_) (fun g => ?_)
      · have h := h.1 g
        refine x_iinc d11_relax_146 2 rfl rfl (by decide) (L' := [(2, .int (v2 + Int32.ofInt (1))), (0, .ref (b + 154)), (1, .int v1)]) rfl ?_
        refine x_goto d11_relax_149 (t := 105) (by decide) ?_
        exact xm_X.sub [1, 2, 0] rfl (h hS)
      · have h := h.2 g
        refine x_iload_n d11_relax_131 1 rfl rfl ?_
        refine x_aload_n d11_relax_132 0 rfl rfl ?_
        refine x_iload_n d11_relax_133 2 rfl rfl ?_
        refine x_bipush d11_relax_134 qb_10 ?_
        refine x_idiv d11_relax_136 (by decide) ?_
        refine x_iload_n d11_relax_137 2 rfl rfl ?_
        refine x_bipush d11_relax_138 qb_10 ?_
        refine x_irem d11_relax_140 (by decide) ?_
        refine x_cVZ (Z := y11_relaxOne) (S := rm11_relaxOne) (As := [.int (v2 / (10 : Int32)), .int (v2 - v2 / (10 : Int32) * (10 : Int32))]) (rest := [.int v1]) d11_relax_141 ml11_125 k11_relaxOne rfl (b := (b + 154)) (hS.1 _ _ (sh_154 b)) rfl rfl (Nat.le_of_ble_eq_true rfl) ⟨⟨by decide, by decide⟩, by decide, by decide⟩ ⟨rfl, rfl⟩ h (fun r3 M2 h => ?_)
        obtain ⟨hS, h⟩ := h
        refine x_ior d11_relax_144 ?_
        refine x_istore_n d11_relax_145 rfl (by decide) (L' := [(1, .int (v1 ||| (xz r3))), (0, .ref (b + 154)), (2, .int v2)]) rfl ?_
        refine x_iinc d11_relax_146 2 rfl rfl (by decide) (L' := [(2, .int (v2 + Int32.ofInt (1))), (1, .int (v1 ||| (xz r3))), (0, .ref (b + 154))]) rfl ?_
        refine x_goto d11_relax_149 (t := 105) (by decide) ?_
        exact xm_X.sub [2, 1, 0] rfl (h hS)
set_option maxRecDepth 20000 in
theorem t11_relax_154 {l : Launch} {E : xm_E} {b : Nat} {c p : Bool} {Q : Option Value → xm_M → Prop} (M : xm_M) (v1 : Int32) (v2 : Int32) (hS : xm_st b c p M)
  (h : (((10 : Int32) ≤ v2 → (xm_st b c p M → xm_X l E y11_relax rm11_relax Q 97 [(0, .ref (b + 154)), (1, .int v1)] [] 0 0 M)) ∧ (¬ (10 : Int32) ≤ v2 → (vp_in ((11 : Int32) * v2) 100 ∧ (((0 : Int64) ≤ (xm_gl M (b + 169) (Int32.toNatClampNeg ((11 : Int32) * v2))) → (xm_st b c p M → xm_X l E y11_relax rm11_relax Q 154 [(0, .ref (b + 154)), (1, .int v1), (2, .int (v2 + Int32.ofInt (1)))] [] 0 0 M)) ∧ (¬ (0 : Int64) ≤ (xm_gl M (b + 169) (Int32.toNatClampNeg ((11 : Int32) * v2))) → (xm_st b c p M → Q (some (.int (0 : Int32))) M))))))) :
  xm_X l E y11_relax rm11_relax Q 154 [(0, .ref (b + 154)), (1, .int v1), (2, .int v2)] [] 0 0 M := by
  refine x_iload_n d11_relax_154 2 rfl rfl ?_
  refine x_bipush d11_relax_155 qb_10 ?_
  refine x_icmp_ge d11_relax_157 (t := 182) (by decide) (fun g => ?_) (fun g => ?_)
  · have h := h.1 g
    refine x_goto d11_relax_182 (t := 97) (by decide) ?_
    exact xm_X.sub [0, 1] rfl (h hS)
  · have h := h.2 g
    refine x_aload_n d11_relax_160 0 rfl rfl ?_
    refine x_getR d11_relax_161 fl11_59 (fun _ _ => rfl) (hS.1 _ _ (sh_154 b)) (hS.2.1 _ _ _ (pt_154_23 b)) ?_
    refine x_bipush d11_relax_164 qb_11 ?_
    refine x_iload_n d11_relax_166 2 rfl rfl ?_
    refine x_imul d11_relax_167 ?_
    obtain ⟨g1, h⟩ := h
    refine x_lald d11_relax_168 (hS.1 _ _ (sh_169 b)) g1 ?_
    refine x_lconst d11_relax_169 ql_0 ?_
    refine x_lc_ge d11_relax_170 d11_relax_171 rfl rfl (t := 176) (by decide) (fun g => ?_) (fun g => ?_)
    · have h := h.1 g
      refine x_iinc d11_relax_176 2 rfl rfl (by decide) (L' := [(2, .int (v2 + Int32.ofInt (1))), (0, .ref (b + 154)), (1, .int v1)]) rfl ?_
      refine x_goto d11_relax_179 (t := 154) (by decide) ?_
      exact xm_X.sub [1, 2, 0] rfl (h hS)
    · have h := h.2 g
      refine x_iconst d11_relax_174 qi_0 ?_
      exact x_ret (r := (some (.int (0 : Int32)))) d11_relax_175 (xm_rZ (Or.inl rfl)) rfl ⟨Nat.le_refl _, Nat.le_refl _⟩ (h hS)

set_option maxRecDepth 20000 in
theorem t11_relaxOne_0 {l : Launch} {E : xm_E} {b : Nat} {c p : Bool} {Q : Option Value → xm_M → Prop} (M : xm_M) (v1 : Int32) (v2 : Int32) (hS : xm_st b c p M)
  (h : (xm_st b c p M → xm_X l E y11_relaxOne rm11_relaxOne Q 5 [(0, .ref (b + 154)), (1, .int v1), (2, .int v2), (3, .int (0 : Int32)), (4, .int (0 : Int32))] [] 0 0 M)) :
  xm_X l E y11_relaxOne rm11_relaxOne Q 0 [(0, .ref (b + 154)), (1, .int v1), (2, .int v2)] [] 0 0 M := by
  refine x_iconst d11_relaxOne_0 qi_0 ?_
  refine x_istore_n d11_relaxOne_1 rfl (by decide) (L' := [(3, .int (0 : Int32)), (0, .ref (b + 154)), (1, .int v1), (2, .int v2)]) rfl ?_
  refine x_iconst d11_relaxOne_2 qi_0 ?_
  refine x_istore d11_relaxOne_3 (by decide) (L' := [(4, .int (0 : Int32)), (3, .int (0 : Int32)), (0, .ref (b + 154)), (1, .int v1), (2, .int v2)]) rfl ?_
  exact xm_X.sub [2, 3, 4, 1, 0] rfl (h hS)
set_option maxRecDepth 20000 in
theorem t11_relaxOne_5 {l : Launch} {E : xm_E} {b : Nat} {c p : Bool} {Q : Option Value → xm_M → Prop} (M : xm_M) (v1 : Int32) (v2 : Int32) (v3 : Int32) (v4 : Int32) (hS : xm_st b c p M)
  (h : (((10 : Int32) ≤ v4 → ((v3 = 0 ∨ v3 = 1) ∧ (xm_st b c p M → Q (some (.int v3)) M))) ∧ (¬ (10 : Int32) ≤ v4 → (vp_in (((10 : Int32) * v2) + v4) 100 ∧ (((1125899906842624 : Int64) ≤ (xm_gl M (b + 169) (Int32.toNatClampNeg (((10 : Int32) * v2) + v4))) → (xm_st b c p M → xm_X l E y11_relaxOne rm11_relaxOne Q 5 [(0, .ref (b + 154)), (1, .int v1), (2, .int v2), (3, .int v3), (4, .int (v4 + Int32.ofInt (1)))] [] 0 0 M)) ∧ (¬ (1125899906842624 : Int64) ≤ (xm_gl M (b + 169) (Int32.toNatClampNeg (((10 : Int32) * v2) + v4))) → (vp_in (((10 : Int32) * v1) + v2) 100 ∧ (vp_in (((10 : Int32) * v1) + v4) 100 ∧ ((((xm_gl M (b + 169) (Int32.toNatClampNeg (((10 : Int32) * v1) + v2))) + (xm_gl M (b + 169) (Int32.toNatClampNeg (((10 : Int32) * v2) + v4)))) < (xm_gl M (b + 169) (Int32.toNatClampNeg (((10 : Int32) * v1) + v4))) → (vp_in (((10 : Int32) * v1) + v2) 100 ∧ (vp_in (((10 : Int32) * v1) + v4) 100 ∧ (xm_st b c p (xm_pl M (b + 169) (Int32.toNatClampNeg (((10 : Int32) * v1) + v4)) ((xm_gl M (b + 169) (Int32.toNatClampNeg (((10 : Int32) * v1) + v2))) + (xm_gl M (b + 169) (Int32.toNatClampNeg (((10 : Int32) * v2) + v4))))) → xm_X l E y11_relaxOne rm11_relaxOne Q 5 [(0, .ref (b + 154)), (1, .int v1), (2, .int v2), (3, .int (1 : Int32)), (4, .int (v4 + Int32.ofInt (1)))] [] 0 0 (xm_pl M (b + 169) (Int32.toNatClampNeg (((10 : Int32) * v1) + v4)) ((xm_gl M (b + 169) (Int32.toNatClampNeg (((10 : Int32) * v1) + v2))) + (xm_gl M (b + 169) (Int32.toNatClampNeg (((10 : Int32) * v2) + v4))))))))) ∧ (¬ ((xm_gl M (b + 169) (Int32.toNatClampNeg (((10 : Int32) * v1) + v2))) + (xm_gl M (b + 169) (Int32.toNatClampNeg (((10 : Int32) * v2) + v4)))) < (xm_gl M (b + 169) (Int32.toNatClampNeg (((10 : Int32) * v1) + v4))) → (xm_st b c p M → xm_X l E y11_relaxOne rm11_relaxOne Q 5 [(0, .ref (b + 154)), (1, .int v1), (2, .int v2), (3, .int v3), (4, .int (v4 + Int32.ofInt (1)))] [] 0 0 M))))))))))) :
  xm_X l E y11_relaxOne rm11_relaxOne Q 5 [(0, .ref (b + 154)), (1, .int v1), (2, .int v2), (3, .int v3), (4, .int v4)] [] 0 0 M := by
  refine x_iload d11_relaxOne_5 4 rfl ?_
  refine x_bipush d11_relaxOne_7 qb_10 ?_
  refine x_icmp_ge d11_relaxOne_9 (t := 102) (by decide) (fun g => ?_) (fun g => ?_)
  · have h := h.1 g
    refine x_iload_n d11_relaxOne_102 3 rfl rfl ?_
    obtain ⟨g1, h⟩ := h
    exact x_ret (r := (some (.int v3))) d11_relaxOne_103 (xm_rZ g1) rfl ⟨Nat.le_refl _, Nat.le_refl _⟩ (h hS)
  · have h := h.2 g
    refine x_aload_n d11_relaxOne_12 0 rfl rfl ?_
    refine x_getR d11_relaxOne_13 fl11_59 (fun _ _ => rfl) (hS.1 _ _ (sh_154 b)) (hS.2.1 _ _ _ (pt_154_23 b)) ?_
    refine x_bipush d11_relaxOne_16 qb_10 ?_
    refine x_iload_n d11_relaxOne_18 2 rfl rfl ?_
    refine x_imul d11_relaxOne_19 ?_
    refine x_iload d11_relaxOne_20 4 rfl ?_
    refine x_iadd d11_relaxOne_22 ?_
    obtain ⟨g2, h⟩ := h
    refine x_lald d11_relaxOne_23 (hS.1 _ _ (sh_169 b)) g2 ?_
    refine x_lstore d11_relaxOne_24 (by decide) (L' := [(5, .long (xm_gl M (b + 169) (Int32.toNatClampNeg (((10 : Int32) * v2) + v4)))), (0, .ref (b + 154)), (1, .int v1), (2, .int v2), (3, .int v3), (4, .int v4)]) rfl ?_
    refine x_lload d11_relaxOne_26 0 rfl ?_
    refine x_ldc2 d11_relaxOne_28 lc11_123 ?_
    refine x_lc_ge d11_relaxOne_31 d11_relaxOne_32 rfl rfl (t := 96) (by decide) (fun g => ?_) (fun g => ?_)
    · have h := h.1 g
      refine x_iinc d11_relaxOne_96 5 rfl rfl (by decide) (L' := [(4, .int (v4 + Int32.ofInt (1))), (5, .long (xm_gl M (b + 169) (Int32.toNatClampNeg (((10 : Int32) * v2) + v4)))), (0, .ref (b + 154)), (1, .int v1), (2, .int v2), (3, .int v3)]) rfl ?_
      refine x_goto d11_relaxOne_99 (t := 5) (by decide) ?_
      exact xm_X.sub [2, 3, 4, 5, 0] rfl (h hS)
    · have h := h.2 g
      refine x_aload_n d11_relaxOne_35 1 rfl rfl ?_
      refine x_getR d11_relaxOne_36 fl11_59 (fun _ _ => rfl) (hS.1 _ _ (sh_154 b)) (hS.2.1 _ _ _ (pt_154_23 b)) ?_
      refine x_bipush d11_relaxOne_39 qb_10 ?_
      refine x_iload_n d11_relaxOne_41 2 rfl rfl ?_
      refine x_imul d11_relaxOne_42 ?_
      refine x_iload_n d11_relaxOne_43 3 rfl rfl ?_
      refine x_iadd d11_relaxOne_44 ?_
      obtain ⟨g3, h⟩ := h
      refine x_lald d11_relaxOne_45 (hS.1 _ _ (sh_169 b)) g3 ?_
      refine x_lload d11_relaxOne_46 0 rfl ?_
      refine x_ladd d11_relaxOne_48 ?_
      refine x_aload_n d11_relaxOne_49 1 rfl rfl ?_
      refine x_getR d11_relaxOne_50 fl11_59 (fun _ _ => rfl) (hS.1 _ _ (sh_154 b)) (hS.2.1 _ _ _ (pt_154_23 b)) ?_
      refine x_bipush d11_relaxOne_53 qb_10 ?_
      refine x_iload_n d11_relaxOne_55 2 rfl rfl ?_
      refine x_imul d11_relaxOne_56 ?_
      refine x_iload d11_relaxOne_57 5 rfl ?_
      refine x_iadd d11_relaxOne_59 ?_
      obtain ⟨g4, h⟩ := h
      refine x_lald d11_relaxOne_60 (hS.1 _ _ (sh_169 b)) g4 ?_
      refine x_lc_lt d11_relaxOne_61 d11_relaxOne_62 rfl rfl (t := 68) (by decide) (fun g => ?_) (fun g => ?_)
      · have h := h.1 g
        refine x_aload_n d11_relaxOne_68 1 rfl rfl ?_
        refine x_getR d11_relaxOne_69 fl11_59 (fun _ _ => rfl) (hS.1 _ _ (sh_154 b)) (hS.2.1 _ _ _ (pt_154_23 b)) ?_
        refine x_bipush d11_relaxOne_72 qb_10 ?_
        refine x_iload_n d11_relaxOne_74 2 rfl rfl ?_
        refine x_imul d11_relaxOne_75 ?_
        refine x_iload d11_relaxOne_76 5 rfl ?_
        refine x_iadd d11_relaxOne_78 ?_
        refine x_aload_n d11_relaxOne_79 1 rfl rfl ?_
        refine x_getR d11_relaxOne_80 fl11_59 (fun _ _ => rfl) (hS.1 _ _ (sh_154 b)) (hS.2.1 _ _ _ (pt_154_23 b)) ?_
        refine x_bipush d11_relaxOne_83 qb_10 ?_
        refine x_iload_n d11_relaxOne_85 2 rfl rfl ?_
        refine x_imul d11_relaxOne_86 ?_
        refine x_iload_n d11_relaxOne_87 3 rfl rfl ?_
        refine x_iadd d11_relaxOne_88 ?_
        obtain ⟨g5, h⟩ := h
        refine x_lald d11_relaxOne_89 (hS.1 _ _ (sh_169 b)) g5 ?_
        refine x_lload d11_relaxOne_90 0 rfl ?_
        refine x_ladd d11_relaxOne_92 ?_
        obtain ⟨g6, h⟩ := h
        refine x_last d11_relaxOne_93 (hS.1 _ _ (sh_169 b)) g6 ?_
        refine x_iconst d11_relaxOne_94 qi_1 ?_
        refine x_istore_n d11_relaxOne_95 rfl (by decide) (L' := [(3, .int (1 : Int32)), (5, .long (xm_gl M (b + 169) (Int32.toNatClampNeg (((10 : Int32) * v2) + v4)))), (0, .ref (b + 154)), (1, .int v1), (2, .int v2), (4, .int v4)]) rfl ?_
        refine x_iinc d11_relaxOne_96 5 rfl rfl (by decide) (L' := [(4, .int (v4 + Int32.ofInt (1))), (3, .int (1 : Int32)), (5, .long (xm_gl M (b + 169) (Int32.toNatClampNeg (((10 : Int32) * v2) + v4)))), (0, .ref (b + 154)), (1, .int v1), (2, .int v2)]) rfl ?_
        refine x_goto d11_relaxOne_99 (t := 5) (by decide) ?_
        exact xm_X.sub [3, 4, 5, 1, 0] rfl (h hS.pl)
      · have h := h.2 g
        refine x_goto d11_relaxOne_65 (t := 96) (by decide) ?_
        refine x_iinc d11_relaxOne_96 5 rfl rfl (by decide) (L' := [(4, .int (v4 + Int32.ofInt (1))), (5, .long (xm_gl M (b + 169) (Int32.toNatClampNeg (((10 : Int32) * v2) + v4)))), (0, .ref (b + 154)), (1, .int v1), (2, .int v2), (3, .int v3)]) rfl ?_
        refine x_goto d11_relaxOne_99 (t := 5) (by decide) ?_
        exact xm_X.sub [2, 3, 4, 5, 0] rfl (h hS)

set_option maxRecDepth 20000 in
theorem t11_come_0 {l : Launch} {E : xm_E} {b : Nat} {c p : Bool} {Q : Option Value → xm_M → Prop} (M : xm_M) (v1 : Int32) (hS : xm_st b c p M)
  (h : (xm_st b c p M → xm_X l E y11_come rm11_come Q 2 [(0, .ref (b + 154)), (1, .int v1), (2, .int (0 : Int32))] [] 0 0 M)) :
  xm_X l E y11_come rm11_come Q 0 [(0, .ref (b + 154)), (1, .int v1)] [] 0 0 M := by
  refine x_iconst d11_come_0 qi_0 ?_
  refine x_istore_n d11_come_1 rfl (by decide) (L' := [(2, .int (0 : Int32)), (0, .ref (b + 154)), (1, .int v1)]) rfl ?_
  exact xm_X.sub [1, 2, 0] rfl (h hS)
set_option maxRecDepth 20000 in
theorem t11_come_2 {l : Launch} {E : xm_E} {b : Nat} {c p : Bool} {Q : Option Value → xm_M → Prop} (M : xm_M) (v1 : Int32) (v2 : Int32) (hS : xm_st b c p M)
  (h : (((100 : Int32) ≤ v2 → (vp_in v1 48 ∧ (xm_st b c p (xm_pi M (b + 167) (Int32.toNatClampNeg v1) (1 : Int32)) → Q none (xm_pi M (b + 167) (Int32.toNatClampNeg v1) (1 : Int32))))) ∧ (¬ (100 : Int32) ≤ v2 → (((v2 - v2 / (11 : Int32) * (11 : Int32)) = 0 → (vp_in v1 48 ∧ (((xm_gi M (b + 167) (Int32.toNatClampNeg v1)) = 0 → (vp_in (((100 : Int32) * v1) + v2) 4800 ∧ (xm_st b c p (xm_pl M (b + 166) (Int32.toNatClampNeg (((100 : Int32) * v1) + v2)) (1125899906842624 : Int64)) → xm_X l E y11_come rm11_come Q 2 [(0, .ref (b + 154)), (1, .int v1), (2, .int (v2 + Int32.ofInt (1)))] [] 0 0 (xm_pl M (b + 166) (Int32.toNatClampNeg (((100 : Int32) * v1) + v2)) (1125899906842624 : Int64))))) ∧ (¬ (xm_gi M (b + 167) (Int32.toNatClampNeg v1)) = 0 → (vp_in (((100 : Int32) * v1) + v2) 4800 ∧ (((xm_gl M (b + 166) (Int32.toNatClampNeg (((100 : Int32) * v1) + v2))) ≤ (1125899906842624 : Int64) → (vp_in (((100 : Int32) * v1) + v2) 4800 ∧ (xm_st b c p (xm_pl M (b + 166) (Int32.toNatClampNeg (((100 : Int32) * v1) + v2)) (1125899906842624 : Int64)) → xm_X l E y11_come rm11_come Q 2 [(0, .ref (b + 154)), (1, .int v1), (2, .int (v2 + Int32.ofInt (1)))] [] 0 0 (xm_pl M (b + 166) (Int32.toNatClampNeg (((100 : Int32) * v1) + v2)) (1125899906842624 : Int64))))) ∧ (¬ (xm_gl M (b + 166) (Int32.toNatClampNeg (((100 : Int32) * v1) + v2))) ≤ (1125899906842624 : Int64) → (vp_in (((100 : Int32) * v1) + v2) 4800 ∧ (vp_in (((100 : Int32) * v1) + v2) 4800 ∧ (xm_st b c p (xm_pl M (b + 166) (Int32.toNatClampNeg (((100 : Int32) * v1) + v2)) (xm_gl M (b + 166) (Int32.toNatClampNeg (((100 : Int32) * v1) + v2)))) → xm_X l E y11_come rm11_come Q 2 [(0, .ref (b + 154)), (1, .int v1), (2, .int (v2 + Int32.ofInt (1)))] [] 0 0 (xm_pl M (b + 166) (Int32.toNatClampNeg (((100 : Int32) * v1) + v2)) (xm_gl M (b + 166) (Int32.toNatClampNeg (((100 : Int32) * v1) + v2)))))))))))))) ∧ (¬ (v2 - v2 / (11 : Int32) * (11 : Int32)) = 0 → (vp_in v2 100 ∧ xm_C l E y11_isInt rm11_isInt [.long (xm_gl M (b + 169) (Int32.toNatClampNeg v2))] M (fun r M9 => ∃ r10 : Bool, r = some (.int (xz r10)) ∧ xm_st b c p M9 ∧ (((xz r10) = 0 → (vp_in v1 48 ∧ (((xm_gi M9 (b + 167) (Int32.toNatClampNeg v1)) = 0 → (vp_in (((100 : Int32) * v1) + v2) 4800 ∧ (xm_st b c p (xm_pl M9 (b + 166) (Int32.toNatClampNeg (((100 : Int32) * v1) + v2)) (1125899906842624 : Int64)) → xm_X l E y11_come rm11_come Q 2 [(0, .ref (b + 154)), (1, .int v1), (2, .int (v2 + Int32.ofInt (1)))] [] 0 0 (xm_pl M9 (b + 166) (Int32.toNatClampNeg (((100 : Int32) * v1) + v2)) (1125899906842624 : Int64))))) ∧ (¬ (xm_gi M9 (b + 167) (Int32.toNatClampNeg v1)) = 0 → (vp_in (((100 : Int32) * v1) + v2) 4800 ∧ (((xm_gl M9 (b + 166) (Int32.toNatClampNeg (((100 : Int32) * v1) + v2))) ≤ (1125899906842624 : Int64) → (vp_in (((100 : Int32) * v1) + v2) 4800 ∧ (xm_st b c p (xm_pl M9 (b + 166) (Int32.toNatClampNeg (((100 : Int32) * v1) + v2)) (1125899906842624 : Int64)) → xm_X l E y11_come rm11_come Q 2 [(0, .ref (b + 154)), (1, .int v1), (2, .int (v2 + Int32.ofInt (1)))] [] 0 0 (xm_pl M9 (b + 166) (Int32.toNatClampNeg (((100 : Int32) * v1) + v2)) (1125899906842624 : Int64))))) ∧ (¬ (xm_gl M9 (b + 166) (Int32.toNatClampNeg (((100 : Int32) * v1) + v2))) ≤ (1125899906842624 : Int64) → (vp_in (((100 : Int32) * v1) + v2) 4800 ∧ (vp_in (((100 : Int32) * v1) + v2) 4800 ∧ (xm_st b c p (xm_pl M9 (b + 166) (Int32.toNatClampNeg (((100 : Int32) * v1) + v2)) (xm_gl M9 (b + 166) (Int32.toNatClampNeg (((100 : Int32) * v1) + v2)))) → xm_X l E y11_come rm11_come Q 2 [(0, .ref (b + 154)), (1, .int v1), (2, .int (v2 + Int32.ofInt (1)))] [] 0 0 (xm_pl M9 (b + 166) (Int32.toNatClampNeg (((100 : Int32) * v1) + v2)) (xm_gl M9 (b + 166) (Int32.toNatClampNeg (((100 : Int32) * v1) + v2)))))))))))))) ∧ (¬ (xz r10) = 0 → (vp_in v2 100 ∧ (vp_in v1 48 ∧ (((xm_gi M9 (b + 167) (Int32.toNatClampNeg v1)) = 0 → (vp_in (((100 : Int32) * v1) + v2) 4800 ∧ (xm_st b c p (xm_pl M9 (b + 166) (Int32.toNatClampNeg (((100 : Int32) * v1) + v2)) (xm_gl M9 (b + 169) (Int32.toNatClampNeg v2))) → xm_X l E y11_come rm11_come Q 2 [(0, .ref (b + 154)), (1, .int v1), (2, .int (v2 + Int32.ofInt (1)))] [] 0 0 (xm_pl M9 (b + 166) (Int32.toNatClampNeg (((100 : Int32) * v1) + v2)) (xm_gl M9 (b + 169) (Int32.toNatClampNeg v2)))))) ∧ (¬ (xm_gi M9 (b + 167) (Int32.toNatClampNeg v1)) = 0 → (vp_in (((100 : Int32) * v1) + v2) 4800 ∧ (((xm_gl M9 (b + 166) (Int32.toNatClampNeg (((100 : Int32) * v1) + v2))) ≤ (xm_gl M9 (b + 169) (Int32.toNatClampNeg v2)) → (vp_in (((100 : Int32) * v1) + v2) 4800 ∧ (xm_st b c p (xm_pl M9 (b + 166) (Int32.toNatClampNeg (((100 : Int32) * v1) + v2)) (xm_gl M9 (b + 169) (Int32.toNatClampNeg v2))) → xm_X l E y11_come rm11_come Q 2 [(0, .ref (b + 154)), (1, .int v1), (2, .int (v2 + Int32.ofInt (1)))] [] 0 0 (xm_pl M9 (b + 166) (Int32.toNatClampNeg (((100 : Int32) * v1) + v2)) (xm_gl M9 (b + 169) (Int32.toNatClampNeg v2)))))) ∧ (¬ (xm_gl M9 (b + 166) (Int32.toNatClampNeg (((100 : Int32) * v1) + v2))) ≤ (xm_gl M9 (b + 169) (Int32.toNatClampNeg v2)) → (vp_in (((100 : Int32) * v1) + v2) 4800 ∧ (vp_in (((100 : Int32) * v1) + v2) 4800 ∧ (xm_st b c p (xm_pl M9 (b + 166) (Int32.toNatClampNeg (((100 : Int32) * v1) + v2)) (xm_gl M9 (b + 166) (Int32.toNatClampNeg (((100 : Int32) * v1) + v2)))) → xm_X l E y11_come rm11_come Q 2 [(0, .ref (b + 154)), (1, .int v1), (2, .int (v2 + Int32.ofInt (1)))] [] 0 0 (xm_pl M9 (b + 166) (Int32.toNatClampNeg (((100 : Int32) * v1) + v2)) (xm_gl M9 (b + 166) (Int32.toNatClampNeg (((100 : Int32) * v1) + v2))))))))))))))))))))))) :
  xm_X l E y11_come rm11_come Q 2 [(0, .ref (b + 154)), (1, .int v1), (2, .int v2)] [] 0 0 M := by
  refine x_iload_n d11_come_2 2 rfl rfl ?_
  refine x_bipush d11_come_3 qb_100 ?_
  refine x_icmp_ge d11_come_5 (t := 93) (by decide) (fun g => ?_) (fun g => ?_)
  · have h := h.1 g
    refine x_aload_n d11_come_93 0 rfl rfl ?_
    refine x_getR d11_come_94 fl11_52 (fun _ _ => rfl) (hS.1 _ _ (sh_154 b)) (hS.2.1 _ _ _ (pt_154_21 b)) ?_
    refine x_iload_n d11_come_97 1 rfl rfl ?_
    refine x_iconst d11_come_98 qi_1 ?_
    obtain ⟨g1, h⟩ := h
    refine x_zast d11_come_99 (hS.1 _ _ (sh_167 b)) g1 rfl ?_
    exact x_ret (r := none) d11_come_100 xm_rN rfl ⟨Nat.le_refl _, Nat.le_refl _⟩ (h hS.pi)
  · have h := h.2 g
    refine x_iload_n d11_come_8 2 rfl rfl ?_
    refine x_bipush d11_come_9 qb_11 ?_
    refine x_irem d11_come_11 (by decide) ?_
    refine x_if_eq d11_come_12 (t := 36) (by decide) (fun g => ?_) (fun g => ?_)
    · have h := h.1 g
      refine x_ldc2 d11_come_36 lc11_123 ?_
      refine x_lstore_n d11_come_39 rfl (by decide) (L' := [(3, .long (1125899906842624 : Int64)), (0, .ref (b + 154)), (1, .int v1), (2, .int v2)]) rfl ?_
      refine x_bipush d11_come_40 qb_100 ?_
      refine x_iload_n d11_come_42 2 rfl rfl ?_
      refine x_imul d11_come_43 ?_
      refine x_iload_n d11_come_44 3 rfl rfl ?_
      refine x_iadd d11_come_45 ?_
      refine x_istore d11_come_46 (by decide) (L' := [(5, .int (((100 : Int32) * v1) + v2)), (3, .long (1125899906842624 : Int64)), (0, .ref (b + 154)), (1, .int v1), (2, .int v2)]) rfl ?_
      refine x_aload_n d11_come_48 2 rfl rfl ?_
      refine x_getR d11_come_49 fl11_49 (fun _ _ => rfl) (hS.1 _ _ (sh_154 b)) (hS.2.1 _ _ _ (pt_154_20 b)) ?_
      refine x_iload d11_come_52 0 rfl ?_
      refine x_aload_n d11_come_54 2 rfl rfl ?_
      refine x_getR d11_come_55 fl11_52 (fun _ _ => rfl) (hS.1 _ _ (sh_154 b)) (hS.2.1 _ _ _ (pt_154_21 b)) ?_
      refine x_iload_n d11_come_58 3 rfl rfl ?_
      obtain ⟨g2, h⟩ := h
      refine x_zald d11_come_59 (hS.1 _ _ (sh_167 b)) g2 ?_
      refine x_if_eq d11_come_60 (t := 85) (by decide) (fun g => ?_) (fun g => ?_)
      · have h := h.1 g
        refine x_lload_n d11_come_85 1 rfl rfl ?_
        obtain ⟨g3, h⟩ := h
        refine x_last d11_come_86 (hS.1 _ _ (sh_166 b)) g3 ?_
        refine x_iinc d11_come_87 4 rfl rfl (by decide) (L' := [(2, .int (v2 + Int32.ofInt (1))), (5, .int (((100 : Int32) * v1) + v2)), (3, .long (1125899906842624 : Int64)), (0, .ref (b + 154)), (1, .int v1)]) rfl ?_
        refine x_goto d11_come_90 (t := 2) (by decide) ?_
        exact xm_X.sub [3, 4, 0] rfl (h hS.pl)
      · have h := h.2 g
        refine x_aload_n d11_come_63 2 rfl rfl ?_
        refine x_getR d11_come_64 fl11_49 (fun _ _ => rfl) (hS.1 _ _ (sh_154 b)) (hS.2.1 _ _ _ (pt_154_20 b)) ?_
        refine x_iload d11_come_67 0 rfl ?_
        obtain ⟨g4, h⟩ := h
        refine x_lald d11_come_69 (hS.1 _ _ (sh_166 b)) g4 ?_
        refine x_lload_n d11_come_70 1 rfl rfl ?_
        refine x_lc_le d11_come_71 d11_come_72 rfl rfl (t := 85) (by decide) (fun g => ?_) (fun g => ?_)
        · have h := h.1 g
          refine x_lload_n d11_come_85 1 rfl rfl ?_
          obtain ⟨g5, h⟩ := h
          refine x_last d11_come_86 (hS.1 _ _ (sh_166 b)) g5 ?_
          refine x_iinc d11_come_87 4 rfl rfl (by decide) (L' := [(2, .int (v2 + Int32.ofInt (1))), (5, .int (((100 : Int32) * v1) + v2)), (3, .long (1125899906842624 : Int64)), (0, .ref (b + 154)), (1, .int v1)]) rfl ?_
          refine x_goto d11_come_90 (t := 2) (by decide) ?_
          exact xm_X.sub [3, 4, 0] rfl (h hS.pl)
        · have h := h.2 g
          refine x_aload_n d11_come_75 2 rfl rfl ?_
          refine x_getR d11_come_76 fl11_49 (fun _ _ => rfl) (hS.1 _ _ (sh_154 b)) (hS.2.1 _ _ _ (pt_154_20 b)) ?_
          refine x_iload d11_come_79 0 rfl ?_
          obtain ⟨g6, h⟩ := h
          refine x_lald d11_come_81 (hS.1 _ _ (sh_166 b)) g6 ?_
          refine x_goto d11_come_82 (t := 86) (by decide) ?_
          obtain ⟨g7, h⟩ := h
          refine x_last d11_come_86 (hS.1 _ _ (sh_166 b)) g7 ?_
          refine x_iinc d11_come_87 4 rfl rfl (by decide) (L' := [(2, .int (v2 + Int32.ofInt (1))), (5, .int (((100 : Int32) * v1) + v2)), (3, .long (1125899906842624 : Int64)), (0, .ref (b + 154)), (1, .int v1)]) rfl ?_
          refine x_goto d11_come_90 (t := 2) (by decide) ?_
          exact xm_X.sub [3, 4, 0] rfl (h hS.pl)
    · have h := h.2 g
      refine x_aload_n d11_come_15 0 rfl rfl ?_
      refine x_getR d11_come_16 fl11_59 (fun _ _ => rfl) (hS.1 _ _ (sh_154 b)) (hS.2.1 _ _ _ (pt_154_23 b)) ?_
      refine x_iload_n d11_come_19 2 rfl rfl ?_
      obtain ⟨g8, h⟩ := h
      refine x_lald d11_come_20 (hS.1 _ _ (sh_169 b)) g8 ?_
      refine x_cSZ (Z := y11_isInt) (S := rm11_isInt) (As := [.long (xm_gl M (b + 169) (Int32.toNatClampNeg v2))]) (rest := []) d11_come_21 ml11_96 k11_isInt rfl rfl (Nat.le_of_ble_eq_true rfl) ⟨⟨by decide, by decide⟩, by decide, by decide⟩ ⟨rfl, rfl⟩ h (fun r10 M9 h => ?_)
      obtain ⟨hS, h⟩ := h
      refine x_if_eq d11_come_24 (t := 36) (by decide) (fun g => ?_) (fun g => ?_)
      · have h := h.1 g
        refine x_ldc2 d11_come_36 lc11_123 ?_
        refine x_lstore_n d11_come_39 rfl (by decide) (L' := [(3, .long (1125899906842624 : Int64)), (0, .ref (b + 154)), (1, .int v1), (2, .int v2)]) rfl ?_
        refine x_bipush d11_come_40 qb_100 ?_
        refine x_iload_n d11_come_42 2 rfl rfl ?_
        refine x_imul d11_come_43 ?_
        refine x_iload_n d11_come_44 3 rfl rfl ?_
        refine x_iadd d11_come_45 ?_
        refine x_istore d11_come_46 (by decide) (L' := [(5, .int (((100 : Int32) * v1) + v2)), (3, .long (1125899906842624 : Int64)), (0, .ref (b + 154)), (1, .int v1), (2, .int v2)]) rfl ?_
        refine x_aload_n d11_come_48 2 rfl rfl ?_
        refine x_getR d11_come_49 fl11_49 (fun _ _ => rfl) (hS.1 _ _ (sh_154 b)) (hS.2.1 _ _ _ (pt_154_20 b)) ?_
        refine x_iload d11_come_52 0 rfl ?_
        refine x_aload_n d11_come_54 2 rfl rfl ?_
        refine x_getR d11_come_55 fl11_52 (fun _ _ => rfl) (hS.1 _ _ (sh_154 b)) (hS.2.1 _ _ _ (pt_154_21 b)) ?_
        refine x_iload_n d11_come_58 3 rfl rfl ?_
        obtain ⟨g11, h⟩ := h
        refine x_zald d11_come_59 (hS.1 _ _ (sh_167 b)) g11 ?_
        refine x_if_eq d11_come_60 (t := 85) (by decide) (fun g => ?_) (fun g => ?_)
        · have h := h.1 g
          refine x_lload_n d11_come_85 1 rfl rfl ?_
          obtain ⟨g12, h⟩ := h
          refine x_last d11_come_86 (hS.1 _ _ (sh_166 b)) g12 ?_
          refine x_iinc d11_come_87 4 rfl rfl (by decide) (L' := [(2, .int (v2 + Int32.ofInt (1))), (5, .int (((100 : Int32) * v1) + v2)), (3, .long (1125899906842624 : Int64)), (0, .ref (b + 154)), (1, .int v1)]) rfl ?_
          refine x_goto d11_come_90 (t := 2) (by decide) ?_
          exact xm_X.sub [3, 4, 0] rfl (h hS.pl)
        · have h := h.2 g
          refine x_aload_n d11_come_63 2 rfl rfl ?_
          refine x_getR d11_come_64 fl11_49 (fun _ _ => rfl) (hS.1 _ _ (sh_154 b)) (hS.2.1 _ _ _ (pt_154_20 b)) ?_
          refine x_iload d11_come_67 0 rfl ?_
          obtain ⟨g13, h⟩ := h
          refine x_lald d11_come_69 (hS.1 _ _ (sh_166 b)) g13 ?_
          refine x_lload_n d11_come_70 1 rfl rfl ?_
          refine x_lc_le d11_come_71 d11_come_72 rfl rfl (t := 85) (by decide) (fun g => ?_) (fun g => ?_)
          · have h := h.1 g
            refine x_lload_n d11_come_85 1 rfl rfl ?_
            obtain ⟨g14, h⟩ := h
            refine x_last d11_come_86 (hS.1 _ _ (sh_166 b)) g14 ?_
            refine x_iinc d11_come_87 4 rfl rfl (by decide) (L' := [(2, .int (v2 + Int32.ofInt (1))), (5, .int (((100 : Int32) * v1) + v2)), (3, .long (1125899906842624 : Int64)), (0, .ref (b + 154)), (1, .int v1)]) rfl ?_
            refine x_goto d11_come_90 (t := 2) (by decide) ?_
            exact xm_X.sub [3, 4, 0] rfl (h hS.pl)
          · have h := h.2 g
            refine x_aload_n d11_come_75 2 rfl rfl ?_
            refine x_getR d11_come_76 fl11_49 (fun _ _ => rfl) (hS.1 _ _ (sh_154 b)) (hS.2.1 _ _ _ (pt_154_20 b)) ?_
            refine x_iload d11_come_79 0 rfl ?_
            obtain ⟨g15, h⟩ := h
            refine x_lald d11_come_81 (hS.1 _ _ (sh_166 b)) g15 ?_
            refine x_goto d11_come_82 (t := 86) (by decide) ?_
            obtain ⟨g16, h⟩ := h
            refine x_last d11_come_86 (hS.1 _ _ (sh_166 b)) g16 ?_
            refine x_iinc d11_come_87 4 rfl rfl (by decide) (L' := [(2, .int (v2 + Int32.ofInt (1))), (5, .int (((100 : Int32) * v1) + v2)), (3, .long (1125899906842624 : Int64)), (0, .ref (b + 154)), (1, .int v1)]) rfl ?_
            refine x_goto d11_come_90 (t := 2) (by decide) ?_
            exact xm_X.sub [3, 4, 0] rfl (h hS.pl)
      · have h := h.2 g
        refine x_aload_n d11_come_27 0 rfl rfl ?_
        refine x_getR d11_come_28 fl11_59 (fun _ _ => rfl) (hS.1 _ _ (sh_154 b)) (hS.2.1 _ _ _ (pt_154_23 b)) ?_
        refine x_iload_n d11_come_31 2 rfl rfl ?_
        obtain ⟨g17, h⟩ := h
        refine x_lald d11_come_32 (hS.1 _ _ (sh_169 b)) g17 ?_
        refine x_goto d11_come_33 (t := 39) (by decide) ?_
        refine x_lstore_n d11_come_39 rfl (by decide) (L' := [(3, .long (xm_gl M9 (b + 169) (Int32.toNatClampNeg v2))), (0, .ref (b + 154)), (1, .int v1), (2, .int v2)]) rfl ?_
        refine x_bipush d11_come_40 qb_100 ?_
        refine x_iload_n d11_come_42 2 rfl rfl ?_
        refine x_imul d11_come_43 ?_
        refine x_iload_n d11_come_44 3 rfl rfl ?_
        refine x_iadd d11_come_45 ?_
        refine x_istore d11_come_46 (by decide) (L' := [(5, .int (((100 : Int32) * v1) + v2)), (3, .long (xm_gl M9 (b + 169) (Int32.toNatClampNeg v2))), (0, .ref (b + 154)), (1, .int v1), (2, .int v2)]) rfl ?_
        refine x_aload_n d11_come_48 2 rfl rfl ?_
        refine x_getR d11_come_49 fl11_49 (fun _ _ => rfl) (hS.1 _ _ (sh_154 b)) (hS.2.1 _ _ _ (pt_154_20 b)) ?_
        refine x_iload d11_come_52 0 rfl ?_
        refine x_aload_n d11_come_54 2 rfl rfl ?_
        refine x_getR d11_come_55 fl11_52 (fun _ _ => rfl) (hS.1 _ _ (sh_154 b)) (hS.2.1 _ _ _ (pt_154_21 b)) ?_
        refine x_iload_n d11_come_58 3 rfl rfl ?_
        obtain ⟨g18, h⟩ := h
        refine x_zald d11_come_59 (hS.1 _ _ (sh_167 b)) g18 ?_
        refine x_if_eq d11_come_60 (t := 85) (by decide) (fun g => ?_) (fun g => ?_)
        · have h := h.1 g
          refine x_lload_n d11_come_85 1 rfl rfl ?_
          obtain ⟨g19, h⟩ := h
          refine x_last d11_come_86 (hS.1 _ _ (sh_166 b)) g19 ?_
          refine x_iinc d11_come_87 4 rfl rfl (by decide) (L' := [(2, .int (v2 + Int32.ofInt (1))), (5, .int (((100 : Int32) * v1) + v2)), (3, .long (xm_gl M9 (b + 169) (Int32.toNatClampNeg v2))), (0, .ref (b + 154)), (1, .int v1)]) rfl ?_
          refine x_goto d11_come_90 (t := 2) (by decide) ?_
          exact xm_X.sub [3, 4, 0] rfl (h hS.pl)
        · have h := h.2 g
          refine x_aload_n d11_come_63 2 rfl rfl ?_
          refine x_getR d11_come_64 fl11_49 (fun _ _ => rfl) (hS.1 _ _ (sh_154 b)) (hS.2.1 _ _ _ (pt_154_20 b)) ?_
          refine x_iload d11_come_67 0 rfl ?_
          obtain ⟨g20, h⟩ := h
          refine x_lald d11_come_69 (hS.1 _ _ (sh_166 b)) g20 ?_
          refine x_lload_n d11_come_70 1 rfl rfl ?_
          refine x_lc_le d11_come_71 d11_come_72 rfl rfl (t := 85) (by decide) (fun g => ?_) (fun g => ?_)
          · have h := h.1 g
            refine x_lload_n d11_come_85 1 rfl rfl ?_
            obtain ⟨g21, h⟩ := h
            refine x_last d11_come_86 (hS.1 _ _ (sh_166 b)) g21 ?_
            refine x_iinc d11_come_87 4 rfl rfl (by decide) (L' := [(2, .int (v2 + Int32.ofInt (1))), (5, .int (((100 : Int32) * v1) + v2)), (3, .long (xm_gl M9 (b + 169) (Int32.toNatClampNeg v2))), (0, .ref (b + 154)), (1, .int v1)]) rfl ?_
            refine x_goto d11_come_90 (t := 2) (by decide) ?_
            exact xm_X.sub [3, 4, 0] rfl (h hS.pl)
          · have h := h.2 g
            refine x_aload_n d11_come_75 2 rfl rfl ?_
            refine x_getR d11_come_76 fl11_49 (fun _ _ => rfl) (hS.1 _ _ (sh_154 b)) (hS.2.1 _ _ _ (pt_154_20 b)) ?_
            refine x_iload d11_come_79 0 rfl ?_
            obtain ⟨g22, h⟩ := h
            refine x_lald d11_come_81 (hS.1 _ _ (sh_166 b)) g22 ?_
            refine x_goto d11_come_82 (t := 86) (by decide) ?_
            obtain ⟨g23, h⟩ := h
            refine x_last d11_come_86 (hS.1 _ _ (sh_166 b)) g23 ?_
            refine x_iinc d11_come_87 4 rfl rfl (by decide) (L' := [(2, .int (v2 + Int32.ofInt (1))), (5, .int (((100 : Int32) * v1) + v2)), (3, .long (xm_gl M9 (b + 169) (Int32.toNatClampNeg v2))), (0, .ref (b + 154)), (1, .int v1)]) rfl ?_
            refine x_goto d11_come_90 (t := 2) (by decide) ?_
            exact xm_X.sub [3, 4, 0] rfl (h hS.pl)

set_option maxRecDepth 20000 in
theorem t11_end_0 {l : Launch} {E : xm_E} {b : Nat} {c p : Bool} {Q : Option Value → xm_M → Prop} (M : xm_M) (v1 : Int32) (v2 : Int32) (hS : xm_st b c p M)
  (h : ((¬ v2 = 0 → (vp_in v1 48 ∧ (((xm_gi M (b + 155) (Int32.toNatClampNeg v1)) ≤ (12 : Int32) → (xm_st b c p M → Q (some (.int (-1 : Int32))) M)) ∧ (¬ (xm_gi M (b + 155) (Int32.toNatClampNeg v1)) ≤ (12 : Int32) → (vp_in v1 48 ∧ (xm_st b c p M → Q (some (.int (xm_gi M (b + 159) (Int32.toNatClampNeg v1)))) M)))))) ∧ (v2 = 0 → (vp_in v1 48 ∧ (((xm_gi M (b + 155) (Int32.toNatClampNeg v1)) = 0 → (xm_st b c p M → Q (some (.int (-1 : Int32))) M)) ∧ (¬ (xm_gi M (b + 155) (Int32.toNatClampNeg v1)) = 0 → (vp_in v1 48 ∧ ((¬ (xm_gi M (b + 155) (Int32.toNatClampNeg v1)) = (13 : Int32) → (xm_st b c p M → Q (some (.int (v1 + (1 : Int32)))) M)) ∧ ((xm_gi M (b + 155) (Int32.toNatClampNeg v1)) = (13 : Int32) → (xm_st b c p M → Q (some (.int (-1 : Int32))) M)))))))))) :
  xm_X l E y11_end rm11_end Q 0 [(0, .ref (b + 154)), (1, .int v1), (2, .int v2)] [] 0 0 M := by
  refine x_iload_n d11_end_0 2 rfl rfl ?_
  refine x_if_ne d11_end_1 (t := 32) (by decide) (fun g => ?_) (fun g => ?_)
  · have h := h.1 g
    refine x_aload_n d11_end_32 0 rfl rfl ?_
    refine x_getR d11_end_33 fl11_7 (fun _ _ => rfl) (hS.1 _ _ (sh_154 b)) (hS.2.1 _ _ _ (pt_154_2 b)) ?_
    refine x_iload_n d11_end_36 1 rfl rfl ?_
    obtain ⟨g1, h⟩ := h
    refine x_iald d11_end_37 (hS.1 _ _ (sh_155 b)) g1 ?_
    refine x_bipush d11_end_38 qb_12 ?_
    refine x_icmp_le d11_end_40 (t := 52) (by decide) (fun g => ?_) (fun g => ?_)
    · have h := h.1 g
      refine x_iconst d11_end_52 qi_n1 ?_
      exact x_ret (r := (some (.int (-1 : Int32)))) d11_end_53 xm_rI rfl ⟨Nat.le_refl _, Nat.le_refl _⟩ (h hS)
    · have h := h.2 g
      refine x_aload_n d11_end_43 0 rfl rfl ?_
      refine x_getR d11_end_44 fl11_22 (fun _ _ => rfl) (hS.1 _ _ (sh_154 b)) (hS.2.1 _ _ _ (pt_154_6 b)) ?_
      refine x_iload_n d11_end_47 1 rfl rfl ?_
      obtain ⟨g2, h⟩ := h
      refine x_iald d11_end_48 (hS.1 _ _ (sh_159 b)) g2 ?_
      refine x_goto d11_end_49 (t := 53) (by decide) ?_
      exact x_ret (r := (some (.int (xm_gi M (b + 159) (Int32.toNatClampNeg v1))))) d11_end_53 xm_rI rfl ⟨Nat.le_refl _, Nat.le_refl _⟩ (h hS)
  · have h := h.2 g
    refine x_aload_n d11_end_4 0 rfl rfl ?_
    refine x_getR d11_end_5 fl11_7 (fun _ _ => rfl) (hS.1 _ _ (sh_154 b)) (hS.2.1 _ _ _ (pt_154_2 b)) ?_
    refine x_iload_n d11_end_8 1 rfl rfl ?_
    obtain ⟨g3, h⟩ := h
    refine x_iald d11_end_9 (hS.1 _ _ (sh_155 b)) g3 ?_
    refine x_if_eq d11_end_10 (t := 24) (by decide) (fun g => ?_) (fun g => ?_)
    · have h := h.1 g
      refine x_iconst d11_end_24 qi_n1 ?_
      refine x_goto d11_end_25 (t := 31) (by decide) ?_
      exact x_ret (r := (some (.int (-1 : Int32)))) d11_end_31 xm_rI rfl ⟨Nat.le_refl _, Nat.le_refl _⟩ (h hS)
    · have h := h.2 g
      refine x_aload_n d11_end_13 0 rfl rfl ?_
      refine x_getR d11_end_14 fl11_7 (fun _ _ => rfl) (hS.1 _ _ (sh_154 b)) (hS.2.1 _ _ _ (pt_154_2 b)) ?_
      refine x_iload_n d11_end_17 1 rfl rfl ?_
      obtain ⟨g4, h⟩ := h
      refine x_iald d11_end_18 (hS.1 _ _ (sh_155 b)) g4 ?_
      refine x_bipush d11_end_19 qb_13 ?_
      refine x_icmp_ne d11_end_21 (t := 28) (by decide) (fun g => ?_) (fun g => ?_)
      · have h := h.1 g
        refine x_iload_n d11_end_28 1 rfl rfl ?_
        refine x_iconst d11_end_29 qi_1 ?_
        refine x_iadd d11_end_30 ?_
        exact x_ret (r := (some (.int (v1 + (1 : Int32))))) d11_end_31 xm_rI rfl ⟨Nat.le_refl _, Nat.le_refl _⟩ (h hS)
      · have h := h.2 g
        refine x_iconst d11_end_24 qi_n1 ?_
        refine x_goto d11_end_25 (t := 31) (by decide) ?_
        exact x_ret (r := (some (.int (-1 : Int32)))) d11_end_31 xm_rI rfl ⟨Nat.le_refl _, Nat.le_refl _⟩ (h hS)

set_option maxRecDepth 20000 in
theorem t11_stepsOf_0 {l : Launch} {E : xm_E} {b : Nat} {c p : Bool} {Q : Option Value → xm_M → Prop} (M : xm_M) (v1 : Int32) (v2 : Int32) (hS : xm_st b c p M)
  (h : (xm_st b c p (xm_pi (xm_pi M (b + 154) 19 (1 : Int32)) (b + 154) 14 (0 : Int32)) → xm_X l E y11_stepsOf rm11_stepsOf Q 12 [(0, .ref (b + 154)), (1, .int v1), (2, .int v2), (3, .int (0 : Int32))] [] 0 0 (xm_pi (xm_pi M (b + 154) 19 (1 : Int32)) (b + 154) 14 (0 : Int32)))) :
  xm_X l E y11_stepsOf rm11_stepsOf Q 0 [(0, .ref (b + 154)), (1, .int v1), (2, .int v2)] [] 0 0 M := by
  refine x_aload_n d11_stepsOf_0 0 rfl rfl ?_
  refine x_iconst d11_stepsOf_1 qi_1 ?_
  refine x_putI d11_stepsOf_2 fw11_92 (fun _ _ => rfl) rfl rfl (hS.1 _ _ (sh_154 b)) ?_
  refine x_aload_n d11_stepsOf_5 0 rfl rfl ?_
  refine x_iconst d11_stepsOf_6 qi_0 ?_
  refine x_putI d11_stepsOf_7 fw11_100 (fun _ _ => rfl) rfl rfl (hS.pi.1 _ _ (sh_154 b)) ?_
  refine x_iconst d11_stepsOf_10 qi_0 ?_
  refine x_istore_n d11_stepsOf_11 rfl (by decide) (L' := [(3, .int (0 : Int32)), (0, .ref (b + 154)), (1, .int v1), (2, .int v2)]) rfl ?_
  exact xm_X.sub [1, 2, 3, 0] rfl (h hS.pi.pi)
set_option maxRecDepth 20000 in
theorem t11_stepsOf_12 {l : Launch} {E : xm_E} {b : Nat} {c p : Bool} {Q : Option Value → xm_M → Prop} (M : xm_M) (v1 : Int32) (v2 : Int32) (v3 : Int32) (hS : xm_st b c p M)
  (h : (((100 : Int32) ≤ v3 → xm_C l E y11_further rm11_further [.ref (b + 154), .int v1, .int v2, .int (100 : Int32)] M (fun r M1 => r = none ∧ xm_st b c p M1 ∧ (vp_in v1 48 ∧ (((xm_gi M1 (b + 155) (Int32.toNatClampNeg v1)) = (4 : Int32) → (xm_st b c p M1 → xm_X l E y11_stepsOf rm11_stepsOf Q 88 [(0, .ref (b + 154)), (1, .int v1), (3, .int (0 : Int32))] [] 0 0 M1)) ∧ (¬ (xm_gi M1 (b + 155) (Int32.toNatClampNeg v1)) = (4 : Int32) → (xm_st b c p M1 → Q none M1)))))) ∧ (¬ (100 : Int32) ≤ v3 → (vp_in (((100 : Int32) * v1) + v3) 4800 ∧ (((1125899906842624 : Int64) ≤ (xm_gl M (b + 166) (Int32.toNatClampNeg (((100 : Int32) * v1) + v3))) → (xm_st b c p M → xm_X l E y11_stepsOf rm11_stepsOf Q 12 [(0, .ref (b + 154)), (1, .int v1), (2, .int v2), (3, .int (v3 + Int32.ofInt (1)))] [] 0 0 M)) ∧ (¬ (1125899906842624 : Int64) ≤ (xm_gl M (b + 166) (Int32.toNatClampNeg (((100 : Int32) * v1) + v3))) → (vp_in (((100 : Int32) * v1) + v3) 4800 ∧ xm_C l E y11_keep rm11_keep [.ref (b + 154), .int v1, .int v3, .int (v3 / (10 : Int32)), .int (v3 - v3 / (10 : Int32) * (10 : Int32)), .long (xm_gl M (b + 166) (Int32.toNatClampNeg (((100 : Int32) * v1) + v3)))] M (fun r M6 => r = none ∧ xm_st b c p M6 ∧ (xm_st b c p M6 → xm_X l E y11_stepsOf rm11_stepsOf Q 12 [(0, .ref (b + 154)), (1, .int v1), (2, .int v2), (3, .int (v3 + Int32.ofInt (1)))] [] 0 0 M6))))))))) :
  xm_X l E y11_stepsOf rm11_stepsOf Q 12 [(0, .ref (b + 154)), (1, .int v1), (2, .int v2), (3, .int v3)] [] 0 0 M := by
  refine x_iload_n d11_stepsOf_12 3 rfl rfl ?_
  refine x_bipush d11_stepsOf_13 qb_100 ?_
  refine x_icmp_ge d11_stepsOf_15 (t := 67) (by decide) (fun g => ?_) (fun g => ?_)
  · have h := h.1 g
    refine x_aload_n d11_stepsOf_67 0 rfl rfl ?_
    refine x_iload_n d11_stepsOf_68 1 rfl rfl ?_
    refine x_iload_n d11_stepsOf_69 2 rfl rfl ?_
    refine x_bipush d11_stepsOf_70 qb_100 ?_
    refine x_cVN (Z := y11_further) (S := rm11_further) (As := [.int v1, .int v2, .int (100 : Int32)]) (rest := []) d11_stepsOf_72 ml11_137 k11_further rfl (b := (b + 154)) (hS.1 _ _ (sh_154 b)) rfl rfl (Nat.le_of_ble_eq_true rfl) ⟨⟨by decide, by decide⟩, by decide, by decide⟩ ⟨rfl, rfl⟩ h (fun M1 h => ?_)
    obtain ⟨hS, h⟩ := h
    refine x_aload_n d11_stepsOf_75 0 rfl rfl ?_
    refine x_getR d11_stepsOf_76 fl11_7 (fun _ _ => rfl) (hS.1 _ _ (sh_154 b)) (hS.2.1 _ _ _ (pt_154_2 b)) ?_
    refine x_iload_n d11_stepsOf_79 1 rfl rfl ?_
    obtain ⟨g3, h⟩ := h
    refine x_iald d11_stepsOf_80 (hS.1 _ _ (sh_155 b)) g3 ?_
    refine x_iconst d11_stepsOf_81 qi_4 ?_
    refine x_icmp_eq d11_stepsOf_82 (t := 86) (by decide) (fun g => ?_) (fun g => ?_)
    · have h := h.1 g
      refine x_iconst d11_stepsOf_86 qi_0 ?_
      refine x_istore_n d11_stepsOf_87 rfl (by decide) (L' := [(3, .int (0 : Int32)), (0, .ref (b + 154)), (1, .int v1), (2, .int v2)]) rfl ?_
      exact xm_X.sub [1, 2, 0] rfl (h hS)
    · have h := h.2 g
      exact x_ret (r := none) d11_stepsOf_85 xm_rN rfl ⟨Nat.le_refl _, Nat.le_refl _⟩ (h hS)
  · have h := h.2 g
    refine x_aload_n d11_stepsOf_18 0 rfl rfl ?_
    refine x_getR d11_stepsOf_19 fl11_49 (fun _ _ => rfl) (hS.1 _ _ (sh_154 b)) (hS.2.1 _ _ _ (pt_154_20 b)) ?_
    refine x_bipush d11_stepsOf_22 qb_100 ?_
    refine x_iload_n d11_stepsOf_24 1 rfl rfl ?_
    refine x_imul d11_stepsOf_25 ?_
    refine x_iload_n d11_stepsOf_26 3 rfl rfl ?_
    refine x_iadd d11_stepsOf_27 ?_
    obtain ⟨g4, h⟩ := h
    refine x_lald d11_stepsOf_28 (hS.1 _ _ (sh_166 b)) g4 ?_
    refine x_ldc2 d11_stepsOf_29 lc11_123 ?_
    refine x_lc_ge d11_stepsOf_32 d11_stepsOf_33 rfl rfl (t := 61) (by decide) (fun g => ?_) (fun g => ?_)
    · have h := h.1 g
      refine x_iinc d11_stepsOf_61 3 rfl rfl (by decide) (L' := [(3, .int (v3 + Int32.ofInt (1))), (0, .ref (b + 154)), (1, .int v1), (2, .int v2)]) rfl ?_
      refine x_goto d11_stepsOf_64 (t := 12) (by decide) ?_
      exact xm_X.sub [1, 2, 3, 0] rfl (h hS)
    · have h := h.2 g
      refine x_aload_n d11_stepsOf_36 0 rfl rfl ?_
      refine x_iload_n d11_stepsOf_37 1 rfl rfl ?_
      refine x_iload_n d11_stepsOf_38 3 rfl rfl ?_
      refine x_iload_n d11_stepsOf_39 3 rfl rfl ?_
      refine x_bipush d11_stepsOf_40 qb_10 ?_
      refine x_idiv d11_stepsOf_42 (by decide) ?_
      refine x_iload_n d11_stepsOf_43 3 rfl rfl ?_
      refine x_bipush d11_stepsOf_44 qb_10 ?_
      refine x_irem d11_stepsOf_46 (by decide) ?_
      refine x_aload_n d11_stepsOf_47 0 rfl rfl ?_
      refine x_getR d11_stepsOf_48 fl11_49 (fun _ _ => rfl) (hS.1 _ _ (sh_154 b)) (hS.2.1 _ _ _ (pt_154_20 b)) ?_
      refine x_bipush d11_stepsOf_51 qb_100 ?_
      refine x_iload_n d11_stepsOf_53 1 rfl rfl ?_
      refine x_imul d11_stepsOf_54 ?_
      refine x_iload_n d11_stepsOf_55 3 rfl rfl ?_
      refine x_iadd d11_stepsOf_56 ?_
      obtain ⟨g5, h⟩ := h
      refine x_lald d11_stepsOf_57 (hS.1 _ _ (sh_166 b)) g5 ?_
      refine x_cVN (Z := y11_keep) (S := rm11_keep) (As := [.int v1, .int v3, .int (v3 / (10 : Int32)), .int (v3 - v3 / (10 : Int32) * (10 : Int32)), .long (xm_gl M (b + 166) (Int32.toNatClampNeg (((100 : Int32) * v1) + v3)))]) (rest := []) d11_stepsOf_58 ml11_133 k11_keep rfl (b := (b + 154)) (hS.1 _ _ (sh_154 b)) rfl rfl (Nat.le_of_ble_eq_true rfl) ⟨⟨by decide, by decide⟩, by decide, by decide⟩ ⟨rfl, rfl⟩ h (fun M6 h => ?_)
      obtain ⟨hS, h⟩ := h
      refine x_iinc d11_stepsOf_61 3 rfl rfl (by decide) (L' := [(3, .int (v3 + Int32.ofInt (1))), (0, .ref (b + 154)), (1, .int v1), (2, .int v2)]) rfl ?_
      refine x_goto d11_stepsOf_64 (t := 12) (by decide) ?_
      exact xm_X.sub [1, 2, 3, 0] rfl (h hS)
set_option maxRecDepth 20000 in
theorem t11_stepsOf_88 {l : Launch} {E : xm_E} {b : Nat} {c p : Bool} {Q : Option Value → xm_M → Prop} (M : xm_M) (v1 : Int32) (v3 : Int32) (hS : xm_st b c p M)
  (h : (((100 : Int32) ≤ v3 → (xm_st b c p M → Q none M)) ∧ (¬ (100 : Int32) ≤ v3 → (vp_in v1 48 ∧ xm_C l E y11_sumOf rm11_sumOf [.ref (b + 154), .int v1, .int v3, .int ((10 : Int32) + ((10 : Int32) * (xm_gi M (b + 157) (Int32.toNatClampNeg v1))))] M (fun r M2 => r = none ∧ xm_st b c p M2 ∧ (vp_in v1 48 ∧ xm_C l E y11_sumOf rm11_sumOf [.ref (b + 154), .int v1, .int v3, .int ((1 : Int32) + (xm_gi M2 (b + 157) (Int32.toNatClampNeg v1)))] M2 (fun r M5 => r = none ∧ xm_st b c p M5 ∧ (xm_st b c p M5 → xm_X l E y11_stepsOf rm11_stepsOf Q 88 [(0, .ref (b + 154)), (1, .int v1), (3, .int (v3 + Int32.ofInt (1)))] [] 0 0 M5)))))))) :
  xm_X l E y11_stepsOf rm11_stepsOf Q 88 [(0, .ref (b + 154)), (1, .int v1), (3, .int v3)] [] 0 0 M := by
  refine x_iload_n d11_stepsOf_88 2 rfl rfl ?_
  refine x_bipush d11_stepsOf_89 qb_100 ?_
  refine x_icmp_ge d11_stepsOf_91 (t := 132) (by decide) (fun g => ?_) (fun g => ?_)
  · have h := h.1 g
    exact x_ret (r := none) d11_stepsOf_132 xm_rN rfl ⟨Nat.le_refl _, Nat.le_refl _⟩ (h hS)
  · have h := h.2 g
    refine x_aload_n d11_stepsOf_94 0 rfl rfl ?_
    refine x_iload_n d11_stepsOf_95 1 rfl rfl ?_
    refine x_iload_n d11_stepsOf_96 2 rfl rfl ?_
    refine x_bipush d11_stepsOf_97 qb_10 ?_
    refine x_bipush d11_stepsOf_99 qb_10 ?_
    refine x_aload_n d11_stepsOf_101 0 rfl rfl ?_
    refine x_getR d11_stepsOf_102 fl11_16 (fun _ _ => rfl) (hS.1 _ _ (sh_154 b)) (hS.2.1 _ _ _ (pt_154_4 b)) ?_
    refine x_iload_n d11_stepsOf_105 1 rfl rfl ?_
    obtain ⟨g1, h⟩ := h
    refine x_iald d11_stepsOf_106 (hS.1 _ _ (sh_157 b)) g1 ?_
    refine x_imul d11_stepsOf_107 ?_
    refine x_iadd d11_stepsOf_108 ?_
    refine x_cVN (Z := y11_sumOf) (S := rm11_sumOf) (As := [.int v1, .int v3, .int ((10 : Int32) + ((10 : Int32) * (xm_gi M (b + 157) (Int32.toNatClampNeg v1))))]) (rest := []) d11_stepsOf_109 ml11_141 k11_sumOf rfl (b := (b + 154)) (hS.1 _ _ (sh_154 b)) rfl rfl (Nat.le_of_ble_eq_true rfl) ⟨⟨by decide, by decide⟩, by decide, by decide⟩ ⟨rfl, rfl⟩ h (fun M2 h => ?_)
    obtain ⟨hS, h⟩ := h
    refine x_aload_n d11_stepsOf_112 0 rfl rfl ?_
    refine x_iload_n d11_stepsOf_113 1 rfl rfl ?_
    refine x_iload_n d11_stepsOf_114 2 rfl rfl ?_
    refine x_iconst d11_stepsOf_115 qi_1 ?_
    refine x_aload_n d11_stepsOf_116 0 rfl rfl ?_
    refine x_getR d11_stepsOf_117 fl11_16 (fun _ _ => rfl) (hS.1 _ _ (sh_154 b)) (hS.2.1 _ _ _ (pt_154_4 b)) ?_
    refine x_iload_n d11_stepsOf_120 1 rfl rfl ?_
    obtain ⟨g4, h⟩ := h
    refine x_iald d11_stepsOf_121 (hS.1 _ _ (sh_157 b)) g4 ?_
    refine x_iadd d11_stepsOf_122 ?_
    refine x_cVN (Z := y11_sumOf) (S := rm11_sumOf) (As := [.int v1, .int v3, .int ((1 : Int32) + (xm_gi M2 (b + 157) (Int32.toNatClampNeg v1)))]) (rest := []) d11_stepsOf_123 ml11_141 k11_sumOf rfl (b := (b + 154)) (hS.1 _ _ (sh_154 b)) rfl rfl (Nat.le_of_ble_eq_true rfl) ⟨⟨by decide, by decide⟩, by decide, by decide⟩ ⟨rfl, rfl⟩ h (fun M5 h => ?_)
    obtain ⟨hS, h⟩ := h
    refine x_iinc d11_stepsOf_126 2 rfl rfl (by decide) (L' := [(3, .int (v3 + Int32.ofInt (1))), (0, .ref (b + 154)), (1, .int v1)]) rfl ?_
    refine x_goto d11_stepsOf_129 (t := 88) (by decide) ?_
    exact xm_X.sub [1, 2, 0] rfl (h hS)

set_option maxRecDepth 20000 in
theorem t11_keep_0 {l : Launch} {E : xm_E} {b : Nat} {c p : Bool} {Q : Option Value → xm_M → Prop} (M : xm_M) (v1 : Int32) (v2 : Int32) (v3 : Int32) (v4 : Int32) (w5 : Int64) (hS : xm_st b c p M)
  (h : (vp_in v1 48 ∧ xm_C l E y11_changes rm11_changes [.ref (b + 154), .int v1] M (fun r M2 => ∃ r3 : Bool, r = some (.int (xz r3)) ∧ xm_st b c p M2 ∧ (((xz r3) = 0 → xm_C l E y11_step rm11_step [.ref (b + 154), .int v2, .int v3, .int v4, .long w5] M2 (fun r M4 => r = none ∧ xm_st b c p M4 ∧ (xm_st b c p M4 → Q none M4))) ∧ (¬ (xz r3) = 0 → ((v3 = ((1 : Int32) + (xm_gi M (b + 156) (Int32.toNatClampNeg v1))) → (vp_in v1 48 ∧ ((¬ (xm_gi M2 (b + 155) (Int32.toNatClampNeg v1)) = (3 : Int32) → (vp_in v1 48 ∧ ((¬ (xm_gi M2 (b + 155) (Int32.toNatClampNeg v1)) = (5 : Int32) → (xm_st b c p M2 → Q none M2)) ∧ ((xm_gi M2 (b + 155) (Int32.toNatClampNeg v1)) = (5 : Int32) → (vp_in v1 48 ∧ (vp_in v1 48 ∧ (((xm_gi M2 (b + 156) (Int32.toNatClampNeg v1)) = (xm_gi M2 (b + 157) (Int32.toNatClampNeg v1)) → (xm_st b c p M2 → Q none M2)) ∧ (¬ (xm_gi M2 (b + 156) (Int32.toNatClampNeg v1)) = (xm_gi M2 (b + 157) (Int32.toNatClampNeg v1)) → ((¬ v3 = ((1 : Int32) + (xm_gi M (b + 156) (Int32.toNatClampNeg v1))) → (vp_in v1 48 ∧ ((¬ v3 = ((1 : Int32) + (xm_gi M2 (b + 157) (Int32.toNatClampNeg v1))) → (xm_st b c p M2 → Q none M2)) ∧ (v3 = ((1 : Int32) + (xm_gi M2 (b + 157) (Int32.toNatClampNeg v1))) → ((¬ v3 = ((1 : Int32) + (xm_gi M (b + 156) (Int32.toNatClampNeg v1))) → ((¬ v3 = ((1 : Int32) + (xm_gi M (b + 156) (Int32.toNatClampNeg v1))) → xm_C l E y11_step rm11_step [.ref (b + 154), .int v2, .int (0 : Int32), .int ((1 : Int32) + (xm_gi M (b + 156) (Int32.toNatClampNeg v1))), .long w5] M2 (fun r M11 => r = none ∧ xm_st b c p M11 ∧ (xm_st b c p M11 → Q none M11))) ∧ (v3 = ((1 : Int32) + (xm_gi M (b + 156) (Int32.toNatClampNeg v1))) → xm_C l E y11_step rm11_step [.ref (b + 154), .int v2, .int (0 : Int32), .int (0 : Int32), .long w5] M2 (fun r M13 => r = none ∧ xm_st b c p M13 ∧ (xm_st b c p M13 → Q none M13))))) ∧ (v3 = ((1 : Int32) + (xm_gi M (b + 156) (Int32.toNatClampNeg v1))) → ((¬ v3 = ((1 : Int32) + (xm_gi M (b + 156) (Int32.toNatClampNeg v1))) → xm_C l E y11_step rm11_step [.ref (b + 154), .int v2, .int ((1 : Int32) + (xm_gi M (b + 156) (Int32.toNatClampNeg v1))), .int ((1 : Int32) + (xm_gi M (b + 156) (Int32.toNatClampNeg v1))), .long w5] M2 (fun r M15 => r = none ∧ xm_st b c p M15 ∧ (xm_st b c p M15 → Q none M15))) ∧ (v3 = ((1 : Int32) + (xm_gi M (b + 156) (Int32.toNatClampNeg v1))) → xm_C l E y11_step rm11_step [.ref (b + 154), .int v2, .int ((1 : Int32) + (xm_gi M (b + 156) (Int32.toNatClampNeg v1))), .int (0 : Int32), .long w5] M2 (fun r M17 => r = none ∧ xm_st b c p M17 ∧ (xm_st b c p M17 → Q none M17)))))))))) ∧ (v3 = ((1 : Int32) + (xm_gi M (b + 156) (Int32.toNatClampNeg v1))) → (vp_in v1 48 ∧ ((¬ v4 = ((1 : Int32) + (xm_gi M2 (b + 157) (Int32.toNatClampNeg v1))) → (xm_st b c p M2 → Q none M2)) ∧ (v4 = ((1 : Int32) + (xm_gi M2 (b + 157) (Int32.toNatClampNeg v1))) → ((¬ v3 = ((1 : Int32) + (xm_gi M (b + 156) (Int32.toNatClampNeg v1))) → ((¬ v3 = ((1 : Int32) + (xm_gi M (b + 156) (Int32.toNatClampNeg v1))) → xm_C l E y11_step rm11_step [.ref (b + 154), .int v2, .int (0 : Int32), .int ((1 : Int32) + (xm_gi M (b + 156) (Int32.toNatClampNeg v1))), .long w5] M2 (fun r M20 => r = none ∧ xm_st b c p M20 ∧ (xm_st b c p M20 → Q none M20))) ∧ (v3 = ((1 : Int32) + (xm_gi M (b + 156) (Int32.toNatClampNeg v1))) → xm_C l E y11_step rm11_step [.ref (b + 154), .int v2, .int (0 : Int32), .int (0 : Int32), .long w5] M2 (fun r M22 => r = none ∧ xm_st b c p M22 ∧ (xm_st b c p M22 → Q none M22))))) ∧ (v3 = ((1 : Int32) + (xm_gi M (b + 156) (Int32.toNatClampNeg v1))) → ((¬ v3 = ((1 : Int32) + (xm_gi M (b + 156) (Int32.toNatClampNeg v1))) → xm_C l E y11_step rm11_step [.ref (b + 154), .int v2, .int ((1 : Int32) + (xm_gi M (b + 156) (Int32.toNatClampNeg v1))), .int ((1 : Int32) + (xm_gi M (b + 156) (Int32.toNatClampNeg v1))), .long w5] M2 (fun r M24 => r = none ∧ xm_st b c p M24 ∧ (xm_st b c p M24 → Q none M24))) ∧ (v3 = ((1 : Int32) + (xm_gi M (b + 156) (Int32.toNatClampNeg v1))) → xm_C l E y11_step rm11_step [.ref (b + 154), .int v2, .int ((1 : Int32) + (xm_gi M (b + 156) (Int32.toNatClampNeg v1))), .int (0 : Int32), .long w5] M2 (fun r M26 => r = none ∧ xm_st b c p M26 ∧ (xm_st b c p M26 → Q none M26))))))))))))))))))) ∧ ((xm_gi M2 (b + 155) (Int32.toNatClampNeg v1)) = (3 : Int32) → ((¬ v3 = ((1 : Int32) + (xm_gi M (b + 156) (Int32.toNatClampNeg v1))) → (vp_in v1 48 ∧ xm_C l E y11_step rm11_step [.ref (b + 154), .int v2, .int v3, .int v4, .long (w5 - (Int32.toInt64 (xm_gi M2 (b + 158) (Int32.toNatClampNeg v1))))] M2 (fun r M29 => r = none ∧ xm_st b c p M29 ∧ (xm_st b c p M29 → Q none M29)))) ∧ (v3 = ((1 : Int32) + (xm_gi M (b + 156) (Int32.toNatClampNeg v1))) → (vp_in v1 48 ∧ xm_C l E y11_step rm11_step [.ref (b + 154), .int v2, .int v3, .int v4, .long (w5 + (Int32.toInt64 (xm_gi M2 (b + 158) (Int32.toNatClampNeg v1))))] M2 (fun r M32 => r = none ∧ xm_st b c p M32 ∧ (xm_st b c p M32 → Q none M32))))))))) ∧ (¬ v3 = ((1 : Int32) + (xm_gi M (b + 156) (Int32.toNatClampNeg v1))) → ((v4 = ((1 : Int32) + (xm_gi M (b + 156) (Int32.toNatClampNeg v1))) → (vp_in v1 48 ∧ ((¬ (xm_gi M2 (b + 155) (Int32.toNatClampNeg v1)) = (3 : Int32) → (vp_in v1 48 ∧ ((¬ (xm_gi M2 (b + 155) (Int32.toNatClampNeg v1)) = (5 : Int32) → (xm_st b c p M2 → Q none M2)) ∧ ((xm_gi M2 (b + 155) (Int32.toNatClampNeg v1)) = (5 : Int32) → (vp_in v1 48 ∧ (vp_in v1 48 ∧ (((xm_gi M2 (b + 156) (Int32.toNatClampNeg v1)) = (xm_gi M2 (b + 157) (Int32.toNatClampNeg v1)) → (xm_st b c p M2 → Q none M2)) ∧ (¬ (xm_gi M2 (b + 156) (Int32.toNatClampNeg v1)) = (xm_gi M2 (b + 157) (Int32.toNatClampNeg v1)) → ((¬ v3 = ((1 : Int32) + (xm_gi M (b + 156) (Int32.toNatClampNeg v1))) → (vp_in v1 48 ∧ ((¬ v3 = ((1 : Int32) + (xm_gi M2 (b + 157) (Int32.toNatClampNeg v1))) → (xm_st b c p M2 → Q none M2)) ∧ (v3 = ((1 : Int32) + (xm_gi M2 (b + 157) (Int32.toNatClampNeg v1))) → ((¬ v3 = ((1 : Int32) + (xm_gi M (b + 156) (Int32.toNatClampNeg v1))) → ((¬ v3 = ((1 : Int32) + (xm_gi M (b + 156) (Int32.toNatClampNeg v1))) → xm_C l E y11_step rm11_step [.ref (b + 154), .int v2, .int (0 : Int32), .int ((1 : Int32) + (xm_gi M (b + 156) (Int32.toNatClampNeg v1))), .long w5] M2 (fun r M39 => r = none ∧ xm_st b c p M39 ∧ (xm_st b c p M39 → Q none M39))) ∧ (v3 = ((1 : Int32) + (xm_gi M (b + 156) (Int32.toNatClampNeg v1))) → xm_C l E y11_step rm11_step [.ref (b + 154), .int v2, .int (0 : Int32), .int (0 : Int32), .long w5] M2 (fun r M41 => r = none ∧ xm_st b c p M41 ∧ (xm_st b c p M41 → Q none M41))))) ∧ (v3 = ((1 : Int32) + (xm_gi M (b + 156) (Int32.toNatClampNeg v1))) → ((¬ v3 = ((1 : Int32) + (xm_gi M (b + 156) (Int32.toNatClampNeg v1))) → xm_C l E y11_step rm11_step [.ref (b + 154), .int v2, .int ((1 : Int32) + (xm_gi M (b + 156) (Int32.toNatClampNeg v1))), .int ((1 : Int32) + (xm_gi M (b + 156) (Int32.toNatClampNeg v1))), .long w5] M2 (fun r M43 => r = none ∧ xm_st b c p M43 ∧ (xm_st b c p M43 → Q none M43))) ∧ (v3 = ((1 : Int32) + (xm_gi M (b + 156) (Int32.toNatClampNeg v1))) → xm_C l E y11_step rm11_step [.ref (b + 154), .int v2, .int ((1 : Int32) + (xm_gi M (b + 156) (Int32.toNatClampNeg v1))), .int (0 : Int32), .long w5] M2 (fun r M45 => r = none ∧ xm_st b c p M45 ∧ (xm_st b c p M45 → Q none M45)))))))))) ∧ (v3 = ((1 : Int32) + (xm_gi M (b + 156) (Int32.toNatClampNeg v1))) → (vp_in v1 48 ∧ ((¬ v4 = ((1 : Int32) + (xm_gi M2 (b + 157) (Int32.toNatClampNeg v1))) → (xm_st b c p M2 → Q none M2)) ∧ (v4 = ((1 : Int32) + (xm_gi M2 (b + 157) (Int32.toNatClampNeg v1))) → ((¬ v3 = ((1 : Int32) + (xm_gi M (b + 156) (Int32.toNatClampNeg v1))) → ((¬ v3 = ((1 : Int32) + (xm_gi M (b + 156) (Int32.toNatClampNeg v1))) → xm_C l E y11_step rm11_step [.ref (b + 154), .int v2, .int (0 : Int32), .int ((1 : Int32) + (xm_gi M (b + 156) (Int32.toNatClampNeg v1))), .long w5] M2 (fun r M48 => r = none ∧ xm_st b c p M48 ∧ (xm_st b c p M48 → Q none M48))) ∧ (v3 = ((1 : Int32) + (xm_gi M (b + 156) (Int32.toNatClampNeg v1))) → xm_C l E y11_step rm11_step [.ref (b + 154), .int v2, .int (0 : Int32), .int (0 : Int32), .long w5] M2 (fun r M50 => r = none ∧ xm_st b c p M50 ∧ (xm_st b c p M50 → Q none M50))))) ∧ (v3 = ((1 : Int32) + (xm_gi M (b + 156) (Int32.toNatClampNeg v1))) → ((¬ v3 = ((1 : Int32) + (xm_gi M (b + 156) (Int32.toNatClampNeg v1))) → xm_C l E y11_step rm11_step [.ref (b + 154), .int v2, .int ((1 : Int32) + (xm_gi M (b + 156) (Int32.toNatClampNeg v1))), .int ((1 : Int32) + (xm_gi M (b + 156) (Int32.toNatClampNeg v1))), .long w5] M2 (fun r M52 => r = none ∧ xm_st b c p M52 ∧ (xm_st b c p M52 → Q none M52))) ∧ (v3 = ((1 : Int32) + (xm_gi M (b + 156) (Int32.toNatClampNeg v1))) → xm_C l E y11_step rm11_step [.ref (b + 154), .int v2, .int ((1 : Int32) + (xm_gi M (b + 156) (Int32.toNatClampNeg v1))), .int (0 : Int32), .long w5] M2 (fun r M54 => r = none ∧ xm_st b c p M54 ∧ (xm_st b c p M54 → Q none M54))))))))))))))))))) ∧ ((xm_gi M2 (b + 155) (Int32.toNatClampNeg v1)) = (3 : Int32) → ((¬ v3 = ((1 : Int32) + (xm_gi M (b + 156) (Int32.toNatClampNeg v1))) → (vp_in v1 48 ∧ xm_C l E y11_step rm11_step [.ref (b + 154), .int v2, .int v3, .int v4, .long (w5 - (Int32.toInt64 (xm_gi M2 (b + 158) (Int32.toNatClampNeg v1))))] M2 (fun r M57 => r = none ∧ xm_st b c p M57 ∧ (xm_st b c p M57 → Q none M57)))) ∧ (v3 = ((1 : Int32) + (xm_gi M (b + 156) (Int32.toNatClampNeg v1))) → (vp_in v1 48 ∧ xm_C l E y11_step rm11_step [.ref (b + 154), .int v2, .int v3, .int v4, .long (w5 + (Int32.toInt64 (xm_gi M2 (b + 158) (Int32.toNatClampNeg v1))))] M2 (fun r M60 => r = none ∧ xm_st b c p M60 ∧ (xm_st b c p M60 → Q none M60))))))))) ∧ (¬ v4 = ((1 : Int32) + (xm_gi M (b + 156) (Int32.toNatClampNeg v1))) → xm_C l E y11_step rm11_step [.ref (b + 154), .int v2, .int v3, .int v4, .long w5] M2 (fun r M62 => r = none ∧ xm_st b c p M62 ∧ (xm_st b c p M62 → Q none M62))))))))))) :
  xm_X l E y11_keep rm11_keep Q 0 [(0, .ref (b + 154)), (1, .int v1), (2, .int v2), (3, .int v3), (4, .int v4), (5, .long w5)] [] 0 0 M := by
  refine x_iconst d11_keep_0 qi_1 ?_
  refine x_aload_n d11_keep_1 0 rfl rfl ?_
  refine x_getR d11_keep_2 fl11_13 (fun _ _ => rfl) (hS.1 _ _ (sh_154 b)) (hS.2.1 _ _ _ (pt_154_3 b)) ?_
  refine x_iload_n d11_keep_5 1 rfl rfl ?_
  obtain ⟨g1, h⟩ := h
  refine x_iald d11_keep_6 (hS.1 _ _ (sh_156 b)) g1 ?_
  refine x_iadd d11_keep_7 ?_
  refine x_istore d11_keep_8 (by decide) (L' := [(7, .int ((1 : Int32) + (xm_gi M (b + 156) (Int32.toNatClampNeg v1)))), (0, .ref (b + 154)), (1, .int v1), (2, .int v2), (3, .int v3), (4, .int v4), (5, .long w5)]) rfl ?_
  refine x_aload_n d11_keep_10 1 rfl rfl ?_
  refine x_iload_n d11_keep_11 2 rfl rfl ?_
  refine x_cVZ (Z := y11_changes) (S := rm11_changes) (As := [.int v1]) (rest := []) d11_keep_12 ml11_103 k11_changes rfl (b := (b + 154)) (hS.1 _ _ (sh_154 b)) rfl rfl (Nat.le_of_ble_eq_true rfl) ⟨⟨by decide, by decide⟩, by decide, by decide⟩ ⟨rfl, rfl⟩ h (fun r3 M2 h => ?_)
  obtain ⟨hS, h⟩ := h
  refine x_if_eq d11_keep_15 (t := 31) (by decide) (fun g => ?_) (fun g => ?_)
  · have h := h.1 g
    refine x_aload_n d11_keep_31 1 rfl rfl ?_
    refine x_iload_n d11_keep_32 3 rfl rfl ?_
    refine x_iload_n d11_keep_33 4 rfl rfl ?_
    refine x_iload d11_keep_34 5 rfl ?_
    refine x_lload d11_keep_36 6 rfl ?_
    refine x_cVN (Z := y11_step) (S := rm11_step) (As := [.int v2, .int v3, .int v4, .long w5]) (rest := []) d11_keep_38 ml11_107 k11_step rfl (b := (b + 154)) (hS.1 _ _ (sh_154 b)) rfl rfl (Nat.le_of_ble_eq_true rfl) ⟨⟨by decide, by decide⟩, by decide, by decide⟩ ⟨rfl, rfl⟩ h (fun M4 h => ?_)
    obtain ⟨hS, h⟩ := h
    refine x_goto d11_keep_41 (t := 173) (by decide) ?_
    exact x_ret (r := none) d11_keep_173 xm_rN rfl ⟨Nat.le_refl _, Nat.le_refl _⟩ (h hS)
  · have h := h.2 g
    refine x_iload_n d11_keep_18 4 rfl rfl ?_
    refine x_iload d11_keep_19 0 rfl ?_
    refine x_icmp_eq d11_keep_21 (t := 44) (by decide) (fun g => ?_) (fun g => ?_)
    · have h := h.1 g
      refine x_aload_n d11_keep_44 1 rfl rfl ?_
      refine x_getR d11_keep_45 fl11_7 (fun _ _ => rfl) (hS.1 _ _ (sh_154 b)) (hS.2.1 _ _ _ (pt_154_2 b)) ?_
      refine x_iload_n d11_keep_48 2 rfl rfl ?_
      obtain ⟨g6, h⟩ := h
      refine x_iald d11_keep_49 (hS.1 _ _ (sh_155 b)) g6 ?_
      refine x_iconst d11_keep_50 qi_3 ?_
      refine x_icmp_ne d11_keep_51 (t := 94) (by decide) (fun g => ?_) (fun g => ?_)
      · have h := h.1 g
        refine x_aload_n d11_keep_94 1 rfl rfl ?_
        refine x_getR d11_keep_95 fl11_7 (fun _ _ => rfl) (hS.1 _ _ (sh_154 b)) (hS.2.1 _ _ _ (pt_154_2 b)) ?_
        refine x_iload_n d11_keep_98 2 rfl rfl ?_
        obtain ⟨g7, h⟩ := h
        refine x_iald d11_keep_99 (hS.1 _ _ (sh_155 b)) g7 ?_
        refine x_iconst d11_keep_100 qi_5 ?_
        refine x_icmp_ne d11_keep_101 (t := 173) (by decide) (fun g => ?_) (fun g => ?_)
        · have h := h.1 g
          exact x_ret (r := none) d11_keep_173 xm_rN rfl ⟨Nat.le_refl _, Nat.le_refl _⟩ (h hS)
        · have h := h.2 g
          refine x_aload_n d11_keep_104 1 rfl rfl ?_
          refine x_getR d11_keep_105 fl11_13 (fun _ _ => rfl) (hS.1 _ _ (sh_154 b)) (hS.2.1 _ _ _ (pt_154_3 b)) ?_
          refine x_iload_n d11_keep_108 2 rfl rfl ?_
          obtain ⟨g8, h⟩ := h
          refine x_iald d11_keep_109 (hS.1 _ _ (sh_156 b)) g8 ?_
          refine x_aload_n d11_keep_110 1 rfl rfl ?_
          refine x_getR d11_keep_111 fl11_16 (fun _ _ => rfl) (hS.1 _ _ (sh_154 b)) (hS.2.1 _ _ _ (pt_154_4 b)) ?_
          refine x_iload_n d11_keep_114 2 rfl rfl ?_
          obtain ⟨g9, h⟩ := h
          refine x_iald d11_keep_115 (hS.1 _ _ (sh_157 b)) g9 ?_
          refine x_icmp_eq d11_keep_116 (t := 173) (by decide) (fun g => ?_) (fun g => ?_)
          · have h := h.1 g
            exact x_ret (r := none) d11_keep_173 xm_rN rfl ⟨Nat.le_refl _, Nat.le_refl _⟩ (h hS)
          · have h := h.2 g
            refine x_iload_n d11_keep_119 4 rfl rfl ?_
            refine x_iload d11_keep_120 0 rfl ?_
            refine x_icmp_ne d11_keep_122 (t := 130) (by decide) (fun g => ?_) (fun g => ?_)
            · have h := h.1 g
              refine x_iload_n d11_keep_130 4 rfl rfl ?_
              refine x_iconst d11_keep_131 qi_1 ?_
              refine x_aload_n d11_keep_132 1 rfl rfl ?_
              refine x_getR d11_keep_133 fl11_16 (fun _ _ => rfl) (hS.1 _ _ (sh_154 b)) (hS.2.1 _ _ _ (pt_154_4 b)) ?_
              refine x_iload_n d11_keep_136 2 rfl rfl ?_
              obtain ⟨g10, h⟩ := h
              refine x_iald d11_keep_137 (hS.1 _ _ (sh_157 b)) g10 ?_
              refine x_iadd d11_keep_138 ?_
              refine x_icmp_ne d11_keep_139 (t := 173) (by decide) (fun g => ?_) (fun g => ?_)
              · have h := h.1 g
                exact x_ret (r := none) d11_keep_173 xm_rN rfl ⟨Nat.le_refl _, Nat.le_refl _⟩ (h hS)
              · have h := h.2 g
                refine x_aload_n d11_keep_142 1 rfl rfl ?_
                refine x_iload_n d11_keep_143 3 rfl rfl ?_
                refine x_iload_n d11_keep_144 4 rfl rfl ?_
                refine x_iload d11_keep_145 0 rfl ?_
                refine x_icmp_ne d11_keep_147 (t := 155) (by decide) (fun g => ?_) (fun g => ?_)
                · have h := h.1 g
                  refine x_iconst d11_keep_155 qi_0 ?_
                  refine x_iload_n d11_keep_156 4 rfl rfl ?_
                  refine x_iload d11_keep_157 0 rfl ?_
                  refine x_icmp_ne d11_keep_159 (t := 166) (by decide) (fun g => ?_) (fun g => ?_)
                  · have h := h.1 g
                    refine x_iload d11_keep_166 0 rfl ?_
                    refine x_lload d11_keep_168 6 rfl ?_
                    refine x_cVN (Z := y11_step) (S := rm11_step) (As := [.int v2, .int (0 : Int32), .int ((1 : Int32) + (xm_gi M (b + 156) (Int32.toNatClampNeg v1))), .long w5]) (rest := []) d11_keep_170 ml11_107 k11_step rfl (b := (b + 154)) (hS.1 _ _ (sh_154 b)) rfl rfl (Nat.le_of_ble_eq_true rfl) ⟨⟨by decide, by decide⟩, by decide, by decide⟩ ⟨rfl, rfl⟩ h (fun M11 h => ?_)
                    obtain ⟨hS, h⟩ := h
                    exact x_ret (r := none) d11_keep_173 xm_rN rfl ⟨Nat.le_refl _, Nat.le_refl _⟩ (h hS)
                  · have h := h.2 g
                    refine x_iconst d11_keep_162 qi_0 ?_
                    refine x_goto d11_keep_163 (t := 168) (by decide) ?_
                    refine x_lload d11_keep_168 6 rfl ?_
                    refine x_cVN (Z := y11_step) (S := rm11_step) (As := [.int v2, .int (0 : Int32), .int (0 : Int32), .long w5]) (rest := []) d11_keep_170 ml11_107 k11_step rfl (b := (b + 154)) (hS.1 _ _ (sh_154 b)) rfl rfl (Nat.le_of_ble_eq_true rfl) ⟨⟨by decide, by decide⟩, by decide, by decide⟩ ⟨rfl, rfl⟩ h (fun M13 h => ?_)
                    obtain ⟨hS, h⟩ := h
                    exact x_ret (r := none) d11_keep_173 xm_rN rfl ⟨Nat.le_refl _, Nat.le_refl _⟩ (h hS)
                · have h := h.2 g
                  refine x_iload d11_keep_150 0 rfl ?_
                  refine x_goto d11_keep_152 (t := 156) (by decide) ?_
                  refine x_iload_n d11_keep_156 4 rfl rfl ?_
                  refine x_iload d11_keep_157 0 rfl ?_
                  refine x_icmp_ne d11_keep_159 (t := 166) (by decide) (fun g => ?_) (fun g => ?_)
                  · have h := h.1 g
                    refine x_iload d11_keep_166 0 rfl ?_
                    refine x_lload d11_keep_168 6 rfl ?_
                    refine x_cVN (Z := y11_step) (S := rm11_step) (As := [.int v2, .int ((1 : Int32) + (xm_gi M (b + 156) (Int32.toNatClampNeg v1))), .int ((1 : Int32) + (xm_gi M (b + 156) (Int32.toNatClampNeg v1))), .long w5]) (rest := []) d11_keep_170 ml11_107 k11_step rfl (b := (b + 154)) (hS.1 _ _ (sh_154 b)) rfl rfl (Nat.le_of_ble_eq_true rfl) ⟨⟨by decide, by decide⟩, by decide, by decide⟩ ⟨rfl, rfl⟩ h (fun M15 h => ?_)
                    obtain ⟨hS, h⟩ := h
                    exact x_ret (r := none) d11_keep_173 xm_rN rfl ⟨Nat.le_refl _, Nat.le_refl _⟩ (h hS)
                  · have h := h.2 g
                    refine x_iconst d11_keep_162 qi_0 ?_
                    refine x_goto d11_keep_163 (t := 168) (by decide) ?_
                    refine x_lload d11_keep_168 6 rfl ?_
                    refine x_cVN (Z := y11_step) (S := rm11_step) (As := [.int v2, .int ((1 : Int32) + (xm_gi M (b + 156) (Int32.toNatClampNeg v1))), .int (0 : Int32), .long w5]) (rest := []) d11_keep_170 ml11_107 k11_step rfl (b := (b + 154)) (hS.1 _ _ (sh_154 b)) rfl rfl (Nat.le_of_ble_eq_true rfl) ⟨⟨by decide, by decide⟩, by decide, by decide⟩ ⟨rfl, rfl⟩ h (fun M17 h => ?_)
                    obtain ⟨hS, h⟩ := h
                    exact x_ret (r := none) d11_keep_173 xm_rN rfl ⟨Nat.le_refl _, Nat.le_refl _⟩ (h hS)
            · have h := h.2 g
              refine x_iload d11_keep_125 5 rfl ?_
              refine x_goto d11_keep_127 (t := 131) (by decide) ?_
              refine x_iconst d11_keep_131 qi_1 ?_
              refine x_aload_n d11_keep_132 1 rfl rfl ?_
              refine x_getR d11_keep_133 fl11_16 (fun _ _ => rfl) (hS.1 _ _ (sh_154 b)) (hS.2.1 _ _ _ (pt_154_4 b)) ?_
              refine x_iload_n d11_keep_136 2 rfl rfl ?_
              obtain ⟨g19, h⟩ := h
              refine x_iald d11_keep_137 (hS.1 _ _ (sh_157 b)) g19 ?_
              refine x_iadd d11_keep_138 ?_
              refine x_icmp_ne d11_keep_139 (t := 173) (by decide) (fun g => ?_) (fun g => ?_)
              · have h := h.1 g
                exact x_ret (r := none) d11_keep_173 xm_rN rfl ⟨Nat.le_refl _, Nat.le_refl _⟩ (h hS)
              · have h := h.2 g
                refine x_aload_n d11_keep_142 1 rfl rfl ?_
                refine x_iload_n d11_keep_143 3 rfl rfl ?_
                refine x_iload_n d11_keep_144 4 rfl rfl ?_
                refine x_iload d11_keep_145 0 rfl ?_
                refine x_icmp_ne d11_keep_147 (t := 155) (by decide) (fun g => ?_) (fun g => ?_)
                · have h := h.1 g
                  refine x_iconst d11_keep_155 qi_0 ?_
                  refine x_iload_n d11_keep_156 4 rfl rfl ?_
                  refine x_iload d11_keep_157 0 rfl ?_
                  refine x_icmp_ne d11_keep_159 (t := 166) (by decide) (fun g => ?_) (fun g => ?_)
                  · have h := h.1 g
                    refine x_iload d11_keep_166 0 rfl ?_
                    refine x_lload d11_keep_168 6 rfl ?_
                    refine x_cVN (Z := y11_step) (S := rm11_step) (As := [.int v2, .int (0 : Int32), .int ((1 : Int32) + (xm_gi M (b + 156) (Int32.toNatClampNeg v1))), .long w5]) (rest := []) d11_keep_170 ml11_107 k11_step rfl (b := (b + 154)) (hS.1 _ _ (sh_154 b)) rfl rfl (Nat.le_of_ble_eq_true rfl) ⟨⟨by decide, by decide⟩, by decide, by decide⟩ ⟨rfl, rfl⟩ h (fun M20 h => ?_)
                    obtain ⟨hS, h⟩ := h
                    exact x_ret (r := none) d11_keep_173 xm_rN rfl ⟨Nat.le_refl _, Nat.le_refl _⟩ (h hS)
                  · have h := h.2 g
                    refine x_iconst d11_keep_162 qi_0 ?_
                    refine x_goto d11_keep_163 (t := 168) (by decide) ?_
                    refine x_lload d11_keep_168 6 rfl ?_
                    refine x_cVN (Z := y11_step) (S := rm11_step) (As := [.int v2, .int (0 : Int32), .int (0 : Int32), .long w5]) (rest := []) d11_keep_170 ml11_107 k11_step rfl (b := (b + 154)) (hS.1 _ _ (sh_154 b)) rfl rfl (Nat.le_of_ble_eq_true rfl) ⟨⟨by decide, by decide⟩, by decide, by decide⟩ ⟨rfl, rfl⟩ h (fun M22 h => ?_)
                    obtain ⟨hS, h⟩ := h
                    exact x_ret (r := none) d11_keep_173 xm_rN rfl ⟨Nat.le_refl _, Nat.le_refl _⟩ (h hS)
                · have h := h.2 g
                  refine x_iload d11_keep_150 0 rfl ?_
                  refine x_goto d11_keep_152 (t := 156) (by decide) ?_
                  refine x_iload_n d11_keep_156 4 rfl rfl ?_
                  refine x_iload d11_keep_157 0 rfl ?_
                  refine x_icmp_ne d11_keep_159 (t := 166) (by decide) (fun g => ?_) (fun g => ?_)
                  · have h := h.1 g
                    refine x_iload d11_keep_166 0 rfl ?_
                    refine x_lload d11_keep_168 6 rfl ?_
                    refine x_cVN (Z := y11_step) (S := rm11_step) (As := [.int v2, .int ((1 : Int32) + (xm_gi M (b + 156) (Int32.toNatClampNeg v1))), .int ((1 : Int32) + (xm_gi M (b + 156) (Int32.toNatClampNeg v1))), .long w5]) (rest := []) d11_keep_170 ml11_107 k11_step rfl (b := (b + 154)) (hS.1 _ _ (sh_154 b)) rfl rfl (Nat.le_of_ble_eq_true rfl) ⟨⟨by decide, by decide⟩, by decide, by decide⟩ ⟨rfl, rfl⟩ h (fun M24 h => ?_)
                    obtain ⟨hS, h⟩ := h
                    exact x_ret (r := none) d11_keep_173 xm_rN rfl ⟨Nat.le_refl _, Nat.le_refl _⟩ (h hS)
                  · have h := h.2 g
                    refine x_iconst d11_keep_162 qi_0 ?_
                    refine x_goto d11_keep_163 (t := 168) (by decide) ?_
                    refine x_lload d11_keep_168 6 rfl ?_
                    refine x_cVN (Z := y11_step) (S := rm11_step) (As := [.int v2, .int ((1 : Int32) + (xm_gi M (b + 156) (Int32.toNatClampNeg v1))), .int (0 : Int32), .long w5]) (rest := []) d11_keep_170 ml11_107 k11_step rfl (b := (b + 154)) (hS.1 _ _ (sh_154 b)) rfl rfl (Nat.le_of_ble_eq_true rfl) ⟨⟨by decide, by decide⟩, by decide, by decide⟩ ⟨rfl, rfl⟩ h (fun M26 h => ?_)
                    obtain ⟨hS, h⟩ := h
                    exact x_ret (r := none) d11_keep_173 xm_rN rfl ⟨Nat.le_refl _, Nat.le_refl _⟩ (h hS)
      · have h := h.2 g
        refine x_aload_n d11_keep_54 1 rfl rfl ?_
        refine x_iload_n d11_keep_55 3 rfl rfl ?_
        refine x_iload_n d11_keep_56 4 rfl rfl ?_
        refine x_iload d11_keep_57 5 rfl ?_
        refine x_iload_n d11_keep_59 4 rfl rfl ?_
        refine x_iload d11_keep_60 0 rfl ?_
        refine x_icmp_ne d11_keep_62 (t := 78) (by decide) (fun g => ?_) (fun g => ?_)
        · have h := h.1 g
          refine x_lload d11_keep_78 6 rfl ?_
          refine x_aload_n d11_keep_80 1 rfl rfl ?_
          refine x_getR d11_keep_81 fl11_19 (fun _ _ => rfl) (hS.1 _ _ (sh_154 b)) (hS.2.1 _ _ _ (pt_154_5 b)) ?_
          refine x_iload_n d11_keep_84 2 rfl rfl ?_
          obtain ⟨g28, h⟩ := h
          refine x_iald d11_keep_85 (hS.1 _ _ (sh_158 b)) g28 ?_
          refine x_i2l d11_keep_86 ?_
          refine x_lsub d11_keep_87 ?_
          refine x_cVN (Z := y11_step) (S := rm11_step) (As := [.int v2, .int v3, .int v4, .long (w5 - (Int32.toInt64 (xm_gi M2 (b + 158) (Int32.toNatClampNeg v1))))]) (rest := []) d11_keep_88 ml11_107 k11_step rfl (b := (b + 154)) (hS.1 _ _ (sh_154 b)) rfl rfl (Nat.le_of_ble_eq_true rfl) ⟨⟨by decide, by decide⟩, by decide, by decide⟩ ⟨rfl, rfl⟩ h (fun M29 h => ?_)
          obtain ⟨hS, h⟩ := h
          refine x_goto d11_keep_91 (t := 173) (by decide) ?_
          exact x_ret (r := none) d11_keep_173 xm_rN rfl ⟨Nat.le_refl _, Nat.le_refl _⟩ (h hS)
        · have h := h.2 g
          refine x_lload d11_keep_65 6 rfl ?_
          refine x_aload_n d11_keep_67 1 rfl rfl ?_
          refine x_getR d11_keep_68 fl11_19 (fun _ _ => rfl) (hS.1 _ _ (sh_154 b)) (hS.2.1 _ _ _ (pt_154_5 b)) ?_
          refine x_iload_n d11_keep_71 2 rfl rfl ?_
          obtain ⟨g31, h⟩ := h
          refine x_iald d11_keep_72 (hS.1 _ _ (sh_158 b)) g31 ?_
          refine x_i2l d11_keep_73 ?_
          refine x_ladd d11_keep_74 ?_
          refine x_goto d11_keep_75 (t := 88) (by decide) ?_
          refine x_cVN (Z := y11_step) (S := rm11_step) (As := [.int v2, .int v3, .int v4, .long (w5 + (Int32.toInt64 (xm_gi M2 (b + 158) (Int32.toNatClampNeg v1))))]) (rest := []) d11_keep_88 ml11_107 k11_step rfl (b := (b + 154)) (hS.1 _ _ (sh_154 b)) rfl rfl (Nat.le_of_ble_eq_true rfl) ⟨⟨by decide, by decide⟩, by decide, by decide⟩ ⟨rfl, rfl⟩ h (fun M32 h => ?_)
          obtain ⟨hS, h⟩ := h
          refine x_goto d11_keep_91 (t := 173) (by decide) ?_
          exact x_ret (r := none) d11_keep_173 xm_rN rfl ⟨Nat.le_refl _, Nat.le_refl _⟩ (h hS)
    · have h := h.2 g
      refine x_iload d11_keep_24 5 rfl ?_
      refine x_iload d11_keep_26 0 rfl ?_
      refine x_icmp_eq d11_keep_28 (t := 44) (by decide) (fun g => ?_) (fun g => ?_)
      · have h := h.1 g
        refine x_aload_n d11_keep_44 1 rfl rfl ?_
        refine x_getR d11_keep_45 fl11_7 (fun _ _ => rfl) (hS.1 _ _ (sh_154 b)) (hS.2.1 _ _ _ (pt_154_2 b)) ?_
        refine x_iload_n d11_keep_48 2 rfl rfl ?_
        obtain ⟨g34, h⟩ := h
        refine x_iald d11_keep_49 (hS.1 _ _ (sh_155 b)) g34 ?_
        refine x_iconst d11_keep_50 qi_3 ?_
        refine x_icmp_ne d11_keep_51 (t := 94) (by decide) (fun g => ?_) (fun g => ?_)
        · have h := h.1 g
          refine x_aload_n d11_keep_94 1 rfl rfl ?_
          refine x_getR d11_keep_95 fl11_7 (fun _ _ => rfl) (hS.1 _ _ (sh_154 b)) (hS.2.1 _ _ _ (pt_154_2 b)) ?_
          refine x_iload_n d11_keep_98 2 rfl rfl ?_
          obtain ⟨g35, h⟩ := h
          refine x_iald d11_keep_99 (hS.1 _ _ (sh_155 b)) g35 ?_
          refine x_iconst d11_keep_100 qi_5 ?_
          refine x_icmp_ne d11_keep_101 (t := 173) (by decide) (fun g => ?_) (fun g => ?_)
          · have h := h.1 g
            exact x_ret (r := none) d11_keep_173 xm_rN rfl ⟨Nat.le_refl _, Nat.le_refl _⟩ (h hS)
          · have h := h.2 g
            refine x_aload_n d11_keep_104 1 rfl rfl ?_
            refine x_getR d11_keep_105 fl11_13 (fun _ _ => rfl) (hS.1 _ _ (sh_154 b)) (hS.2.1 _ _ _ (pt_154_3 b)) ?_
            refine x_iload_n d11_keep_108 2 rfl rfl ?_
            obtain ⟨g36, h⟩ := h
            refine x_iald d11_keep_109 (hS.1 _ _ (sh_156 b)) g36 ?_
            refine x_aload_n d11_keep_110 1 rfl rfl ?_
            refine x_getR d11_keep_111 fl11_16 (fun _ _ => rfl) (hS.1 _ _ (sh_154 b)) (hS.2.1 _ _ _ (pt_154_4 b)) ?_
            refine x_iload_n d11_keep_114 2 rfl rfl ?_
            obtain ⟨g37, h⟩ := h
            refine x_iald d11_keep_115 (hS.1 _ _ (sh_157 b)) g37 ?_
            refine x_icmp_eq d11_keep_116 (t := 173) (by decide) (fun g => ?_) (fun g => ?_)
            · have h := h.1 g
              exact x_ret (r := none) d11_keep_173 xm_rN rfl ⟨Nat.le_refl _, Nat.le_refl _⟩ (h hS)
            · have h := h.2 g
              refine x_iload_n d11_keep_119 4 rfl rfl ?_
              refine x_iload d11_keep_120 0 rfl ?_
              refine x_icmp_ne d11_keep_122 (t := 130) (by decide) (fun g => ?_) (fun g => ?_)
              · have h := h.1 g
                refine x_iload_n d11_keep_130 4 rfl rfl ?_
                refine x_iconst d11_keep_131 qi_1 ?_
                refine x_aload_n d11_keep_132 1 rfl rfl ?_
                refine x_getR d11_keep_133 fl11_16 (fun _ _ => rfl) (hS.1 _ _ (sh_154 b)) (hS.2.1 _ _ _ (pt_154_4 b)) ?_
                refine x_iload_n d11_keep_136 2 rfl rfl ?_
                obtain ⟨g38, h⟩ := h
                refine x_iald d11_keep_137 (hS.1 _ _ (sh_157 b)) g38 ?_
                refine x_iadd d11_keep_138 ?_
                refine x_icmp_ne d11_keep_139 (t := 173) (by decide) (fun g => ?_) (fun g => ?_)
                · have h := h.1 g
                  exact x_ret (r := none) d11_keep_173 xm_rN rfl ⟨Nat.le_refl _, Nat.le_refl _⟩ (h hS)
                · have h := h.2 g
                  refine x_aload_n d11_keep_142 1 rfl rfl ?_
                  refine x_iload_n d11_keep_143 3 rfl rfl ?_
                  refine x_iload_n d11_keep_144 4 rfl rfl ?_
                  refine x_iload d11_keep_145 0 rfl ?_
                  refine x_icmp_ne d11_keep_147 (t := 155) (by decide) (fun g => ?_) (fun g => ?_)
                  · have h := h.1 g
                    refine x_iconst d11_keep_155 qi_0 ?_
                    refine x_iload_n d11_keep_156 4 rfl rfl ?_
                    refine x_iload d11_keep_157 0 rfl ?_
                    refine x_icmp_ne d11_keep_159 (t := 166) (by decide) (fun g => ?_) (fun g => ?_)
                    · have h := h.1 g
                      refine x_iload d11_keep_166 0 rfl ?_
                      refine x_lload d11_keep_168 6 rfl ?_
                      refine x_cVN (Z := y11_step) (S := rm11_step) (As := [.int v2, .int (0 : Int32), .int ((1 : Int32) + (xm_gi M (b + 156) (Int32.toNatClampNeg v1))), .long w5]) (rest := []) d11_keep_170 ml11_107 k11_step rfl (b := (b + 154)) (hS.1 _ _ (sh_154 b)) rfl rfl (Nat.le_of_ble_eq_true rfl) ⟨⟨by decide, by decide⟩, by decide, by decide⟩ ⟨rfl, rfl⟩ h (fun M39 h => ?_)
                      obtain ⟨hS, h⟩ := h
                      exact x_ret (r := none) d11_keep_173 xm_rN rfl ⟨Nat.le_refl _, Nat.le_refl _⟩ (h hS)
                    · have h := h.2 g
                      refine x_iconst d11_keep_162 qi_0 ?_
                      refine x_goto d11_keep_163 (t := 168) (by decide) ?_
                      refine x_lload d11_keep_168 6 rfl ?_
                      refine x_cVN (Z := y11_step) (S := rm11_step) (As := [.int v2, .int (0 : Int32), .int (0 : Int32), .long w5]) (rest := []) d11_keep_170 ml11_107 k11_step rfl (b := (b + 154)) (hS.1 _ _ (sh_154 b)) rfl rfl (Nat.le_of_ble_eq_true rfl) ⟨⟨by decide, by decide⟩, by decide, by decide⟩ ⟨rfl, rfl⟩ h (fun M41 h => ?_)
                      obtain ⟨hS, h⟩ := h
                      exact x_ret (r := none) d11_keep_173 xm_rN rfl ⟨Nat.le_refl _, Nat.le_refl _⟩ (h hS)
                  · have h := h.2 g
                    refine x_iload d11_keep_150 0 rfl ?_
                    refine x_goto d11_keep_152 (t := 156) (by decide) ?_
                    refine x_iload_n d11_keep_156 4 rfl rfl ?_
                    refine x_iload d11_keep_157 0 rfl ?_
                    refine x_icmp_ne d11_keep_159 (t := 166) (by decide) (fun g => ?_) (fun g => ?_)
                    · have h := h.1 g
                      refine x_iload d11_keep_166 0 rfl ?_
                      refine x_lload d11_keep_168 6 rfl ?_
                      refine x_cVN (Z := y11_step) (S := rm11_step) (As := [.int v2, .int ((1 : Int32) + (xm_gi M (b + 156) (Int32.toNatClampNeg v1))), .int ((1 : Int32) + (xm_gi M (b + 156) (Int32.toNatClampNeg v1))), .long w5]) (rest := []) d11_keep_170 ml11_107 k11_step rfl (b := (b + 154)) (hS.1 _ _ (sh_154 b)) rfl rfl (Nat.le_of_ble_eq_true rfl) ⟨⟨by decide, by decide⟩, by decide, by decide⟩ ⟨rfl, rfl⟩ h (fun M43 h => ?_)
                      obtain ⟨hS, h⟩ := h
                      exact x_ret (r := none) d11_keep_173 xm_rN rfl ⟨Nat.le_refl _, Nat.le_refl _⟩ (h hS)
                    · have h := h.2 g
                      refine x_iconst d11_keep_162 qi_0 ?_
                      refine x_goto d11_keep_163 (t := 168) (by decide) ?_
                      refine x_lload d11_keep_168 6 rfl ?_
                      refine x_cVN (Z := y11_step) (S := rm11_step) (As := [.int v2, .int ((1 : Int32) + (xm_gi M (b + 156) (Int32.toNatClampNeg v1))), .int (0 : Int32), .long w5]) (rest := []) d11_keep_170 ml11_107 k11_step rfl (b := (b + 154)) (hS.1 _ _ (sh_154 b)) rfl rfl (Nat.le_of_ble_eq_true rfl) ⟨⟨by decide, by decide⟩, by decide, by decide⟩ ⟨rfl, rfl⟩ h (fun M45 h => ?_)
                      obtain ⟨hS, h⟩ := h
                      exact x_ret (r := none) d11_keep_173 xm_rN rfl ⟨Nat.le_refl _, Nat.le_refl _⟩ (h hS)
              · have h := h.2 g
                refine x_iload d11_keep_125 5 rfl ?_
                refine x_goto d11_keep_127 (t := 131) (by decide) ?_
                refine x_iconst d11_keep_131 qi_1 ?_
                refine x_aload_n d11_keep_132 1 rfl rfl ?_
                refine x_getR d11_keep_133 fl11_16 (fun _ _ => rfl) (hS.1 _ _ (sh_154 b)) (hS.2.1 _ _ _ (pt_154_4 b)) ?_
                refine x_iload_n d11_keep_136 2 rfl rfl ?_
                obtain ⟨g47, h⟩ := h
                refine x_iald d11_keep_137 (hS.1 _ _ (sh_157 b)) g47 ?_
                refine x_iadd d11_keep_138 ?_
                refine x_icmp_ne d11_keep_139 (t := 173) (by decide) (fun g => ?_) (fun g => ?_)
                · have h := h.1 g
                  exact x_ret (r := none) d11_keep_173 xm_rN rfl ⟨Nat.le_refl _, Nat.le_refl _⟩ (h hS)
                · have h := h.2 g
                  refine x_aload_n d11_keep_142 1 rfl rfl ?_
                  refine x_iload_n d11_keep_143 3 rfl rfl ?_
                  refine x_iload_n d11_keep_144 4 rfl rfl ?_
                  refine x_iload d11_keep_145 0 rfl ?_
                  refine x_icmp_ne d11_keep_147 (t := 155) (by decide) (fun g => ?_) (fun g => ?_)
                  · have h := h.1 g
                    refine x_iconst d11_keep_155 qi_0 ?_
                    refine x_iload_n d11_keep_156 4 rfl rfl ?_
                    refine x_iload d11_keep_157 0 rfl ?_
                    refine x_icmp_ne d11_keep_159 (t := 166) (by decide) (fun g => ?_) (fun g => ?_)
                    · have h := h.1 g
                      refine x_iload d11_keep_166 0 rfl ?_
                      refine x_lload d11_keep_168 6 rfl ?_
                      refine x_cVN (Z := y11_step) (S := rm11_step) (As := [.int v2, .int (0 : Int32), .int ((1 : Int32) + (xm_gi M (b + 156) (Int32.toNatClampNeg v1))), .long w5]) (rest := []) d11_keep_170 ml11_107 k11_step rfl (b := (b + 154)) (hS.1 _ _ (sh_154 b)) rfl rfl (Nat.le_of_ble_eq_true rfl) ⟨⟨by decide, by decide⟩, by decide, by decide⟩ ⟨rfl, rfl⟩ h (fun M48 h => ?_)
                      obtain ⟨hS, h⟩ := h
                      exact x_ret (r := none) d11_keep_173 xm_rN rfl ⟨Nat.le_refl _, Nat.le_refl _⟩ (h hS)
                    · have h := h.2 g
                      refine x_iconst d11_keep_162 qi_0 ?_
                      refine x_goto d11_keep_163 (t := 168) (by decide) ?_
                      refine x_lload d11_keep_168 6 rfl ?_
                      refine x_cVN (Z := y11_step) (S := rm11_step) (As := [.int v2, .int (0 : Int32), .int (0 : Int32), .long w5]) (rest := []) d11_keep_170 ml11_107 k11_step rfl (b := (b + 154)) (hS.1 _ _ (sh_154 b)) rfl rfl (Nat.le_of_ble_eq_true rfl) ⟨⟨by decide, by decide⟩, by decide, by decide⟩ ⟨rfl, rfl⟩ h (fun M50 h => ?_)
                      obtain ⟨hS, h⟩ := h
                      exact x_ret (r := none) d11_keep_173 xm_rN rfl ⟨Nat.le_refl _, Nat.le_refl _⟩ (h hS)
                  · have h := h.2 g
                    refine x_iload d11_keep_150 0 rfl ?_
                    refine x_goto d11_keep_152 (t := 156) (by decide) ?_
                    refine x_iload_n d11_keep_156 4 rfl rfl ?_
                    refine x_iload d11_keep_157 0 rfl ?_
                    refine x_icmp_ne d11_keep_159 (t := 166) (by decide) (fun g => ?_) (fun g => ?_)
                    · have h := h.1 g
                      refine x_iload d11_keep_166 0 rfl ?_
                      refine x_lload d11_keep_168 6 rfl ?_
                      refine x_cVN (Z := y11_step) (S := rm11_step) (As := [.int v2, .int ((1 : Int32) + (xm_gi M (b + 156) (Int32.toNatClampNeg v1))), .int ((1 : Int32) + (xm_gi M (b + 156) (Int32.toNatClampNeg v1))), .long w5]) (rest := []) d11_keep_170 ml11_107 k11_step rfl (b := (b + 154)) (hS.1 _ _ (sh_154 b)) rfl rfl (Nat.le_of_ble_eq_true rfl) ⟨⟨by decide, by decide⟩, by decide, by decide⟩ ⟨rfl, rfl⟩ h (fun M52 h => ?_)
                      obtain ⟨hS, h⟩ := h
                      exact x_ret (r := none) d11_keep_173 xm_rN rfl ⟨Nat.le_refl _, Nat.le_refl _⟩ (h hS)
                    · have h := h.2 g
                      refine x_iconst d11_keep_162 qi_0 ?_
                      refine x_goto d11_keep_163 (t := 168) (by decide) ?_
                      refine x_lload d11_keep_168 6 rfl ?_
                      refine x_cVN (Z := y11_step) (S := rm11_step) (As := [.int v2, .int ((1 : Int32) + (xm_gi M (b + 156) (Int32.toNatClampNeg v1))), .int (0 : Int32), .long w5]) (rest := []) d11_keep_170 ml11_107 k11_step rfl (b := (b + 154)) (hS.1 _ _ (sh_154 b)) rfl rfl (Nat.le_of_ble_eq_true rfl) ⟨⟨by decide, by decide⟩, by decide, by decide⟩ ⟨rfl, rfl⟩ h (fun M54 h => ?_)
                      obtain ⟨hS, h⟩ := h
                      exact x_ret (r := none) d11_keep_173 xm_rN rfl ⟨Nat.le_refl _, Nat.le_refl _⟩ (h hS)
        · have h := h.2 g
          refine x_aload_n d11_keep_54 1 rfl rfl ?_
          refine x_iload_n d11_keep_55 3 rfl rfl ?_
          refine x_iload_n d11_keep_56 4 rfl rfl ?_
          refine x_iload d11_keep_57 5 rfl ?_
          refine x_iload_n d11_keep_59 4 rfl rfl ?_
          refine x_iload d11_keep_60 0 rfl ?_
          refine x_icmp_ne d11_keep_62 (t := 78) (by decide) (fun g => ?_) (fun g => ?_)
          · have h := h.1 g
            refine x_lload d11_keep_78 6 rfl ?_
            refine x_aload_n d11_keep_80 1 rfl rfl ?_
            refine x_getR d11_keep_81 fl11_19 (fun _ _ => rfl) (hS.1 _ _ (sh_154 b)) (hS.2.1 _ _ _ (pt_154_5 b)) ?_
            refine x_iload_n d11_keep_84 2 rfl rfl ?_
            obtain ⟨g56, h⟩ := h
            refine x_iald d11_keep_85 (hS.1 _ _ (sh_158 b)) g56 ?_
            refine x_i2l d11_keep_86 ?_
            refine x_lsub d11_keep_87 ?_
            refine x_cVN (Z := y11_step) (S := rm11_step) (As := [.int v2, .int v3, .int v4, .long (w5 - (Int32.toInt64 (xm_gi M2 (b + 158) (Int32.toNatClampNeg v1))))]) (rest := []) d11_keep_88 ml11_107 k11_step rfl (b := (b + 154)) (hS.1 _ _ (sh_154 b)) rfl rfl (Nat.le_of_ble_eq_true rfl) ⟨⟨by decide, by decide⟩, by decide, by decide⟩ ⟨rfl, rfl⟩ h (fun M57 h => ?_)
            obtain ⟨hS, h⟩ := h
            refine x_goto d11_keep_91 (t := 173) (by decide) ?_
            exact x_ret (r := none) d11_keep_173 xm_rN rfl ⟨Nat.le_refl _, Nat.le_refl _⟩ (h hS)
          · have h := h.2 g
            refine x_lload d11_keep_65 6 rfl ?_
            refine x_aload_n d11_keep_67 1 rfl rfl ?_
            refine x_getR d11_keep_68 fl11_19 (fun _ _ => rfl) (hS.1 _ _ (sh_154 b)) (hS.2.1 _ _ _ (pt_154_5 b)) ?_
            refine x_iload_n d11_keep_71 2 rfl rfl ?_
            obtain ⟨g59, h⟩ := h
            refine x_iald d11_keep_72 (hS.1 _ _ (sh_158 b)) g59 ?_
            refine x_i2l d11_keep_73 ?_
            refine x_ladd d11_keep_74 ?_
            refine x_goto d11_keep_75 (t := 88) (by decide) ?_
            refine x_cVN (Z := y11_step) (S := rm11_step) (As := [.int v2, .int v3, .int v4, .long (w5 + (Int32.toInt64 (xm_gi M2 (b + 158) (Int32.toNatClampNeg v1))))]) (rest := []) d11_keep_88 ml11_107 k11_step rfl (b := (b + 154)) (hS.1 _ _ (sh_154 b)) rfl rfl (Nat.le_of_ble_eq_true rfl) ⟨⟨by decide, by decide⟩, by decide, by decide⟩ ⟨rfl, rfl⟩ h (fun M60 h => ?_)
            obtain ⟨hS, h⟩ := h
            refine x_goto d11_keep_91 (t := 173) (by decide) ?_
            exact x_ret (r := none) d11_keep_173 xm_rN rfl ⟨Nat.le_refl _, Nat.le_refl _⟩ (h hS)
      · have h := h.2 g
        refine x_aload_n d11_keep_31 1 rfl rfl ?_
        refine x_iload_n d11_keep_32 3 rfl rfl ?_
        refine x_iload_n d11_keep_33 4 rfl rfl ?_
        refine x_iload d11_keep_34 5 rfl ?_
        refine x_lload d11_keep_36 6 rfl ?_
        refine x_cVN (Z := y11_step) (S := rm11_step) (As := [.int v2, .int v3, .int v4, .long w5]) (rest := []) d11_keep_38 ml11_107 k11_step rfl (b := (b + 154)) (hS.1 _ _ (sh_154 b)) rfl rfl (Nat.le_of_ble_eq_true rfl) ⟨⟨by decide, by decide⟩, by decide, by decide⟩ ⟨rfl, rfl⟩ h (fun M62 h => ?_)
        obtain ⟨hS, h⟩ := h
        refine x_goto d11_keep_41 (t := 173) (by decide) ?_
        exact x_ret (r := none) d11_keep_173 xm_rN rfl ⟨Nat.le_refl _, Nat.le_refl _⟩ (h hS)

set_option maxRecDepth 20000 in
theorem t11_changes_0 {l : Launch} {E : xm_E} {b : Nat} {c p : Bool} {Q : Option Value → xm_M → Prop} (M : xm_M) (v1 : Int32) (hS : xm_st b c p M)
  (h : (vp_in v1 48 ∧ (((xm_gi M (b + 155) (Int32.toNatClampNeg v1)) ≤ 0 → (xm_st b c p M → Q (some (.int (0 : Int32))) M)) ∧ (¬ (xm_gi M (b + 155) (Int32.toNatClampNeg v1)) ≤ 0 → (vp_in v1 48 ∧ (((12 : Int32) ≤ (xm_gi M (b + 155) (Int32.toNatClampNeg v1)) → (xm_st b c p M → Q (some (.int (0 : Int32))) M)) ∧ (¬ (12 : Int32) ≤ (xm_gi M (b + 155) (Int32.toNatClampNeg v1)) → (vp_in v1 48 ∧ ((¬ (xm_gi M (b + 155) (Int32.toNatClampNeg v1)) = (2 : Int32) → (xm_st b c p M → Q (some (.int (1 : Int32))) M)) ∧ ((xm_gi M (b + 155) (Int32.toNatClampNeg v1)) = (2 : Int32) → (vp_in v1 48 ∧ (vp_in v1 48 ∧ (((xm_gi M (b + 156) (Int32.toNatClampNeg v1)) = (xm_gi M (b + 157) (Int32.toNatClampNeg v1)) → (xm_st b c p M → Q (some (.int (0 : Int32))) M)) ∧ (¬ (xm_gi M (b + 156) (Int32.toNatClampNeg v1)) = (xm_gi M (b + 157) (Int32.toNatClampNeg v1)) → (xm_st b c p M → Q (some (.int (1 : Int32))) M))))))))))))))) :
  xm_X l E y11_changes rm11_changes Q 0 [(0, .ref (b + 154)), (1, .int v1)] [] 0 0 M := by
  refine x_aload_n d11_changes_0 0 rfl rfl ?_
  refine x_getR d11_changes_1 fl11_7 (fun _ _ => rfl) (hS.1 _ _ (sh_154 b)) (hS.2.1 _ _ _ (pt_154_2 b)) ?_
  refine x_iload_n d11_changes_4 1 rfl rfl ?_
  obtain ⟨g1, h⟩ := h
  refine x_iald d11_changes_5 (hS.1 _ _ (sh_155 b)) g1 ?_
  refine x_if_le d11_changes_6 (t := 49) (by decide) (fun g => ?_) (fun g => ?_)
  · have h := h.1 g
    refine x_iconst d11_changes_49 qi_0 ?_
    exact x_ret (r := (some (.int (0 : Int32)))) d11_changes_50 (xm_rZ (Or.inl rfl)) rfl ⟨Nat.le_refl _, Nat.le_refl _⟩ (h hS)
  · have h := h.2 g
    refine x_aload_n d11_changes_9 0 rfl rfl ?_
    refine x_getR d11_changes_10 fl11_7 (fun _ _ => rfl) (hS.1 _ _ (sh_154 b)) (hS.2.1 _ _ _ (pt_154_2 b)) ?_
    refine x_iload_n d11_changes_13 1 rfl rfl ?_
    obtain ⟨g2, h⟩ := h
    refine x_iald d11_changes_14 (hS.1 _ _ (sh_155 b)) g2 ?_
    refine x_bipush d11_changes_15 qb_12 ?_
    refine x_icmp_ge d11_changes_17 (t := 49) (by decide) (fun g => ?_) (fun g => ?_)
    · have h := h.1 g
      refine x_iconst d11_changes_49 qi_0 ?_
      exact x_ret (r := (some (.int (0 : Int32)))) d11_changes_50 (xm_rZ (Or.inl rfl)) rfl ⟨Nat.le_refl _, Nat.le_refl _⟩ (h hS)
    · have h := h.2 g
      refine x_aload_n d11_changes_20 0 rfl rfl ?_
      refine x_getR d11_changes_21 fl11_7 (fun _ _ => rfl) (hS.1 _ _ (sh_154 b)) (hS.2.1 _ _ _ (pt_154_2 b)) ?_
      refine x_iload_n d11_changes_24 1 rfl rfl ?_
      obtain ⟨g3, h⟩ := h
      refine x_iald d11_changes_25 (hS.1 _ _ (sh_155 b)) g3 ?_
      refine x_iconst d11_changes_26 qi_2 ?_
      refine x_icmp_ne d11_changes_27 (t := 45) (by decide) (fun g => ?_) (fun g => ?_)
      · have h := h.1 g
        refine x_iconst d11_changes_45 qi_1 ?_
        refine x_goto d11_changes_46 (t := 50) (by decide) ?_
        exact x_ret (r := (some (.int (1 : Int32)))) d11_changes_50 (xm_rZ (Or.inr rfl)) rfl ⟨Nat.le_refl _, Nat.le_refl _⟩ (h hS)
      · have h := h.2 g
        refine x_aload_n d11_changes_30 0 rfl rfl ?_
        refine x_getR d11_changes_31 fl11_13 (fun _ _ => rfl) (hS.1 _ _ (sh_154 b)) (hS.2.1 _ _ _ (pt_154_3 b)) ?_
        refine x_iload_n d11_changes_34 1 rfl rfl ?_
        obtain ⟨g4, h⟩ := h
        refine x_iald d11_changes_35 (hS.1 _ _ (sh_156 b)) g4 ?_
        refine x_aload_n d11_changes_36 0 rfl rfl ?_
        refine x_getR d11_changes_37 fl11_16 (fun _ _ => rfl) (hS.1 _ _ (sh_154 b)) (hS.2.1 _ _ _ (pt_154_4 b)) ?_
        refine x_iload_n d11_changes_40 1 rfl rfl ?_
        obtain ⟨g5, h⟩ := h
        refine x_iald d11_changes_41 (hS.1 _ _ (sh_157 b)) g5 ?_
        refine x_icmp_eq d11_changes_42 (t := 49) (by decide) (fun g => ?_) (fun g => ?_)
        · have h := h.1 g
          refine x_iconst d11_changes_49 qi_0 ?_
          exact x_ret (r := (some (.int (0 : Int32)))) d11_changes_50 (xm_rZ (Or.inl rfl)) rfl ⟨Nat.le_refl _, Nat.le_refl _⟩ (h hS)
        · have h := h.2 g
          refine x_iconst d11_changes_45 qi_1 ?_
          refine x_goto d11_changes_46 (t := 50) (by decide) ?_
          exact x_ret (r := (some (.int (1 : Int32)))) d11_changes_50 (xm_rZ (Or.inr rfl)) rfl ⟨Nat.le_refl _, Nat.le_refl _⟩ (h hS)

set_option maxRecDepth 20000 in
theorem t11_further_0 {l : Launch} {E : xm_E} {b : Nat} {c p : Bool} {Q : Option Value → xm_M → Prop} (M : xm_M) (v1 : Int32) (v2 : Int32) (v3 : Int32) (hS : xm_st b c p M)
  (h : (vp_in v1 48 ∧ (vp_in v1 48 ∧ (vp_in v1 48 ∧ (vp_in v1 48 ∧ (((xm_gi M (b + 155) (Int32.toNatClampNeg v1)) = (1 : Int32) → xm_C l E y11_both rm11_both [.ref (b + 154), .int v3, .int ((1 : Int32) + (xm_gi M (b + 156) (Int32.toNatClampNeg v1))), .int (0 : Int32), .long (Int32.toInt64 (xm_gi M (b + 158) (Int32.toNatClampNeg v1))), .long (-(Int32.toInt64 (xm_gi M (b + 158) (Int32.toNatClampNeg v1))))] M (fun r M5 => r = none ∧ xm_st b c p M5 ∧ (xm_st b c p M5 → Q none M5))) ∧ ((xm_gi M (b + 155) (Int32.toNatClampNeg v1)) = (2 : Int32) → ((((1 : Int32) + (xm_gi M (b + 156) (Int32.toNatClampNeg v1))) = ((1 : Int32) + (xm_gi M (b + 157) (Int32.toNatClampNeg v1))) → (xm_st b c p M → Q none M)) ∧ (¬ ((1 : Int32) + (xm_gi M (b + 156) (Int32.toNatClampNeg v1))) = ((1 : Int32) + (xm_gi M (b + 157) (Int32.toNatClampNeg v1))) → xm_C l E y11_both rm11_both [.ref (b + 154), .int v3, .int ((1 : Int32) + (xm_gi M (b + 156) (Int32.toNatClampNeg v1))), .int ((1 : Int32) + (xm_gi M (b + 157) (Int32.toNatClampNeg v1))), .long (0 : Int64), .long (0 : Int64)] M (fun r M7 => r = none ∧ xm_st b c p M7 ∧ (xm_st b c p M7 → Q none M7))))) ∧ ((xm_gi M (b + 155) (Int32.toNatClampNeg v1)) = (5 : Int32) → ((¬ ((1 : Int32) + (xm_gi M (b + 156) (Int32.toNatClampNeg v1))) = ((1 : Int32) + (xm_gi M (b + 157) (Int32.toNatClampNeg v1))) → (xm_st b c p M → Q none M)) ∧ (((1 : Int32) + (xm_gi M (b + 156) (Int32.toNatClampNeg v1))) = ((1 : Int32) + (xm_gi M (b + 157) (Int32.toNatClampNeg v1))) → xm_C l E y11_both rm11_both [.ref (b + 154), .int v3, .int ((1 : Int32) + (xm_gi M (b + 156) (Int32.toNatClampNeg v1))), .int (0 : Int32), .long (0 : Int64), .long (0 : Int64)] M (fun r M9 => r = none ∧ xm_st b c p M9 ∧ (xm_st b c p M9 → Q none M9))))) ∧ ((xm_gi M (b + 155) (Int32.toNatClampNeg v1)) = (6 : Int32) → xm_C l E y11_both rm11_both [.ref (b + 154), .int v3, .int ((1 : Int32) + (xm_gi M (b + 156) (Int32.toNatClampNeg v1))), .int (0 : Int32), .long (Int32.toInt64 (xm_gi M (b + 158) (Int32.toNatClampNeg v1))), .long (0 : Int64)] M (fun r M11 => r = none ∧ xm_st b c p M11 ∧ (xm_st b c p M11 → Q none M11))) ∧ ((xm_gi M (b + 155) (Int32.toNatClampNeg v1)) = (7 : Int32) → (vp_in v1 48 ∧ xm_C l E y11_both rm11_both [.ref (b + 154), .int v3, .int ((1 : Int32) + (xm_gi M (b + 156) (Int32.toNatClampNeg v1))), .int (0 : Int32), .long (((1 : Int64) <<< (Int32.toInt64 ((32 : Int32) - (xm_gi M (b + 158) (Int32.toNatClampNeg v1))) &&& 63)) - (1 : Int64)), .long (0 : Int64)] M (fun r M14 => r = none ∧ xm_st b c p M14 ∧ (xm_st b c p M14 → Q none M14)))) ∧ ((xm_gi M (b + 155) (Int32.toNatClampNeg v1)) = (8 : Int32) → xm_C l E y11_both rm11_both [.ref (b + 154), .int v3, .int ((1 : Int32) + (xm_gi M (b + 156) (Int32.toNatClampNeg v1))), .int (0 : Int32), .long (255 : Int64), .long (0 : Int64)] M (fun r M16 => r = none ∧ xm_st b c p M16 ∧ (xm_st b c p M16 → Q none M16))) ∧ ((xm_gi M (b + 155) (Int32.toNatClampNeg v1)) = (9 : Int32) → xm_C l E y11_both rm11_both [.ref (b + 154), .int v3, .int ((1 : Int32) + (xm_gi M (b + 156) (Int32.toNatClampNeg v1))), .int (0 : Int32), .long (65535 : Int64), .long (0 : Int64)] M (fun r M18 => r = none ∧ xm_st b c p M18 ∧ (xm_st b c p M18 → Q none M18))) ∧ ((xm_gi M (b + 155) (Int32.toNatClampNeg v1)) = (11 : Int32) → xm_C l E y11_both rm11_both [.ref (b + 154), .int v3, .int ((1 : Int32) + (xm_gi M (b + 156) (Int32.toNatClampNeg v1))), .int (0 : Int32), .long (255 : Int64), .long (0 : Int64)] M (fun r M20 => r = none ∧ xm_st b c p M20 ∧ (xm_st b c p M20 → Q none M20))) ∧ ((xm_gi M (b + 155) (Int32.toNatClampNeg v1)) = (14 : Int32) → ((((1 : Int32) + (xm_gi M (b + 156) (Int32.toNatClampNeg v1))) = ((1 : Int32) + (xm_gi M (b + 157) (Int32.toNatClampNeg v1))) → ((((1 : Int32) + (xm_gi M (b + 156) (Int32.toNatClampNeg v1))) = ((1 : Int32) + (xm_gi M (b + 157) (Int32.toNatClampNeg v1))) → (xm_st b c p M → Q none M)) ∧ (¬ ((1 : Int32) + (xm_gi M (b + 156) (Int32.toNatClampNeg v1))) = ((1 : Int32) + (xm_gi M (b + 157) (Int32.toNatClampNeg v1))) → ((¬ v2 = (1 : Int32) → (xm_st b c p M → Q none M)) ∧ (v2 = (1 : Int32) → xm_C l E y11_step rm11_step [.ref (b + 154), .int v3, .int ((1 : Int32) + (xm_gi M (b + 156) (Int32.toNatClampNeg v1))), .int ((1 : Int32) + (xm_gi M (b + 157) (Int32.toNatClampNeg v1))), .long (-1 : Int64)] M (fun r M22 => r = none ∧ xm_st b c p M22 ∧ (xm_st b c p M22 → Q none M22))))))) ∧ (¬ ((1 : Int32) + (xm_gi M (b + 156) (Int32.toNatClampNeg v1))) = ((1 : Int32) + (xm_gi M (b + 157) (Int32.toNatClampNeg v1))) → ((¬ v2 = 0 → ((((1 : Int32) + (xm_gi M (b + 156) (Int32.toNatClampNeg v1))) = ((1 : Int32) + (xm_gi M (b + 157) (Int32.toNatClampNeg v1))) → (xm_st b c p M → Q none M)) ∧ (¬ ((1 : Int32) + (xm_gi M (b + 156) (Int32.toNatClampNeg v1))) = ((1 : Int32) + (xm_gi M (b + 157) (Int32.toNatClampNeg v1))) → ((¬ v2 = (1 : Int32) → (xm_st b c p M → Q none M)) ∧ (v2 = (1 : Int32) → xm_C l E y11_step rm11_step [.ref (b + 154), .int v3, .int ((1 : Int32) + (xm_gi M (b + 156) (Int32.toNatClampNeg v1))), .int ((1 : Int32) + (xm_gi M (b + 157) (Int32.toNatClampNeg v1))), .long (-1 : Int64)] M (fun r M24 => r = none ∧ xm_st b c p M24 ∧ (xm_st b c p M24 → Q none M24))))))) ∧ (v2 = 0 → xm_C l E y11_step rm11_step [.ref (b + 154), .int v3, .int ((1 : Int32) + (xm_gi M (b + 157) (Int32.toNatClampNeg v1))), .int ((1 : Int32) + (xm_gi M (b + 156) (Int32.toNatClampNeg v1))), .long (0 : Int64)] M (fun r M26 => r = none ∧ xm_st b c p M26 ∧ ((((1 : Int32) + (xm_gi M (b + 156) (Int32.toNatClampNeg v1))) = ((1 : Int32) + (xm_gi M (b + 157) (Int32.toNatClampNeg v1))) → (xm_st b c p M26 → Q none M26)) ∧ (¬ ((1 : Int32) + (xm_gi M (b + 156) (Int32.toNatClampNeg v1))) = ((1 : Int32) + (xm_gi M (b + 157) (Int32.toNatClampNeg v1))) → ((¬ v2 = (1 : Int32) → (xm_st b c p M26 → Q none M26)) ∧ (v2 = (1 : Int32) → xm_C l E y11_step rm11_step [.ref (b + 154), .int v3, .int ((1 : Int32) + (xm_gi M (b + 156) (Int32.toNatClampNeg v1))), .int ((1 : Int32) + (xm_gi M (b + 157) (Int32.toNatClampNeg v1))), .long (-1 : Int64)] M26 (fun r M28 => r = none ∧ xm_st b c p M28 ∧ (xm_st b c p M28 → Q none M28)))))))))))) ∧ ((xm_gi M (b + 155) (Int32.toNatClampNeg v1)) = (15 : Int32) → ((¬ v2 = 0 → xm_C l E y11_step rm11_step [.ref (b + 154), .int v3, .int ((1 : Int32) + (xm_gi M (b + 156) (Int32.toNatClampNeg v1))), .int (0 : Int32), .long ((Int32.toInt64 (xm_gi M (b + 158) (Int32.toNatClampNeg v1))) - (1 : Int64))] M (fun r M30 => r = none ∧ xm_st b c p M30 ∧ (xm_st b c p M30 → Q none M30))) ∧ (v2 = 0 → xm_C l E y11_step rm11_step [.ref (b + 154), .int v3, .int (0 : Int32), .int ((1 : Int32) + (xm_gi M (b + 156) (Int32.toNatClampNeg v1))), .long (-(Int32.toInt64 (xm_gi M (b + 158) (Int32.toNatClampNeg v1))))] M (fun r M32 => r = none ∧ xm_st b c p M32 ∧ (xm_st b c p M32 → Q none M32))))) ∧ ((xm_gi M (b + 155) (Int32.toNatClampNeg v1)) = (16 : Int32) → ((((1 : Int32) + (xm_gi M (b + 156) (Int32.toNatClampNeg v1))) = ((1 : Int32) + (xm_gi M (b + 157) (Int32.toNatClampNeg v1))) → (xm_st b c p M → Q none M)) ∧ (¬ ((1 : Int32) + (xm_gi M (b + 156) (Int32.toNatClampNeg v1))) = ((1 : Int32) + (xm_gi M (b + 157) (Int32.toNatClampNeg v1))) → ((¬ v2 = (1 : Int32) → (xm_st b c p M → Q none M)) ∧ (v2 = (1 : Int32) → xm_C l E y11_both rm11_both [.ref (b + 154), .int v3, .int ((1 : Int32) + (xm_gi M (b + 156) (Int32.toNatClampNeg v1))), .int ((1 : Int32) + (xm_gi M (b + 157) (Int32.toNatClampNeg v1))), .long (0 : Int64), .long (0 : Int64)] M (fun r M34 => r = none ∧ xm_st b c p M34 ∧ (xm_st b c p M34 → Q none M34))))))) ∧ (¬ (xm_gi M (b + 155) (Int32.toNatClampNeg v1)) = (1 : Int32) ∧ ¬ (xm_gi M (b + 155) (Int32.toNatClampNeg v1)) = (2 : Int32) ∧ ¬ (xm_gi M (b + 155) (Int32.toNatClampNeg v1)) = (5 : Int32) ∧ ¬ (xm_gi M (b + 155) (Int32.toNatClampNeg v1)) = (6 : Int32) ∧ ¬ (xm_gi M (b + 155) (Int32.toNatClampNeg v1)) = (7 : Int32) ∧ ¬ (xm_gi M (b + 155) (Int32.toNatClampNeg v1)) = (8 : Int32) ∧ ¬ (xm_gi M (b + 155) (Int32.toNatClampNeg v1)) = (9 : Int32) ∧ ¬ (xm_gi M (b + 155) (Int32.toNatClampNeg v1)) = (11 : Int32) ∧ ¬ (xm_gi M (b + 155) (Int32.toNatClampNeg v1)) = (14 : Int32) ∧ ¬ (xm_gi M (b + 155) (Int32.toNatClampNeg v1)) = (15 : Int32) ∧ ¬ (xm_gi M (b + 155) (Int32.toNatClampNeg v1)) = (16 : Int32) → (xm_st b c p M → Q none M)))))))) :
  xm_X l E y11_further rm11_further Q 0 [(0, .ref (b + 154)), (1, .int v1), (2, .int v2), (3, .int v3)] [] 0 0 M := by
  refine x_iconst d11_further_0 qi_1 ?_
  refine x_aload_n d11_further_1 0 rfl rfl ?_
  refine x_getR d11_further_2 fl11_13 (fun _ _ => rfl) (hS.1 _ _ (sh_154 b)) (hS.2.1 _ _ _ (pt_154_3 b)) ?_
  refine x_iload_n d11_further_5 1 rfl rfl ?_
  obtain ⟨g1, h⟩ := h
  refine x_iald d11_further_6 (hS.1 _ _ (sh_156 b)) g1 ?_
  refine x_iadd d11_further_7 ?_
  refine x_istore d11_further_8 (by decide) (L' := [(4, .int ((1 : Int32) + (xm_gi M (b + 156) (Int32.toNatClampNeg v1)))), (0, .ref (b + 154)), (1, .int v1), (2, .int v2), (3, .int v3)]) rfl ?_
  refine x_iconst d11_further_10 qi_1 ?_
  refine x_aload_n d11_further_11 1 rfl rfl ?_
  refine x_getR d11_further_12 fl11_16 (fun _ _ => rfl) (hS.1 _ _ (sh_154 b)) (hS.2.1 _ _ _ (pt_154_4 b)) ?_
  refine x_iload_n d11_further_15 2 rfl rfl ?_
  obtain ⟨g2, h⟩ := h
  refine x_iald d11_further_16 (hS.1 _ _ (sh_157 b)) g2 ?_
  refine x_iadd d11_further_17 ?_
  refine x_istore d11_further_18 (by decide) (L' := [(5, .int ((1 : Int32) + (xm_gi M (b + 157) (Int32.toNatClampNeg v1)))), (4, .int ((1 : Int32) + (xm_gi M (b + 156) (Int32.toNatClampNeg v1)))), (0, .ref (b + 154)), (1, .int v1), (2, .int v2), (3, .int v3)]) rfl ?_
  refine x_aload_n d11_further_20 2 rfl rfl ?_
  refine x_getR d11_further_21 fl11_19 (fun _ _ => rfl) (hS.1 _ _ (sh_154 b)) (hS.2.1 _ _ _ (pt_154_5 b)) ?_
  refine x_iload_n d11_further_24 3 rfl rfl ?_
  obtain ⟨g3, h⟩ := h
  refine x_iald d11_further_25 (hS.1 _ _ (sh_158 b)) g3 ?_
  refine x_i2l d11_further_26 ?_
  refine x_lstore d11_further_27 (by decide) (L' := [(6, .long (Int32.toInt64 (xm_gi M (b + 158) (Int32.toNatClampNeg v1)))), (5, .int ((1 : Int32) + (xm_gi M (b + 157) (Int32.toNatClampNeg v1)))), (4, .int ((1 : Int32) + (xm_gi M (b + 156) (Int32.toNatClampNeg v1)))), (0, .ref (b + 154)), (1, .int v1), (2, .int v2), (3, .int v3)]) rfl ?_
  refine x_aload_n d11_further_29 3 rfl rfl ?_
  refine x_getR d11_further_30 fl11_7 (fun _ _ => rfl) (hS.1 _ _ (sh_154 b)) (hS.2.1 _ _ _ (pt_154_2 b)) ?_
  refine x_iload_n d11_further_33 4 rfl rfl ?_
  obtain ⟨g4, h⟩ := h
  refine x_iald d11_further_34 (hS.1 _ _ (sh_155 b)) g4 ?_
  have hsw := h
  clear h
  by_cases e1 : (xm_gi M (b + 155) (Int32.toNatClampNeg v1)) = (1 : Int32)
  · have h := hsw.1 e1
    refine x_swIn d11_further_35 1 (by rw [e1]; rfl) ⟨by decide, by decide⟩ rfl (t := 112) (by decide) ?_
    refine x_aload_n d11_further_112 3 rfl rfl ?_
    refine x_iload_n d11_further_113 6 rfl rfl ?_
    refine x_iload d11_further_114 2 rfl ?_
    refine x_iconst d11_further_116 qi_0 ?_
    refine x_lload d11_further_117 0 rfl ?_
    refine x_lload d11_further_119 0 rfl ?_
    refine x_lneg d11_further_121 ?_
    refine x_cVN (Z := y11_both) (S := rm11_both) (As := [.int v3, .int ((1 : Int32) + (xm_gi M (b + 156) (Int32.toNatClampNeg v1))), .int (0 : Int32), .long (Int32.toInt64 (xm_gi M (b + 158) (Int32.toNatClampNeg v1))), .long (-(Int32.toInt64 (xm_gi M (b + 158) (Int32.toNatClampNeg v1))))]) (rest := []) d11_further_122 ml11_111 k11_both rfl (b := (b + 154)) (hS.1 _ _ (sh_154 b)) rfl rfl (Nat.le_of_ble_eq_true rfl) ⟨⟨by decide, by decide⟩, by decide, by decide⟩ ⟨rfl, rfl⟩ h (fun M5 h => ?_)
    obtain ⟨hS, h⟩ := h
    refine x_goto d11_further_125 (t := 345) (by decide) ?_
    exact x_ret (r := none) d11_further_345 xm_rN rfl ⟨Nat.le_refl _, Nat.le_refl _⟩ (h hS)
  by_cases e2 : (xm_gi M (b + 155) (Int32.toNatClampNeg v1)) = (2 : Int32)
  · have h := hsw.2.1 e2
    refine x_swIn d11_further_35 2 (by rw [e2]; rfl) ⟨by decide, by decide⟩ rfl (t := 128) (by decide) ?_
    refine x_iload d11_further_128 2 rfl ?_
    refine x_iload d11_further_130 1 rfl ?_
    refine x_icmp_eq d11_further_132 (t := 345) (by decide) (fun g => ?_) (fun g => ?_)
    · have h := h.1 g
      exact x_ret (r := none) d11_further_345 xm_rN rfl ⟨Nat.le_refl _, Nat.le_refl _⟩ (h hS)
    · have h := h.2 g
      refine x_aload_n d11_further_135 3 rfl rfl ?_
      refine x_iload_n d11_further_136 6 rfl rfl ?_
      refine x_iload d11_further_137 2 rfl ?_
      refine x_iload d11_further_139 1 rfl ?_
      refine x_lconst d11_further_141 ql_0 ?_
      refine x_lconst d11_further_142 ql_0 ?_
      refine x_cVN (Z := y11_both) (S := rm11_both) (As := [.int v3, .int ((1 : Int32) + (xm_gi M (b + 156) (Int32.toNatClampNeg v1))), .int ((1 : Int32) + (xm_gi M (b + 157) (Int32.toNatClampNeg v1))), .long (0 : Int64), .long (0 : Int64)]) (rest := []) d11_further_143 ml11_111 k11_both rfl (b := (b + 154)) (hS.1 _ _ (sh_154 b)) rfl rfl (Nat.le_of_ble_eq_true rfl) ⟨⟨by decide, by decide⟩, by decide, by decide⟩ ⟨rfl, rfl⟩ h (fun M7 h => ?_)
      obtain ⟨hS, h⟩ := h
      refine x_goto d11_further_146 (t := 345) (by decide) ?_
      exact x_ret (r := none) d11_further_345 xm_rN rfl ⟨Nat.le_refl _, Nat.le_refl _⟩ (h hS)
  by_cases e5 : (xm_gi M (b + 155) (Int32.toNatClampNeg v1)) = (5 : Int32)
  · have h := hsw.2.2.1 e5
    refine x_swIn d11_further_35 5 (by rw [e5]; rfl) ⟨by decide, by decide⟩ rfl (t := 149) (by decide) ?_
    refine x_iload d11_further_149 2 rfl ?_
    refine x_iload d11_further_151 1 rfl ?_
    refine x_icmp_ne d11_further_153 (t := 345) (by decide) (fun g => ?_) (fun g => ?_)
    · have h := h.1 g
      exact x_ret (r := none) d11_further_345 xm_rN rfl ⟨Nat.le_refl _, Nat.le_refl _⟩ (h hS)
    · have h := h.2 g
      refine x_aload_n d11_further_156 3 rfl rfl ?_
      refine x_iload_n d11_further_157 6 rfl rfl ?_
      refine x_iload d11_further_158 2 rfl ?_
      refine x_iconst d11_further_160 qi_0 ?_
      refine x_lconst d11_further_161 ql_0 ?_
      refine x_lconst d11_further_162 ql_0 ?_
      refine x_cVN (Z := y11_both) (S := rm11_both) (As := [.int v3, .int ((1 : Int32) + (xm_gi M (b + 156) (Int32.toNatClampNeg v1))), .int (0 : Int32), .long (0 : Int64), .long (0 : Int64)]) (rest := []) d11_further_163 ml11_111 k11_both rfl (b := (b + 154)) (hS.1 _ _ (sh_154 b)) rfl rfl (Nat.le_of_ble_eq_true rfl) ⟨⟨by decide, by decide⟩, by decide, by decide⟩ ⟨rfl, rfl⟩ h (fun M9 h => ?_)
      obtain ⟨hS, h⟩ := h
      refine x_goto d11_further_166 (t := 345) (by decide) ?_
      exact x_ret (r := none) d11_further_345 xm_rN rfl ⟨Nat.le_refl _, Nat.le_refl _⟩ (h hS)
  by_cases e6 : (xm_gi M (b + 155) (Int32.toNatClampNeg v1)) = (6 : Int32)
  · have h := hsw.2.2.2.1 e6
    refine x_swIn d11_further_35 6 (by rw [e6]; rfl) ⟨by decide, by decide⟩ rfl (t := 169) (by decide) ?_
    refine x_aload_n d11_further_169 3 rfl rfl ?_
    refine x_iload_n d11_further_170 6 rfl rfl ?_
    refine x_iload d11_further_171 2 rfl ?_
    refine x_iconst d11_further_173 qi_0 ?_
    refine x_lload d11_further_174 0 rfl ?_
    refine x_lconst d11_further_176 ql_0 ?_
    refine x_cVN (Z := y11_both) (S := rm11_both) (As := [.int v3, .int ((1 : Int32) + (xm_gi M (b + 156) (Int32.toNatClampNeg v1))), .int (0 : Int32), .long (Int32.toInt64 (xm_gi M (b + 158) (Int32.toNatClampNeg v1))), .long (0 : Int64)]) (rest := []) d11_further_177 ml11_111 k11_both rfl (b := (b + 154)) (hS.1 _ _ (sh_154 b)) rfl rfl (Nat.le_of_ble_eq_true rfl) ⟨⟨by decide, by decide⟩, by decide, by decide⟩ ⟨rfl, rfl⟩ h (fun M11 h => ?_)
    obtain ⟨hS, h⟩ := h
    refine x_goto d11_further_180 (t := 345) (by decide) ?_
    exact x_ret (r := none) d11_further_345 xm_rN rfl ⟨Nat.le_refl _, Nat.le_refl _⟩ (h hS)
  by_cases e7 : (xm_gi M (b + 155) (Int32.toNatClampNeg v1)) = (7 : Int32)
  · have h := hsw.2.2.2.2.1 e7
    refine x_swIn d11_further_35 7 (by rw [e7]; rfl) ⟨by decide, by decide⟩ rfl (t := 183) (by decide) ?_
    refine x_aload_n d11_further_183 3 rfl rfl ?_
    refine x_iload_n d11_further_184 6 rfl rfl ?_
    refine x_iload d11_further_185 2 rfl ?_
    refine x_iconst d11_further_187 qi_0 ?_
    refine x_lconst d11_further_188 ql_1 ?_
    refine x_bipush d11_further_189 qb_32 ?_
    refine x_aload_n d11_further_191 3 rfl rfl ?_
    refine x_getR d11_further_192 fl11_19 (fun _ _ => rfl) (hS.1 _ _ (sh_154 b)) (hS.2.1 _ _ _ (pt_154_5 b)) ?_
    refine x_iload_n d11_further_195 4 rfl rfl ?_
    obtain ⟨g13, h⟩ := h
    refine x_iald d11_further_196 (hS.1 _ _ (sh_158 b)) g13 ?_
    refine x_isub d11_further_197 ?_
    refine x_lshl d11_further_198 ?_
    refine x_lconst d11_further_199 ql_1 ?_
    refine x_lsub d11_further_200 ?_
    refine x_lconst d11_further_201 ql_0 ?_
    refine x_cVN (Z := y11_both) (S := rm11_both) (As := [.int v3, .int ((1 : Int32) + (xm_gi M (b + 156) (Int32.toNatClampNeg v1))), .int (0 : Int32), .long (((1 : Int64) <<< (Int32.toInt64 ((32 : Int32) - (xm_gi M (b + 158) (Int32.toNatClampNeg v1))) &&& 63)) - (1 : Int64)), .long (0 : Int64)]) (rest := []) d11_further_202 ml11_111 k11_both rfl (b := (b + 154)) (hS.1 _ _ (sh_154 b)) rfl rfl (Nat.le_of_ble_eq_true rfl) ⟨⟨by decide, by decide⟩, by decide, by decide⟩ ⟨rfl, rfl⟩ h (fun M14 h => ?_)
    obtain ⟨hS, h⟩ := h
    refine x_goto d11_further_205 (t := 345) (by decide) ?_
    exact x_ret (r := none) d11_further_345 xm_rN rfl ⟨Nat.le_refl _, Nat.le_refl _⟩ (h hS)
  by_cases e8 : (xm_gi M (b + 155) (Int32.toNatClampNeg v1)) = (8 : Int32)
  · have h := hsw.2.2.2.2.2.1 e8
    refine x_swIn d11_further_35 8 (by rw [e8]; rfl) ⟨by decide, by decide⟩ rfl (t := 208) (by decide) ?_
    refine x_aload_n d11_further_208 3 rfl rfl ?_
    refine x_iload_n d11_further_209 6 rfl rfl ?_
    refine x_iload d11_further_210 2 rfl ?_
    refine x_iconst d11_further_212 qi_0 ?_
    refine x_ldc2 d11_further_213 lc11_115 ?_
    refine x_lconst d11_further_216 ql_0 ?_
    refine x_cVN (Z := y11_both) (S := rm11_both) (As := [.int v3, .int ((1 : Int32) + (xm_gi M (b + 156) (Int32.toNatClampNeg v1))), .int (0 : Int32), .long (255 : Int64), .long (0 : Int64)]) (rest := []) d11_further_217 ml11_111 k11_both rfl (b := (b + 154)) (hS.1 _ _ (sh_154 b)) rfl rfl (Nat.le_of_ble_eq_true rfl) ⟨⟨by decide, by decide⟩, by decide, by decide⟩ ⟨rfl, rfl⟩ h (fun M16 h => ?_)
    obtain ⟨hS, h⟩ := h
    refine x_goto d11_further_220 (t := 345) (by decide) ?_
    exact x_ret (r := none) d11_further_345 xm_rN rfl ⟨Nat.le_refl _, Nat.le_refl _⟩ (h hS)
  by_cases e9 : (xm_gi M (b + 155) (Int32.toNatClampNeg v1)) = (9 : Int32)
  · have h := hsw.2.2.2.2.2.2.1 e9
    refine x_swIn d11_further_35 9 (by rw [e9]; rfl) ⟨by decide, by decide⟩ rfl (t := 223) (by decide) ?_
    refine x_aload_n d11_further_223 3 rfl rfl ?_
    refine x_iload_n d11_further_224 6 rfl rfl ?_
    refine x_iload d11_further_225 2 rfl ?_
    refine x_iconst d11_further_227 qi_0 ?_
    refine x_ldc2 d11_further_228 lc11_117 ?_
    refine x_lconst d11_further_231 ql_0 ?_
    refine x_cVN (Z := y11_both) (S := rm11_both) (As := [.int v3, .int ((1 : Int32) + (xm_gi M (b + 156) (Int32.toNatClampNeg v1))), .int (0 : Int32), .long (65535 : Int64), .long (0 : Int64)]) (rest := []) d11_further_232 ml11_111 k11_both rfl (b := (b + 154)) (hS.1 _ _ (sh_154 b)) rfl rfl (Nat.le_of_ble_eq_true rfl) ⟨⟨by decide, by decide⟩, by decide, by decide⟩ ⟨rfl, rfl⟩ h (fun M18 h => ?_)
    obtain ⟨hS, h⟩ := h
    refine x_goto d11_further_235 (t := 345) (by decide) ?_
    exact x_ret (r := none) d11_further_345 xm_rN rfl ⟨Nat.le_refl _, Nat.le_refl _⟩ (h hS)
  by_cases e11 : (xm_gi M (b + 155) (Int32.toNatClampNeg v1)) = (11 : Int32)
  · have h := hsw.2.2.2.2.2.2.2.1 e11
    refine x_swIn d11_further_35 11 (by rw [e11]; rfl) ⟨by decide, by decide⟩ rfl (t := 208) (by decide) ?_
    refine x_aload_n d11_further_208 3 rfl rfl ?_
    refine x_iload_n d11_further_209 6 rfl rfl ?_
    refine x_iload d11_further_210 2 rfl ?_
    refine x_iconst d11_further_212 qi_0 ?_
    refine x_ldc2 d11_further_213 lc11_115 ?_
    refine x_lconst d11_further_216 ql_0 ?_
    refine x_cVN (Z := y11_both) (S := rm11_both) (As := [.int v3, .int ((1 : Int32) + (xm_gi M (b + 156) (Int32.toNatClampNeg v1))), .int (0 : Int32), .long (255 : Int64), .long (0 : Int64)]) (rest := []) d11_further_217 ml11_111 k11_both rfl (b := (b + 154)) (hS.1 _ _ (sh_154 b)) rfl rfl (Nat.le_of_ble_eq_true rfl) ⟨⟨by decide, by decide⟩, by decide, by decide⟩ ⟨rfl, rfl⟩ h (fun M20 h => ?_)
    obtain ⟨hS, h⟩ := h
    refine x_goto d11_further_220 (t := 345) (by decide) ?_
    exact x_ret (r := none) d11_further_345 xm_rN rfl ⟨Nat.le_refl _, Nat.le_refl _⟩ (h hS)
  by_cases e14 : (xm_gi M (b + 155) (Int32.toNatClampNeg v1)) = (14 : Int32)
  · have h := hsw.2.2.2.2.2.2.2.2.1 e14
    refine x_swIn d11_further_35 14 (by rw [e14]; rfl) ⟨by decide, by decide⟩ rfl (t := 238) (by decide) ?_
    refine x_iload d11_further_238 2 rfl ?_
    refine x_iload d11_further_240 1 rfl ?_
    refine x_icmp_eq d11_further_242 (t := 259) (by decide) (fun g => ?_) (fun g => ?_)
    · have h := h.1 g
      refine x_iload d11_further_259 2 rfl ?_
      refine x_iload d11_further_261 1 rfl ?_
      refine x_icmp_eq d11_further_263 (t := 345) (by decide) (fun g => ?_) (fun g => ?_)
      · have h := h.1 g
        exact x_ret (r := none) d11_further_345 xm_rN rfl ⟨Nat.le_refl _, Nat.le_refl _⟩ (h hS)
      · have h := h.2 g
        refine x_iload_n d11_further_266 5 rfl rfl ?_
        refine x_iconst d11_further_267 qi_1 ?_
        refine x_icmp_ne d11_further_268 (t := 345) (by decide) (fun g => ?_) (fun g => ?_)
        · have h := h.1 g
          exact x_ret (r := none) d11_further_345 xm_rN rfl ⟨Nat.le_refl _, Nat.le_refl _⟩ (h hS)
        · have h := h.2 g
          refine x_aload_n d11_further_271 3 rfl rfl ?_
          refine x_iload_n d11_further_272 6 rfl rfl ?_
          refine x_iload d11_further_273 2 rfl ?_
          refine x_iload d11_further_275 1 rfl ?_
          refine x_ldc2 d11_further_277 lc11_119 ?_
          refine x_cVN (Z := y11_step) (S := rm11_step) (As := [.int v3, .int ((1 : Int32) + (xm_gi M (b + 156) (Int32.toNatClampNeg v1))), .int ((1 : Int32) + (xm_gi M (b + 157) (Int32.toNatClampNeg v1))), .long (-1 : Int64)]) (rest := []) d11_further_280 ml11_107 k11_step rfl (b := (b + 154)) (hS.1 _ _ (sh_154 b)) rfl rfl (Nat.le_of_ble_eq_true rfl) ⟨⟨by decide, by decide⟩, by decide, by decide⟩ ⟨rfl, rfl⟩ h (fun M22 h => ?_)
          obtain ⟨hS, h⟩ := h
          refine x_goto d11_further_283 (t := 345) (by decide) ?_
          exact x_ret (r := none) d11_further_345 xm_rN rfl ⟨Nat.le_refl _, Nat.le_refl _⟩ (h hS)
    · have h := h.2 g
      refine x_iload_n d11_further_245 5 rfl rfl ?_
      refine x_if_ne d11_further_246 (t := 259) (by decide) (fun g => ?_) (fun g => ?_)
      · have h := h.1 g
        refine x_iload d11_further_259 2 rfl ?_
        refine x_iload d11_further_261 1 rfl ?_
        refine x_icmp_eq d11_further_263 (t := 345) (by decide) (fun g => ?_) (fun g => ?_)
        · have h := h.1 g
          exact x_ret (r := none) d11_further_345 xm_rN rfl ⟨Nat.le_refl _, Nat.le_refl _⟩ (h hS)
        · have h := h.2 g
          refine x_iload_n d11_further_266 5 rfl rfl ?_
          refine x_iconst d11_further_267 qi_1 ?_
          refine x_icmp_ne d11_further_268 (t := 345) (by decide) (fun g => ?_) (fun g => ?_)
          · have h := h.1 g
            exact x_ret (r := none) d11_further_345 xm_rN rfl ⟨Nat.le_refl _, Nat.le_refl _⟩ (h hS)
          · have h := h.2 g
            refine x_aload_n d11_further_271 3 rfl rfl ?_
            refine x_iload_n d11_further_272 6 rfl rfl ?_
            refine x_iload d11_further_273 2 rfl ?_
            refine x_iload d11_further_275 1 rfl ?_
            refine x_ldc2 d11_further_277 lc11_119 ?_
            refine x_cVN (Z := y11_step) (S := rm11_step) (As := [.int v3, .int ((1 : Int32) + (xm_gi M (b + 156) (Int32.toNatClampNeg v1))), .int ((1 : Int32) + (xm_gi M (b + 157) (Int32.toNatClampNeg v1))), .long (-1 : Int64)]) (rest := []) d11_further_280 ml11_107 k11_step rfl (b := (b + 154)) (hS.1 _ _ (sh_154 b)) rfl rfl (Nat.le_of_ble_eq_true rfl) ⟨⟨by decide, by decide⟩, by decide, by decide⟩ ⟨rfl, rfl⟩ h (fun M24 h => ?_)
            obtain ⟨hS, h⟩ := h
            refine x_goto d11_further_283 (t := 345) (by decide) ?_
            exact x_ret (r := none) d11_further_345 xm_rN rfl ⟨Nat.le_refl _, Nat.le_refl _⟩ (h hS)
      · have h := h.2 g
        refine x_aload_n d11_further_249 3 rfl rfl ?_
        refine x_iload_n d11_further_250 6 rfl rfl ?_
        refine x_iload d11_further_251 1 rfl ?_
        refine x_iload d11_further_253 2 rfl ?_
        refine x_lconst d11_further_255 ql_0 ?_
        refine x_cVN (Z := y11_step) (S := rm11_step) (As := [.int v3, .int ((1 : Int32) + (xm_gi M (b + 157) (Int32.toNatClampNeg v1))), .int ((1 : Int32) + (xm_gi M (b + 156) (Int32.toNatClampNeg v1))), .long (0 : Int64)]) (rest := []) d11_further_256 ml11_107 k11_step rfl (b := (b + 154)) (hS.1 _ _ (sh_154 b)) rfl rfl (Nat.le_of_ble_eq_true rfl) ⟨⟨by decide, by decide⟩, by decide, by decide⟩ ⟨rfl, rfl⟩ h (fun M26 h => ?_)
        obtain ⟨hS, h⟩ := h
        refine x_iload d11_further_259 2 rfl ?_
        refine x_iload d11_further_261 1 rfl ?_
        refine x_icmp_eq d11_further_263 (t := 345) (by decide) (fun g => ?_) (fun g => ?_)
        · have h := h.1 g
          exact x_ret (r := none) d11_further_345 xm_rN rfl ⟨Nat.le_refl _, Nat.le_refl _⟩ (h hS)
        · have h := h.2 g
          refine x_iload_n d11_further_266 5 rfl rfl ?_
          refine x_iconst d11_further_267 qi_1 ?_
          refine x_icmp_ne d11_further_268 (t := 345) (by decide) (fun g => ?_) (fun g => ?_)
          · have h := h.1 g
            exact x_ret (r := none) d11_further_345 xm_rN rfl ⟨Nat.le_refl _, Nat.le_refl _⟩ (h hS)
          · have h := h.2 g
            refine x_aload_n d11_further_271 3 rfl rfl ?_
            refine x_iload_n d11_further_272 6 rfl rfl ?_
            refine x_iload d11_further_273 2 rfl ?_
            refine x_iload d11_further_275 1 rfl ?_
            refine x_ldc2 d11_further_277 lc11_119 ?_
            refine x_cVN (Z := y11_step) (S := rm11_step) (As := [.int v3, .int ((1 : Int32) + (xm_gi M (b + 156) (Int32.toNatClampNeg v1))), .int ((1 : Int32) + (xm_gi M (b + 157) (Int32.toNatClampNeg v1))), .long (-1 : Int64)]) (rest := []) d11_further_280 ml11_107 k11_step rfl (b := (b + 154)) (hS.1 _ _ (sh_154 b)) rfl rfl (Nat.le_of_ble_eq_true rfl) ⟨⟨by decide, by decide⟩, by decide, by decide⟩ ⟨rfl, rfl⟩ h (fun M28 h => ?_)
            obtain ⟨hS, h⟩ := h
            refine x_goto d11_further_283 (t := 345) (by decide) ?_
            exact x_ret (r := none) d11_further_345 xm_rN rfl ⟨Nat.le_refl _, Nat.le_refl _⟩ (h hS)
  by_cases e15 : (xm_gi M (b + 155) (Int32.toNatClampNeg v1)) = (15 : Int32)
  · have h := hsw.2.2.2.2.2.2.2.2.2.1 e15
    refine x_swIn d11_further_35 15 (by rw [e15]; rfl) ⟨by decide, by decide⟩ rfl (t := 286) (by decide) ?_
    refine x_iload_n d11_further_286 5 rfl rfl ?_
    refine x_if_ne d11_further_287 (t := 304) (by decide) (fun g => ?_) (fun g => ?_)
    · have h := h.1 g
      refine x_aload_n d11_further_304 3 rfl rfl ?_
      refine x_iload_n d11_further_305 6 rfl rfl ?_
      refine x_iload d11_further_306 2 rfl ?_
      refine x_iconst d11_further_308 qi_0 ?_
      refine x_lload d11_further_309 0 rfl ?_
      refine x_lconst d11_further_311 ql_1 ?_
      refine x_lsub d11_further_312 ?_
      refine x_cVN (Z := y11_step) (S := rm11_step) (As := [.int v3, .int ((1 : Int32) + (xm_gi M (b + 156) (Int32.toNatClampNeg v1))), .int (0 : Int32), .long ((Int32.toInt64 (xm_gi M (b + 158) (Int32.toNatClampNeg v1))) - (1 : Int64))]) (rest := []) d11_further_313 ml11_107 k11_step rfl (b := (b + 154)) (hS.1 _ _ (sh_154 b)) rfl rfl (Nat.le_of_ble_eq_true rfl) ⟨⟨by decide, by decide⟩, by decide, by decide⟩ ⟨rfl, rfl⟩ h (fun M30 h => ?_)
      obtain ⟨hS, h⟩ := h
      refine x_goto d11_further_316 (t := 345) (by decide) ?_
      exact x_ret (r := none) d11_further_345 xm_rN rfl ⟨Nat.le_refl _, Nat.le_refl _⟩ (h hS)
    · have h := h.2 g
      refine x_aload_n d11_further_290 3 rfl rfl ?_
      refine x_iload_n d11_further_291 6 rfl rfl ?_
      refine x_iconst d11_further_292 qi_0 ?_
      refine x_iload d11_further_293 2 rfl ?_
      refine x_lload d11_further_295 0 rfl ?_
      refine x_lneg d11_further_297 ?_
      refine x_cVN (Z := y11_step) (S := rm11_step) (As := [.int v3, .int (0 : Int32), .int ((1 : Int32) + (xm_gi M (b + 156) (Int32.toNatClampNeg v1))), .long (-(Int32.toInt64 (xm_gi M (b + 158) (Int32.toNatClampNeg v1))))]) (rest := []) d11_further_298 ml11_107 k11_step rfl (b := (b + 154)) (hS.1 _ _ (sh_154 b)) rfl rfl (Nat.le_of_ble_eq_true rfl) ⟨⟨by decide, by decide⟩, by decide, by decide⟩ ⟨rfl, rfl⟩ h (fun M32 h => ?_)
      obtain ⟨hS, h⟩ := h
      refine x_goto d11_further_301 (t := 345) (by decide) ?_
      exact x_ret (r := none) d11_further_345 xm_rN rfl ⟨Nat.le_refl _, Nat.le_refl _⟩ (h hS)
  by_cases e16 : (xm_gi M (b + 155) (Int32.toNatClampNeg v1)) = (16 : Int32)
  · have h := hsw.2.2.2.2.2.2.2.2.2.2.1 e16
    refine x_swIn d11_further_35 16 (by rw [e16]; rfl) ⟨by decide, by decide⟩ rfl (t := 319) (by decide) ?_
    refine x_iload d11_further_319 2 rfl ?_
    refine x_iload d11_further_321 1 rfl ?_
    refine x_icmp_eq d11_further_323 (t := 345) (by decide) (fun g => ?_) (fun g => ?_)
    · have h := h.1 g
      exact x_ret (r := none) d11_further_345 xm_rN rfl ⟨Nat.le_refl _, Nat.le_refl _⟩ (h hS)
    · have h := h.2 g
      refine x_iload_n d11_further_326 5 rfl rfl ?_
      refine x_iconst d11_further_327 qi_1 ?_
      refine x_icmp_ne d11_further_328 (t := 345) (by decide) (fun g => ?_) (fun g => ?_)
      · have h := h.1 g
        exact x_ret (r := none) d11_further_345 xm_rN rfl ⟨Nat.le_refl _, Nat.le_refl _⟩ (h hS)
      · have h := h.2 g
        refine x_aload_n d11_further_331 3 rfl rfl ?_
        refine x_iload_n d11_further_332 6 rfl rfl ?_
        refine x_iload d11_further_333 2 rfl ?_
        refine x_iload d11_further_335 1 rfl ?_
        refine x_lconst d11_further_337 ql_0 ?_
        refine x_lconst d11_further_338 ql_0 ?_
        refine x_cVN (Z := y11_both) (S := rm11_both) (As := [.int v3, .int ((1 : Int32) + (xm_gi M (b + 156) (Int32.toNatClampNeg v1))), .int ((1 : Int32) + (xm_gi M (b + 157) (Int32.toNatClampNeg v1))), .long (0 : Int64), .long (0 : Int64)]) (rest := []) d11_further_339 ml11_111 k11_both rfl (b := (b + 154)) (hS.1 _ _ (sh_154 b)) rfl rfl (Nat.le_of_ble_eq_true rfl) ⟨⟨by decide, by decide⟩, by decide, by decide⟩ ⟨rfl, rfl⟩ h (fun M34 h => ?_)
        obtain ⟨hS, h⟩ := h
        refine x_goto d11_further_342 (t := 345) (by decide) ?_
        exact x_ret (r := none) d11_further_345 xm_rN rfl ⟨Nat.le_refl _, Nat.le_refl _⟩ (h hS)
  have h := hsw.2.2.2.2.2.2.2.2.2.2.2 ⟨e1, e2, e5, e6, e7, e8, e9, e11, e14, e15, e16⟩
  by_cases e3 : (xm_gi M (b + 155) (Int32.toNatClampNeg v1)) = (3 : Int32)
  · refine x_swIn d11_further_35 3 (by rw [e3]; rfl) ⟨by decide, by decide⟩ rfl (t := 345) (by decide) ?_
    exact x_ret (r := none) d11_further_345 xm_rN rfl ⟨Nat.le_refl _, Nat.le_refl _⟩ (h hS)
  by_cases e4 : (xm_gi M (b + 155) (Int32.toNatClampNeg v1)) = (4 : Int32)
  · refine x_swIn d11_further_35 4 (by rw [e4]; rfl) ⟨by decide, by decide⟩ rfl (t := 345) (by decide) ?_
    exact x_ret (r := none) d11_further_345 xm_rN rfl ⟨Nat.le_refl _, Nat.le_refl _⟩ (h hS)
  by_cases e10 : (xm_gi M (b + 155) (Int32.toNatClampNeg v1)) = (10 : Int32)
  · refine x_swIn d11_further_35 10 (by rw [e10]; rfl) ⟨by decide, by decide⟩ rfl (t := 345) (by decide) ?_
    exact x_ret (r := none) d11_further_345 xm_rN rfl ⟨Nat.le_refl _, Nat.le_refl _⟩ (h hS)
  by_cases e12 : (xm_gi M (b + 155) (Int32.toNatClampNeg v1)) = (12 : Int32)
  · refine x_swIn d11_further_35 12 (by rw [e12]; rfl) ⟨by decide, by decide⟩ rfl (t := 345) (by decide) ?_
    exact x_ret (r := none) d11_further_345 xm_rN rfl ⟨Nat.le_refl _, Nat.le_refl _⟩ (h hS)
  by_cases e13 : (xm_gi M (b + 155) (Int32.toNatClampNeg v1)) = (13 : Int32)
  · refine x_swIn d11_further_35 13 (by rw [e13]; rfl) ⟨by decide, by decide⟩ rfl (t := 345) (by decide) ?_
    exact x_ret (r := none) d11_further_345 xm_rN rfl ⟨Nat.le_refl _, Nat.le_refl _⟩ (h hS)
  have n1 := lv_neT (a := 1) e1 (by decide)
  have n2 := lv_neT (a := 2) e2 (by decide)
  have n3 := lv_neT (a := 3) e3 (by decide)
  have n4 := lv_neT (a := 4) e4 (by decide)
  have n5 := lv_neT (a := 5) e5 (by decide)
  have n6 := lv_neT (a := 6) e6 (by decide)
  have n7 := lv_neT (a := 7) e7 (by decide)
  have n8 := lv_neT (a := 8) e8 (by decide)
  have n9 := lv_neT (a := 9) e9 (by decide)
  have n10 := lv_neT (a := 10) e10 (by decide)
  have n11 := lv_neT (a := 11) e11 (by decide)
  have n12 := lv_neT (a := 12) e12 (by decide)
  have n13 := lv_neT (a := 13) e13 (by decide)
  have n14 := lv_neT (a := 14) e14 (by decide)
  have n15 := lv_neT (a := 15) e15 (by decide)
  have n16 := lv_neT (a := 16) e16 (by decide)
  refine x_swOut d11_further_35 (by omega) (t := 345) (by decide) ?_
  exact x_ret (r := none) d11_further_345 xm_rN rfl ⟨Nat.le_refl _, Nat.le_refl _⟩ (h hS)

set_option maxRecDepth 20000 in
theorem t11_sumOf_0 {l : Launch} {E : xm_E} {b : Nat} {c p : Bool} {Q : Option Value → xm_M → Prop} (M : xm_M) (v1 : Int32) (v2 : Int32) (v3 : Int32) (hS : xm_st b c p M)
  (h : (vp_in (((100 : Int32) * v1) + v2) 4800 ∧ (vp_in (((100 : Int32) * v1) + v3) 4800 ∧ (((1125899906842624 : Int64) ≤ (xm_gl M (b + 166) (Int32.toNatClampNeg (((100 : Int32) * v1) + v2))) → (xm_st b c p M → Q none M)) ∧ (¬ (1125899906842624 : Int64) ≤ (xm_gl M (b + 166) (Int32.toNatClampNeg (((100 : Int32) * v1) + v2))) → (((1125899906842624 : Int64) ≤ (xm_gl M (b + 166) (Int32.toNatClampNeg (((100 : Int32) * v1) + v3))) → (xm_st b c p M → Q none M)) ∧ (¬ (1125899906842624 : Int64) ≤ (xm_gl M (b + 166) (Int32.toNatClampNeg (((100 : Int32) * v1) + v3))) → xm_C l E y11_isSum rm11_isSum [.ref (b + 154), .int v1, .int (v2 / (10 : Int32)), .int (v2 - v2 / (10 : Int32) * (10 : Int32)), .int (v3 / (10 : Int32)), .int (v3 - v3 / (10 : Int32) * (10 : Int32))] M (fun r M3 => ∃ r4 : Bool, r = some (.int (xz r4)) ∧ xm_st b c p M3 ∧ (((xz r4) = 0 → (xm_st b c p M3 → Q none M3)) ∧ (¬ (xz r4) = 0 → xm_C l E y11_step rm11_step [.ref (b + 154), .int (((100 : Int32) + ((100 : Int32) * v2)) + v3), .int (v2 / (10 : Int32)), .int (v2 - v2 / (10 : Int32) * (10 : Int32)), .long ((xm_gl M (b + 166) (Int32.toNatClampNeg (((100 : Int32) * v1) + v2))) + (xm_gl M (b + 166) (Int32.toNatClampNeg (((100 : Int32) * v1) + v3))))] M3 (fun r M5 => r = none ∧ xm_st b c p M5 ∧ (xm_st b c p M5 → Q none M5)))))))))))) :
  xm_X l E y11_sumOf rm11_sumOf Q 0 [(0, .ref (b + 154)), (1, .int v1), (2, .int v2), (3, .int v3)] [] 0 0 M := by
  refine x_aload_n d11_sumOf_0 0 rfl rfl ?_
  refine x_getR d11_sumOf_1 fl11_49 (fun _ _ => rfl) (hS.1 _ _ (sh_154 b)) (hS.2.1 _ _ _ (pt_154_20 b)) ?_
  refine x_bipush d11_sumOf_4 qb_100 ?_
  refine x_iload_n d11_sumOf_6 1 rfl rfl ?_
  refine x_imul d11_sumOf_7 ?_
  refine x_iload_n d11_sumOf_8 2 rfl rfl ?_
  refine x_iadd d11_sumOf_9 ?_
  obtain ⟨g1, h⟩ := h
  refine x_lald d11_sumOf_10 (hS.1 _ _ (sh_166 b)) g1 ?_
  refine x_lstore d11_sumOf_11 (by decide) (L' := [(4, .long (xm_gl M (b + 166) (Int32.toNatClampNeg (((100 : Int32) * v1) + v2)))), (0, .ref (b + 154)), (1, .int v1), (2, .int v2), (3, .int v3)]) rfl ?_
  refine x_aload_n d11_sumOf_13 1 rfl rfl ?_
  refine x_getR d11_sumOf_14 fl11_49 (fun _ _ => rfl) (hS.1 _ _ (sh_154 b)) (hS.2.1 _ _ _ (pt_154_20 b)) ?_
  refine x_bipush d11_sumOf_17 qb_100 ?_
  refine x_iload_n d11_sumOf_19 2 rfl rfl ?_
  refine x_imul d11_sumOf_20 ?_
  refine x_iload_n d11_sumOf_21 4 rfl rfl ?_
  refine x_iadd d11_sumOf_22 ?_
  obtain ⟨g2, h⟩ := h
  refine x_lald d11_sumOf_23 (hS.1 _ _ (sh_166 b)) g2 ?_
  refine x_lstore d11_sumOf_24 (by decide) (L' := [(6, .long (xm_gl M (b + 166) (Int32.toNatClampNeg (((100 : Int32) * v1) + v3)))), (4, .long (xm_gl M (b + 166) (Int32.toNatClampNeg (((100 : Int32) * v1) + v2)))), (0, .ref (b + 154)), (1, .int v1), (2, .int v2), (3, .int v3)]) rfl ?_
  refine x_lload d11_sumOf_26 1 rfl ?_
  refine x_ldc2 d11_sumOf_28 lc11_123 ?_
  refine x_lc_ge d11_sumOf_31 d11_sumOf_32 rfl rfl (t := 94) (by decide) (fun g => ?_) (fun g => ?_)
  · have h := h.1 g
    exact x_ret (r := none) d11_sumOf_94 xm_rN rfl ⟨Nat.le_refl _, Nat.le_refl _⟩ (h hS)
  · have h := h.2 g
    refine x_lload d11_sumOf_35 0 rfl ?_
    refine x_ldc2 d11_sumOf_37 lc11_123 ?_
    refine x_lc_ge d11_sumOf_40 d11_sumOf_41 rfl rfl (t := 94) (by decide) (fun g => ?_) (fun g => ?_)
    · have h := h.1 g
      exact x_ret (r := none) d11_sumOf_94 xm_rN rfl ⟨Nat.le_refl _, Nat.le_refl _⟩ (h hS)
    · have h := h.2 g
      refine x_aload_n d11_sumOf_44 2 rfl rfl ?_
      refine x_iload_n d11_sumOf_45 3 rfl rfl ?_
      refine x_iload_n d11_sumOf_46 4 rfl rfl ?_
      refine x_bipush d11_sumOf_47 qb_10 ?_
      refine x_idiv d11_sumOf_49 (by decide) ?_
      refine x_iload_n d11_sumOf_50 4 rfl rfl ?_
      refine x_bipush d11_sumOf_51 qb_10 ?_
      refine x_irem d11_sumOf_53 (by decide) ?_
      refine x_iload_n d11_sumOf_54 5 rfl rfl ?_
      refine x_bipush d11_sumOf_55 qb_10 ?_
      refine x_idiv d11_sumOf_57 (by decide) ?_
      refine x_iload_n d11_sumOf_58 5 rfl rfl ?_
      refine x_bipush d11_sumOf_59 qb_10 ?_
      refine x_irem d11_sumOf_61 (by decide) ?_
      refine x_cVZ (Z := y11_isSum) (S := rm11_isSum) (As := [.int v1, .int (v2 / (10 : Int32)), .int (v2 - v2 / (10 : Int32) * (10 : Int32)), .int (v3 / (10 : Int32)), .int (v3 - v3 / (10 : Int32) * (10 : Int32))]) (rest := []) d11_sumOf_62 ml11_144 k11_isSum rfl (b := (b + 154)) (hS.1 _ _ (sh_154 b)) rfl rfl (Nat.le_of_ble_eq_true rfl) ⟨⟨by decide, by decide⟩, by decide, by decide⟩ ⟨rfl, rfl⟩ h (fun r4 M3 h => ?_)
      obtain ⟨hS, h⟩ := h
      refine x_if_eq d11_sumOf_65 (t := 94) (by decide) (fun g => ?_) (fun g => ?_)
      · have h := h.1 g
        exact x_ret (r := none) d11_sumOf_94 xm_rN rfl ⟨Nat.le_refl _, Nat.le_refl _⟩ (h hS)
      · have h := h.2 g
        refine x_aload_n d11_sumOf_68 2 rfl rfl ?_
        refine x_bipush d11_sumOf_69 qb_100 ?_
        refine x_bipush d11_sumOf_71 qb_100 ?_
        refine x_iload_n d11_sumOf_73 4 rfl rfl ?_
        refine x_imul d11_sumOf_74 ?_
        refine x_iadd d11_sumOf_75 ?_
        refine x_iload_n d11_sumOf_76 5 rfl rfl ?_
        refine x_iadd d11_sumOf_77 ?_
        refine x_iload_n d11_sumOf_78 4 rfl rfl ?_
        refine x_bipush d11_sumOf_79 qb_10 ?_
        refine x_idiv d11_sumOf_81 (by decide) ?_
        refine x_iload_n d11_sumOf_82 4 rfl rfl ?_
        refine x_bipush d11_sumOf_83 qb_10 ?_
        refine x_irem d11_sumOf_85 (by decide) ?_
        refine x_lload d11_sumOf_86 1 rfl ?_
        refine x_lload d11_sumOf_88 0 rfl ?_
        refine x_ladd d11_sumOf_90 ?_
        refine x_cVN (Z := y11_step) (S := rm11_step) (As := [.int (((100 : Int32) + ((100 : Int32) * v2)) + v3), .int (v2 / (10 : Int32)), .int (v2 - v2 / (10 : Int32) * (10 : Int32)), .long ((xm_gl M (b + 166) (Int32.toNatClampNeg (((100 : Int32) * v1) + v2))) + (xm_gl M (b + 166) (Int32.toNatClampNeg (((100 : Int32) * v1) + v3))))]) (rest := []) d11_sumOf_91 ml11_107 k11_step rfl (b := (b + 154)) (hS.1 _ _ (sh_154 b)) rfl rfl (Nat.le_of_ble_eq_true rfl) ⟨⟨by decide, by decide⟩, by decide, by decide⟩ ⟨rfl, rfl⟩ h (fun M5 h => ?_)
        obtain ⟨hS, h⟩ := h
        exact x_ret (r := none) d11_sumOf_94 xm_rN rfl ⟨Nat.le_refl _, Nat.le_refl _⟩ (h hS)

set_option maxRecDepth 20000 in
theorem t11_isSum_0 {l : Launch} {E : xm_E} {b : Nat} {c p : Bool} {Q : Option Value → xm_M → Prop} (M : xm_M) (v1 : Int32) (v2 : Int32) (v3 : Int32) (v4 : Int32) (v5 : Int32) (hS : xm_st b c p M)
  (h : (vp_in v1 48 ∧ (vp_in v1 48 ∧ ((¬ ((1 : Int32) + (xm_gi M (b + 156) (Int32.toNatClampNeg v1))) = ((1 : Int32) + (xm_gi M (b + 157) (Int32.toNatClampNeg v1))) → ((¬ v2 = ((1 : Int32) + (xm_gi M (b + 156) (Int32.toNatClampNeg v1))) → ((¬ v3 = ((1 : Int32) + (xm_gi M (b + 156) (Int32.toNatClampNeg v1))) → (xm_st b c p M → Q (some (.int (0 : Int32))) M)) ∧ (v3 = ((1 : Int32) + (xm_gi M (b + 156) (Int32.toNatClampNeg v1))) → ((v2 = ((1 : Int32) + (xm_gi M (b + 157) (Int32.toNatClampNeg v1))) → (xm_st b c p M → Q (some (.int (0 : Int32))) M)) ∧ (¬ v2 = ((1 : Int32) + (xm_gi M (b + 157) (Int32.toNatClampNeg v1))) → ((¬ v4 = 0 → (xm_st b c p M → Q (some (.int (0 : Int32))) M)) ∧ (v4 = 0 → ((¬ v5 = ((1 : Int32) + (xm_gi M (b + 157) (Int32.toNatClampNeg v1))) → (xm_st b c p M → Q (some (.int (0 : Int32))) M)) ∧ (v5 = ((1 : Int32) + (xm_gi M (b + 157) (Int32.toNatClampNeg v1))) → (xm_st b c p M → Q (some (.int (1 : Int32))) M)))))))))) ∧ (v2 = ((1 : Int32) + (xm_gi M (b + 156) (Int32.toNatClampNeg v1))) → ((v3 = ((1 : Int32) + (xm_gi M (b + 157) (Int32.toNatClampNeg v1))) → ((¬ v3 = ((1 : Int32) + (xm_gi M (b + 156) (Int32.toNatClampNeg v1))) → (xm_st b c p M → Q (some (.int (0 : Int32))) M)) ∧ (v3 = ((1 : Int32) + (xm_gi M (b + 156) (Int32.toNatClampNeg v1))) → ((v2 = ((1 : Int32) + (xm_gi M (b + 157) (Int32.toNatClampNeg v1))) → (xm_st b c p M → Q (some (.int (0 : Int32))) M)) ∧ (¬ v2 = ((1 : Int32) + (xm_gi M (b + 157) (Int32.toNatClampNeg v1))) → ((¬ v4 = 0 → (xm_st b c p M → Q (some (.int (0 : Int32))) M)) ∧ (v4 = 0 → ((¬ v5 = ((1 : Int32) + (xm_gi M (b + 157) (Int32.toNatClampNeg v1))) → (xm_st b c p M → Q (some (.int (0 : Int32))) M)) ∧ (v5 = ((1 : Int32) + (xm_gi M (b + 157) (Int32.toNatClampNeg v1))) → (xm_st b c p M → Q (some (.int (1 : Int32))) M)))))))))) ∧ (¬ v3 = ((1 : Int32) + (xm_gi M (b + 157) (Int32.toNatClampNeg v1))) → ((¬ v4 = ((1 : Int32) + (xm_gi M (b + 157) (Int32.toNatClampNeg v1))) → ((¬ v3 = ((1 : Int32) + (xm_gi M (b + 156) (Int32.toNatClampNeg v1))) → (xm_st b c p M → Q (some (.int (0 : Int32))) M)) ∧ (v3 = ((1 : Int32) + (xm_gi M (b + 156) (Int32.toNatClampNeg v1))) → ((v2 = ((1 : Int32) + (xm_gi M (b + 157) (Int32.toNatClampNeg v1))) → (xm_st b c p M → Q (some (.int (0 : Int32))) M)) ∧ (¬ v2 = ((1 : Int32) + (xm_gi M (b + 157) (Int32.toNatClampNeg v1))) → ((¬ v4 = 0 → (xm_st b c p M → Q (some (.int (0 : Int32))) M)) ∧ (v4 = 0 → ((¬ v5 = ((1 : Int32) + (xm_gi M (b + 157) (Int32.toNatClampNeg v1))) → (xm_st b c p M → Q (some (.int (0 : Int32))) M)) ∧ (v5 = ((1 : Int32) + (xm_gi M (b + 157) (Int32.toNatClampNeg v1))) → (xm_st b c p M → Q (some (.int (1 : Int32))) M)))))))))) ∧ (v4 = ((1 : Int32) + (xm_gi M (b + 157) (Int32.toNatClampNeg v1))) → ((v5 = 0 → (xm_st b c p M → Q (some (.int (1 : Int32))) M)) ∧ (¬ v5 = 0 → ((¬ v3 = ((1 : Int32) + (xm_gi M (b + 156) (Int32.toNatClampNeg v1))) → (xm_st b c p M → Q (some (.int (0 : Int32))) M)) ∧ (v3 = ((1 : Int32) + (xm_gi M (b + 156) (Int32.toNatClampNeg v1))) → ((v2 = ((1 : Int32) + (xm_gi M (b + 157) (Int32.toNatClampNeg v1))) → (xm_st b c p M → Q (some (.int (0 : Int32))) M)) ∧ (¬ v2 = ((1 : Int32) + (xm_gi M (b + 157) (Int32.toNatClampNeg v1))) → ((¬ v4 = 0 → (xm_st b c p M → Q (some (.int (0 : Int32))) M)) ∧ (v4 = 0 → ((¬ v5 = ((1 : Int32) + (xm_gi M (b + 157) (Int32.toNatClampNeg v1))) → (xm_st b c p M → Q (some (.int (0 : Int32))) M)) ∧ (v5 = ((1 : Int32) + (xm_gi M (b + 157) (Int32.toNatClampNeg v1))) → (xm_st b c p M → Q (some (.int (1 : Int32))) M)))))))))))))))))) ∧ (((1 : Int32) + (xm_gi M (b + 156) (Int32.toNatClampNeg v1))) = ((1 : Int32) + (xm_gi M (b + 157) (Int32.toNatClampNeg v1))) → (xm_st b c p M → Q (some (.int (0 : Int32))) M)))))) :
  xm_X l E y11_isSum rm11_isSum Q 0 [(0, .ref (b + 154)), (1, .int v1), (2, .int v2), (3, .int v3), (4, .int v4), (5, .int v5)] [] 0 0 M := by
  refine x_iconst d11_isSum_0 qi_1 ?_
  refine x_aload_n d11_isSum_1 0 rfl rfl ?_
  refine x_getR d11_isSum_2 fl11_13 (fun _ _ => rfl) (hS.1 _ _ (sh_154 b)) (hS.2.1 _ _ _ (pt_154_3 b)) ?_
  refine x_iload_n d11_isSum_5 1 rfl rfl ?_
  obtain ⟨g1, h⟩ := h
  refine x_iald d11_isSum_6 (hS.1 _ _ (sh_156 b)) g1 ?_
  refine x_iadd d11_isSum_7 ?_
  refine x_istore d11_isSum_8 (by decide) (L' := [(6, .int ((1 : Int32) + (xm_gi M (b + 156) (Int32.toNatClampNeg v1)))), (0, .ref (b + 154)), (1, .int v1), (2, .int v2), (3, .int v3), (4, .int v4), (5, .int v5)]) rfl ?_
  refine x_iconst d11_isSum_10 qi_1 ?_
  refine x_aload_n d11_isSum_11 1 rfl rfl ?_
  refine x_getR d11_isSum_12 fl11_16 (fun _ _ => rfl) (hS.1 _ _ (sh_154 b)) (hS.2.1 _ _ _ (pt_154_4 b)) ?_
  refine x_iload_n d11_isSum_15 2 rfl rfl ?_
  obtain ⟨g2, h⟩ := h
  refine x_iald d11_isSum_16 (hS.1 _ _ (sh_157 b)) g2 ?_
  refine x_iadd d11_isSum_17 ?_
  refine x_istore d11_isSum_18 (by decide) (L' := [(7, .int ((1 : Int32) + (xm_gi M (b + 157) (Int32.toNatClampNeg v1)))), (6, .int ((1 : Int32) + (xm_gi M (b + 156) (Int32.toNatClampNeg v1)))), (0, .ref (b + 154)), (1, .int v1), (2, .int v2), (3, .int v3), (4, .int v4), (5, .int v5)]) rfl ?_
  refine x_iload d11_isSum_20 1 rfl ?_
  refine x_iload d11_isSum_22 0 rfl ?_
  refine x_icmp_ne d11_isSum_24 (t := 29) (by decide) (fun g => ?_) (fun g => ?_)
  · have h := h.1 g
    refine x_iload_n d11_isSum_29 4 rfl rfl ?_
    refine x_iload d11_isSum_30 1 rfl ?_
    refine x_icmp_ne d11_isSum_32 (t := 53) (by decide) (fun g => ?_) (fun g => ?_)
    · have h := h.1 g
      refine x_iload_n d11_isSum_53 5 rfl rfl ?_
      refine x_iload d11_isSum_54 1 rfl ?_
      refine x_icmp_ne d11_isSum_56 (t := 81) (by decide) (fun g => ?_) (fun g => ?_)
      · have h := h.1 g
        refine x_iconst d11_isSum_81 qi_0 ?_
        exact x_ret (r := (some (.int (0 : Int32)))) d11_isSum_82 (xm_rZ (Or.inl rfl)) rfl ⟨Nat.le_refl _, Nat.le_refl _⟩ (h hS)
      · have h := h.2 g
        refine x_iload_n d11_isSum_59 4 rfl rfl ?_
        refine x_iload d11_isSum_60 0 rfl ?_
        refine x_icmp_eq d11_isSum_62 (t := 81) (by decide) (fun g => ?_) (fun g => ?_)
        · have h := h.1 g
          refine x_iconst d11_isSum_81 qi_0 ?_
          exact x_ret (r := (some (.int (0 : Int32)))) d11_isSum_82 (xm_rZ (Or.inl rfl)) rfl ⟨Nat.le_refl _, Nat.le_refl _⟩ (h hS)
        · have h := h.2 g
          refine x_iload d11_isSum_65 6 rfl ?_
          refine x_if_ne d11_isSum_67 (t := 81) (by decide) (fun g => ?_) (fun g => ?_)
          · have h := h.1 g
            refine x_iconst d11_isSum_81 qi_0 ?_
            exact x_ret (r := (some (.int (0 : Int32)))) d11_isSum_82 (xm_rZ (Or.inl rfl)) rfl ⟨Nat.le_refl _, Nat.le_refl _⟩ (h hS)
          · have h := h.2 g
            refine x_iload d11_isSum_70 7 rfl ?_
            refine x_iload d11_isSum_72 0 rfl ?_
            refine x_icmp_ne d11_isSum_74 (t := 81) (by decide) (fun g => ?_) (fun g => ?_)
            · have h := h.1 g
              refine x_iconst d11_isSum_81 qi_0 ?_
              exact x_ret (r := (some (.int (0 : Int32)))) d11_isSum_82 (xm_rZ (Or.inl rfl)) rfl ⟨Nat.le_refl _, Nat.le_refl _⟩ (h hS)
            · have h := h.2 g
              refine x_iconst d11_isSum_77 qi_1 ?_
              refine x_goto d11_isSum_78 (t := 82) (by decide) ?_
              exact x_ret (r := (some (.int (1 : Int32)))) d11_isSum_82 (xm_rZ (Or.inr rfl)) rfl ⟨Nat.le_refl _, Nat.le_refl _⟩ (h hS)
    · have h := h.2 g
      refine x_iload_n d11_isSum_35 5 rfl rfl ?_
      refine x_iload d11_isSum_36 0 rfl ?_
      refine x_icmp_eq d11_isSum_38 (t := 53) (by decide) (fun g => ?_) (fun g => ?_)
      · have h := h.1 g
        refine x_iload_n d11_isSum_53 5 rfl rfl ?_
        refine x_iload d11_isSum_54 1 rfl ?_
        refine x_icmp_ne d11_isSum_56 (t := 81) (by decide) (fun g => ?_) (fun g => ?_)
        · have h := h.1 g
          refine x_iconst d11_isSum_81 qi_0 ?_
          exact x_ret (r := (some (.int (0 : Int32)))) d11_isSum_82 (xm_rZ (Or.inl rfl)) rfl ⟨Nat.le_refl _, Nat.le_refl _⟩ (h hS)
        · have h := h.2 g
          refine x_iload_n d11_isSum_59 4 rfl rfl ?_
          refine x_iload d11_isSum_60 0 rfl ?_
          refine x_icmp_eq d11_isSum_62 (t := 81) (by decide) (fun g => ?_) (fun g => ?_)
          · have h := h.1 g
            refine x_iconst d11_isSum_81 qi_0 ?_
            exact x_ret (r := (some (.int (0 : Int32)))) d11_isSum_82 (xm_rZ (Or.inl rfl)) rfl ⟨Nat.le_refl _, Nat.le_refl _⟩ (h hS)
          · have h := h.2 g
            refine x_iload d11_isSum_65 6 rfl ?_
            refine x_if_ne d11_isSum_67 (t := 81) (by decide) (fun g => ?_) (fun g => ?_)
            · have h := h.1 g
              refine x_iconst d11_isSum_81 qi_0 ?_
              exact x_ret (r := (some (.int (0 : Int32)))) d11_isSum_82 (xm_rZ (Or.inl rfl)) rfl ⟨Nat.le_refl _, Nat.le_refl _⟩ (h hS)
            · have h := h.2 g
              refine x_iload d11_isSum_70 7 rfl ?_
              refine x_iload d11_isSum_72 0 rfl ?_
              refine x_icmp_ne d11_isSum_74 (t := 81) (by decide) (fun g => ?_) (fun g => ?_)
              · have h := h.1 g
                refine x_iconst d11_isSum_81 qi_0 ?_
                exact x_ret (r := (some (.int (0 : Int32)))) d11_isSum_82 (xm_rZ (Or.inl rfl)) rfl ⟨Nat.le_refl _, Nat.le_refl _⟩ (h hS)
              · have h := h.2 g
                refine x_iconst d11_isSum_77 qi_1 ?_
                refine x_goto d11_isSum_78 (t := 82) (by decide) ?_
                exact x_ret (r := (some (.int (1 : Int32)))) d11_isSum_82 (xm_rZ (Or.inr rfl)) rfl ⟨Nat.le_refl _, Nat.le_refl _⟩ (h hS)
      · have h := h.2 g
        refine x_iload d11_isSum_41 6 rfl ?_
        refine x_iload d11_isSum_43 0 rfl ?_
        refine x_icmp_ne d11_isSum_45 (t := 53) (by decide) (fun g => ?_) (fun g => ?_)
        · have h := h.1 g
          refine x_iload_n d11_isSum_53 5 rfl rfl ?_
          refine x_iload d11_isSum_54 1 rfl ?_
          refine x_icmp_ne d11_isSum_56 (t := 81) (by decide) (fun g => ?_) (fun g => ?_)
          · have h := h.1 g
            refine x_iconst d11_isSum_81 qi_0 ?_
            exact x_ret (r := (some (.int (0 : Int32)))) d11_isSum_82 (xm_rZ (Or.inl rfl)) rfl ⟨Nat.le_refl _, Nat.le_refl _⟩ (h hS)
          · have h := h.2 g
            refine x_iload_n d11_isSum_59 4 rfl rfl ?_
            refine x_iload d11_isSum_60 0 rfl ?_
            refine x_icmp_eq d11_isSum_62 (t := 81) (by decide) (fun g => ?_) (fun g => ?_)
            · have h := h.1 g
              refine x_iconst d11_isSum_81 qi_0 ?_
              exact x_ret (r := (some (.int (0 : Int32)))) d11_isSum_82 (xm_rZ (Or.inl rfl)) rfl ⟨Nat.le_refl _, Nat.le_refl _⟩ (h hS)
            · have h := h.2 g
              refine x_iload d11_isSum_65 6 rfl ?_
              refine x_if_ne d11_isSum_67 (t := 81) (by decide) (fun g => ?_) (fun g => ?_)
              · have h := h.1 g
                refine x_iconst d11_isSum_81 qi_0 ?_
                exact x_ret (r := (some (.int (0 : Int32)))) d11_isSum_82 (xm_rZ (Or.inl rfl)) rfl ⟨Nat.le_refl _, Nat.le_refl _⟩ (h hS)
              · have h := h.2 g
                refine x_iload d11_isSum_70 7 rfl ?_
                refine x_iload d11_isSum_72 0 rfl ?_
                refine x_icmp_ne d11_isSum_74 (t := 81) (by decide) (fun g => ?_) (fun g => ?_)
                · have h := h.1 g
                  refine x_iconst d11_isSum_81 qi_0 ?_
                  exact x_ret (r := (some (.int (0 : Int32)))) d11_isSum_82 (xm_rZ (Or.inl rfl)) rfl ⟨Nat.le_refl _, Nat.le_refl _⟩ (h hS)
                · have h := h.2 g
                  refine x_iconst d11_isSum_77 qi_1 ?_
                  refine x_goto d11_isSum_78 (t := 82) (by decide) ?_
                  exact x_ret (r := (some (.int (1 : Int32)))) d11_isSum_82 (xm_rZ (Or.inr rfl)) rfl ⟨Nat.le_refl _, Nat.le_refl _⟩ (h hS)
        · have h := h.2 g
          refine x_iload d11_isSum_48 7 rfl ?_
          refine x_if_eq d11_isSum_50 (t := 77) (by decide) (fun g => ?_) (fun g => ?_)
          · have h := h.1 g
            refine x_iconst d11_isSum_77 qi_1 ?_
            refine x_goto d11_isSum_78 (t := 82) (by decide) ?_
            exact x_ret (r := (some (.int (1 : Int32)))) d11_isSum_82 (xm_rZ (Or.inr rfl)) rfl ⟨Nat.le_refl _, Nat.le_refl _⟩ (h hS)
          · have h := h.2 g
            refine x_iload_n d11_isSum_53 5 rfl rfl ?_
            refine x_iload d11_isSum_54 1 rfl ?_
            refine x_icmp_ne d11_isSum_56 (t := 81) (by decide) (fun g => ?_) (fun g => ?_)
            · have h := h.1 g
              refine x_iconst d11_isSum_81 qi_0 ?_
              exact x_ret (r := (some (.int (0 : Int32)))) d11_isSum_82 (xm_rZ (Or.inl rfl)) rfl ⟨Nat.le_refl _, Nat.le_refl _⟩ (h hS)
            · have h := h.2 g
              refine x_iload_n d11_isSum_59 4 rfl rfl ?_
              refine x_iload d11_isSum_60 0 rfl ?_
              refine x_icmp_eq d11_isSum_62 (t := 81) (by decide) (fun g => ?_) (fun g => ?_)
              · have h := h.1 g
                refine x_iconst d11_isSum_81 qi_0 ?_
                exact x_ret (r := (some (.int (0 : Int32)))) d11_isSum_82 (xm_rZ (Or.inl rfl)) rfl ⟨Nat.le_refl _, Nat.le_refl _⟩ (h hS)
              · have h := h.2 g
                refine x_iload d11_isSum_65 6 rfl ?_
                refine x_if_ne d11_isSum_67 (t := 81) (by decide) (fun g => ?_) (fun g => ?_)
                · have h := h.1 g
                  refine x_iconst d11_isSum_81 qi_0 ?_
                  exact x_ret (r := (some (.int (0 : Int32)))) d11_isSum_82 (xm_rZ (Or.inl rfl)) rfl ⟨Nat.le_refl _, Nat.le_refl _⟩ (h hS)
                · have h := h.2 g
                  refine x_iload d11_isSum_70 7 rfl ?_
                  refine x_iload d11_isSum_72 0 rfl ?_
                  refine x_icmp_ne d11_isSum_74 (t := 81) (by decide) (fun g => ?_) (fun g => ?_)
                  · have h := h.1 g
                    refine x_iconst d11_isSum_81 qi_0 ?_
                    exact x_ret (r := (some (.int (0 : Int32)))) d11_isSum_82 (xm_rZ (Or.inl rfl)) rfl ⟨Nat.le_refl _, Nat.le_refl _⟩ (h hS)
                  · have h := h.2 g
                    refine x_iconst d11_isSum_77 qi_1 ?_
                    refine x_goto d11_isSum_78 (t := 82) (by decide) ?_
                    exact x_ret (r := (some (.int (1 : Int32)))) d11_isSum_82 (xm_rZ (Or.inr rfl)) rfl ⟨Nat.le_refl _, Nat.le_refl _⟩ (h hS)
  · have h := h.2 g
    refine x_iconst d11_isSum_27 qi_0 ?_
    exact x_ret (r := (some (.int (0 : Int32)))) d11_isSum_28 (xm_rZ (Or.inl rfl)) rfl ⟨Nat.le_refl _, Nat.le_refl _⟩ (h hS)

set_option maxRecDepth 20000 in
theorem t11_need_0 {l : Launch} {E : xm_E} {b : Nat} {c p : Bool} {Q : Option Value → xm_M → Prop} (M : xm_M) (v1 : Int32) (hS : xm_st b c p M)
  (h : (xm_st b c p M → xm_X l E y11_need rm11_need Q 2 [(0, .ref (b + 154)), (1, .int v1), (2, .int (0 : Int32))] [] 0 0 M)) :
  xm_X l E y11_need rm11_need Q 0 [(0, .ref (b + 154)), (1, .int v1)] [] 0 0 M := by
  refine x_iconst d11_need_0 qi_0 ?_
  refine x_istore_n d11_need_1 rfl (by decide) (L' := [(2, .int (0 : Int32)), (0, .ref (b + 154)), (1, .int v1)]) rfl ?_
  exact xm_X.sub [1, 2, 0] rfl (h hS)
set_option maxRecDepth 20000 in
theorem t11_need_2 {l : Launch} {E : xm_E} {b : Nat} {c p : Bool} {Q : Option Value → xm_M → Prop} (M : xm_M) (v1 : Int32) (v2 : Int32) (hS : xm_st b c p M)
  (h : (((2 : Int32) ≤ v2 → (xm_st b c p M → xm_X l E y11_need rm11_need Q 39 [(0, .ref (b + 154)), (1, .int v1), (2, .int (0 : Int32))] [] 0 0 M)) ∧ (¬ (2 : Int32) ≤ v2 → xm_C l E y11_isAccess rm11_isAccess [.ref (b + 154), .int v1] M (fun r M1 => ∃ r2 : Bool, r = some (.int (xz r2)) ∧ xm_st b c p M1 ∧ (((xz r2) = 0 → (xm_st b c p M1 → xm_X l E y11_need rm11_need Q 39 [(0, .ref (b + 154)), (1, .int v1), (2, .int (0 : Int32))] [] 0 0 M1)) ∧ (¬ (xz r2) = 0 → xm_C l E y11_findBound rm11_findBound [.ref (b + 154), .int v1, .int v2] M1 (fun r M3 => ∃ r4 : Bool, r = some (.int (xz r4)) ∧ xm_st b c p M3 ∧ ((¬ (xz r4) = 0 → xm_C l E y11_needChosen rm11_needChosen [.ref (b + 154), .int v1] M3 (fun r M5 => r = none ∧ xm_st b c p M5 ∧ (xm_st b c p M5 → xm_X l E y11_need rm11_need Q 2 [(0, .ref (b + 154)), (1, .int v1), (2, .int (v2 + Int32.ofInt (1)))] [] 0 0 M5))) ∧ ((xz r4) = 0 → (xm_st b c p M3 → Q (some (.int (0 : Int32))) M3)))))))))) :
  xm_X l E y11_need rm11_need Q 2 [(0, .ref (b + 154)), (1, .int v1), (2, .int v2)] [] 0 0 M := by
  refine x_iload_n d11_need_2 2 rfl rfl ?_
  refine x_iconst d11_need_3 qi_2 ?_
  refine x_icmp_ge d11_need_4 (t := 37) (by decide) (fun g => ?_) (fun g => ?_)
  · have h := h.1 g
    refine x_iconst d11_need_37 qi_0 ?_
    refine x_istore_n d11_need_38 rfl (by decide) (L' := [(2, .int (0 : Int32)), (0, .ref (b + 154)), (1, .int v1)]) rfl ?_
    exact xm_X.sub [1, 2, 0] rfl (h hS)
  · have h := h.2 g
    refine x_aload_n d11_need_7 0 rfl rfl ?_
    refine x_iload_n d11_need_8 1 rfl rfl ?_
    refine x_cVZ (Z := y11_isAccess) (S := rm11_isAccess) (As := [.int v1]) (rest := []) d11_need_9 ml11_190 k11_isAccess rfl (b := (b + 154)) (hS.1 _ _ (sh_154 b)) rfl rfl (Nat.le_of_ble_eq_true rfl) ⟨⟨by decide, by decide⟩, by decide, by decide⟩ ⟨rfl, rfl⟩ h (fun r2 M1 h => ?_)
    obtain ⟨hS, h⟩ := h
    refine x_if_eq d11_need_12 (t := 37) (by decide) (fun g => ?_) (fun g => ?_)
    · have h := h.1 g
      refine x_iconst d11_need_37 qi_0 ?_
      refine x_istore_n d11_need_38 rfl (by decide) (L' := [(2, .int (0 : Int32)), (0, .ref (b + 154)), (1, .int v1)]) rfl ?_
      exact xm_X.sub [1, 2, 0] rfl (h hS)
    · have h := h.2 g
      refine x_aload_n d11_need_15 0 rfl rfl ?_
      refine x_iload_n d11_need_16 1 rfl rfl ?_
      refine x_iload_n d11_need_17 2 rfl rfl ?_
      refine x_cVZ (Z := y11_findBound) (S := rm11_findBound) (As := [.int v1, .int v2]) (rest := []) d11_need_18 ml11_193 k11_findBound rfl (b := (b + 154)) (hS.1 _ _ (sh_154 b)) rfl rfl (Nat.le_of_ble_eq_true rfl) ⟨⟨by decide, by decide⟩, by decide, by decide⟩ ⟨rfl, rfl⟩ h (fun r4 M3 h => ?_)
      obtain ⟨hS, h⟩ := h
      refine x_if_ne d11_need_21 (t := 26) (by decide) (fun g => ?_) (fun g => ?_)
      · have h := h.1 g
        refine x_aload_n d11_need_26 0 rfl rfl ?_
        refine x_iload_n d11_need_27 1 rfl rfl ?_
        refine x_cVN (Z := y11_needChosen) (S := rm11_needChosen) (As := [.int v1]) (rest := []) d11_need_28 ml11_196 k11_needChosen rfl (b := (b + 154)) (hS.1 _ _ (sh_154 b)) rfl rfl (Nat.le_of_ble_eq_true rfl) ⟨⟨by decide, by decide⟩, by decide, by decide⟩ ⟨rfl, rfl⟩ h (fun M5 h => ?_)
        obtain ⟨hS, h⟩ := h
        refine x_iinc d11_need_31 2 rfl rfl (by decide) (L' := [(2, .int (v2 + Int32.ofInt (1))), (0, .ref (b + 154)), (1, .int v1)]) rfl ?_
        refine x_goto d11_need_34 (t := 2) (by decide) ?_
        exact xm_X.sub [1, 2, 0] rfl (h hS)
      · have h := h.2 g
        refine x_iconst d11_need_24 qi_0 ?_
        exact x_ret (r := (some (.int (0 : Int32)))) d11_need_25 (xm_rZ (Or.inl rfl)) rfl ⟨Nat.le_refl _, Nat.le_refl _⟩ (h hS)
set_option maxRecDepth 20000 in
theorem t11_need_39 {l : Launch} {E : xm_E} {b : Nat} {c p : Bool} {Q : Option Value → xm_M → Prop} (M : xm_M) (v1 : Int32) (v2 : Int32) (hS : xm_st b c p M)
  (h : (((2 : Int32) ≤ v2 → xm_C l E y11_factsAt rm11_factsAt [.ref (b + 154), .int v1] M (fun r M1 => ∃ r2 : Int32, r = some (.int r2) ∧ xm_st b c p M1 ∧ (((24 : Int32) < r2 → (xm_st b c p M1 → Q (some (.int (0 : Int32))) M1)) ∧ (¬ (24 : Int32) < r2 → (xm_st b c p M1 → Q (some (.int (1 : Int32))) M1))))) ∧ (¬ (2 : Int32) ≤ v2 → xm_C l E y11_end rm11_end [.ref (b + 154), .int v1, .int v2] M (fun r M3 => ∃ r4 : Int32, r = some (.int r4) ∧ xm_st b c p M3 ∧ ((0 ≤ r4 → xm_C l E y11_stepsOf rm11_stepsOf [.ref (b + 154), .int v1, .int v2] M3 (fun r M5 => r = none ∧ xm_st b c p M5 ∧ (vp_in (((2 : Int32) * v1) + v2) 96 ∧ (((xm_gi M5 (b + 168) (Int32.toNatClampNeg (((2 : Int32) * v1) + v2))) = 0 → (xm_st b c p M5 → xm_X l E y11_need rm11_need Q 97 [(0, .ref (b + 154)), (1, .int v1), (2, .int v2), (3, .int r4), (4, .int (0 : Int32))] [] 0 0 M5)) ∧ (¬ (xm_gi M5 (b + 168) (Int32.toNatClampNeg (((2 : Int32) * v1) + v2))) = 0 → xm_C l E y11_findRound rm11_findRound [.ref (b + 154)] M5 (fun r M8 => ∃ r9 : Int32, r = some (.int r9) ∧ xm_st b c p M8 ∧ ((0 ≤ r9 → xm_C l E y11_needChosen rm11_needChosen [.ref (b + 154), .int v1] M8 (fun r M10 => r = none ∧ xm_st b c p M10 ∧ (xm_st b c p M10 → xm_X l E y11_need rm11_need Q 39 [(0, .ref (b + 154)), (1, .int v1), (2, .int (v2 + Int32.ofInt (1)))] [] 0 0 M10))) ∧ (¬ 0 ≤ r9 → (xm_st b c p M8 → Q (some (.int (0 : Int32))) M8))))))))) ∧ (¬ 0 ≤ r4 → (xm_st b c p M3 → xm_X l E y11_need rm11_need Q 39 [(0, .ref (b + 154)), (1, .int v1), (2, .int (v2 + Int32.ofInt (1)))] [] 0 0 M3))))))) :
  xm_X l E y11_need rm11_need Q 39 [(0, .ref (b + 154)), (1, .int v1), (2, .int v2)] [] 0 0 M := by
  refine x_iload_n d11_need_39 2 rfl rfl ?_
  refine x_iconst d11_need_40 qi_2 ?_
  refine x_icmp_ge d11_need_41 (t := 170) (by decide) (fun g => ?_) (fun g => ?_)
  · have h := h.1 g
    refine x_aload_n d11_need_170 0 rfl rfl ?_
    refine x_iload_n d11_need_171 1 rfl rfl ?_
    refine x_cVI (Z := y11_factsAt) (S := rm11_factsAt) (As := [.int v1]) (rest := []) d11_need_172 ml11_203 k11_factsAt rfl (b := (b + 154)) (hS.1 _ _ (sh_154 b)) rfl rfl (Nat.le_of_ble_eq_true rfl) ⟨⟨by decide, by decide⟩, by decide, by decide⟩ ⟨rfl, rfl⟩ h (fun r2 M1 h => ?_)
    obtain ⟨hS, h⟩ := h
    refine x_bipush d11_need_175 qb_24 ?_
    refine x_icmp_gt d11_need_177 (t := 184) (by decide) (fun g => ?_) (fun g => ?_)
    · have h := h.1 g
      refine x_iconst d11_need_184 qi_0 ?_
      exact x_ret (r := (some (.int (0 : Int32)))) d11_need_185 (xm_rZ (Or.inl rfl)) rfl ⟨Nat.le_refl _, Nat.le_refl _⟩ (h hS)
    · have h := h.2 g
      refine x_iconst d11_need_180 qi_1 ?_
      refine x_goto d11_need_181 (t := 185) (by decide) ?_
      exact x_ret (r := (some (.int (1 : Int32)))) d11_need_185 (xm_rZ (Or.inr rfl)) rfl ⟨Nat.le_refl _, Nat.le_refl _⟩ (h hS)
  · have h := h.2 g
    refine x_aload_n d11_need_44 0 rfl rfl ?_
    refine x_iload_n d11_need_45 1 rfl rfl ?_
    refine x_iload_n d11_need_46 2 rfl rfl ?_
    refine x_cVI (Z := y11_end) (S := rm11_end) (As := [.int v1, .int v2]) (rest := []) d11_need_47 ml11_159 k11_end rfl (b := (b + 154)) (hS.1 _ _ (sh_154 b)) rfl rfl (Nat.le_of_ble_eq_true rfl) ⟨⟨by decide, by decide⟩, by decide, by decide⟩ ⟨rfl, rfl⟩ h (fun r4 M3 h => ?_)
    obtain ⟨hS, h⟩ := h
    refine x_istore_n d11_need_50 rfl (by decide) (L' := [(3, .int r4), (0, .ref (b + 154)), (1, .int v1), (2, .int v2)]) rfl ?_
    refine x_iload_n d11_need_51 0 rfl rfl ?_
    refine x_if_ge d11_need_52 (t := 58) (by decide) (fun g => ?_) (fun g => ?_)
    · have h := h.1 g
      refine x_aload_n d11_need_58 1 rfl rfl ?_
      refine x_iload_n d11_need_59 2 rfl rfl ?_
      refine x_iload_n d11_need_60 3 rfl rfl ?_
      refine x_cVN (Z := y11_stepsOf) (S := rm11_stepsOf) (As := [.int v1, .int v2]) (rest := []) d11_need_61 ml11_163 k11_stepsOf rfl (b := (b + 154)) (hS.1 _ _ (sh_154 b)) rfl rfl (Nat.le_of_ble_eq_true rfl) ⟨⟨by decide, by decide⟩, by decide, by decide⟩ ⟨rfl, rfl⟩ h (fun M5 h => ?_)
      obtain ⟨hS, h⟩ := h
      refine x_aload_n d11_need_64 1 rfl rfl ?_
      refine x_getR d11_need_65 fl11_56 (fun _ _ => rfl) (hS.1 _ _ (sh_154 b)) (hS.2.1 _ _ _ (pt_154_22 b)) ?_
      refine x_iconst d11_need_68 qi_2 ?_
      refine x_iload_n d11_need_69 2 rfl rfl ?_
      refine x_imul d11_need_70 ?_
      refine x_iload_n d11_need_71 3 rfl rfl ?_
      refine x_iadd d11_need_72 ?_
      obtain ⟨g7, h⟩ := h
      refine x_zald d11_need_73 (hS.1 _ _ (sh_168 b)) g7 ?_
      refine x_if_eq d11_need_74 (t := 94) (by decide) (fun g => ?_) (fun g => ?_)
      · have h := h.1 g
        refine x_iconst d11_need_94 qi_0 ?_
        refine x_istore d11_need_95 (by decide) (L' := [(4, .int (0 : Int32)), (3, .int r4), (0, .ref (b + 154)), (1, .int v1), (2, .int v2)]) rfl ?_
        exact xm_X.sub [2, 3, 4, 1, 0] rfl (h hS)
      · have h := h.2 g
        refine x_aload_n d11_need_77 1 rfl rfl ?_
        refine x_cVI (Z := y11_findRound) (S := rm11_findRound) (As := []) (rest := []) d11_need_78 ml11_199 k11_findRound rfl (b := (b + 154)) (hS.1 _ _ (sh_154 b)) rfl rfl (Nat.le_of_ble_eq_true rfl) ⟨⟨by decide, by decide⟩, by decide, by decide⟩ ⟨rfl, rfl⟩ h (fun r9 M8 h => ?_)
        obtain ⟨hS, h⟩ := h
        refine x_if_ge d11_need_81 (t := 86) (by decide) (fun g => ?_) (fun g => ?_)
        · have h := h.1 g
          refine x_aload_n d11_need_86 1 rfl rfl ?_
          refine x_iload_n d11_need_87 2 rfl rfl ?_
          refine x_cVN (Z := y11_needChosen) (S := rm11_needChosen) (As := [.int v1]) (rest := []) d11_need_88 ml11_196 k11_needChosen rfl (b := (b + 154)) (hS.1 _ _ (sh_154 b)) rfl rfl (Nat.le_of_ble_eq_true rfl) ⟨⟨by decide, by decide⟩, by decide, by decide⟩ ⟨rfl, rfl⟩ h (fun M10 h => ?_)
          obtain ⟨hS, h⟩ := h
          refine x_goto d11_need_91 (t := 164) (by decide) ?_
          refine x_iinc d11_need_164 3 rfl rfl (by decide) (L' := [(2, .int (v2 + Int32.ofInt (1))), (3, .int r4), (0, .ref (b + 154)), (1, .int v1)]) rfl ?_
          refine x_goto d11_need_167 (t := 39) (by decide) ?_
          exact xm_X.sub [2, 3, 0] rfl (h hS)
        · have h := h.2 g
          refine x_iconst d11_need_84 qi_0 ?_
          exact x_ret (r := (some (.int (0 : Int32)))) d11_need_85 (xm_rZ (Or.inl rfl)) rfl ⟨Nat.le_refl _, Nat.le_refl _⟩ (h hS)
    · have h := h.2 g
      refine x_goto d11_need_55 (t := 164) (by decide) ?_
      refine x_iinc d11_need_164 3 rfl rfl (by decide) (L' := [(2, .int (v2 + Int32.ofInt (1))), (3, .int r4), (0, .ref (b + 154)), (1, .int v1)]) rfl ?_
      refine x_goto d11_need_167 (t := 39) (by decide) ?_
      exact xm_X.sub [2, 3, 0] rfl (h hS)
set_option maxRecDepth 20000 in
theorem t11_need_97 {l : Launch} {E : xm_E} {b : Nat} {c p : Bool} {Q : Option Value → xm_M → Prop} (M : xm_M) (v1 : Int32) (v2 : Int32) (v3 : Int32) (v4 : Int32) (hS : xm_st b c p M)
  (h : (((100 : Int32) ≤ v4 → (xm_st b c p M → xm_X l E y11_need rm11_need Q 39 [(0, .ref (b + 154)), (1, .int v1), (2, .int (v2 + Int32.ofInt (1)))] [] 0 0 M)) ∧ (¬ (100 : Int32) ≤ v4 → (vp_in (((100 : Int32) * v3) + v4) 4800 ∧ ((¬ (xm_gi M (b + 172) (Int32.toNatClampNeg (((100 : Int32) * v3) + v4))) = 0 → (vp_in (((100 : Int32) * v3) + v4) 4800 ∧ xm_C l E y11_findReason rm11_findReason [.ref (b + 154), .int (v4 / (10 : Int32)), .int (v4 - v4 / (10 : Int32) * (10 : Int32)), .long (xm_gl M (b + 166) (Int32.toNatClampNeg (((100 : Int32) * v3) + v4)))] M (fun r M3 => ∃ r4 : Bool, r = some (.int (xz r4)) ∧ xm_st b c p M3 ∧ ((¬ (xz r4) = 0 → xm_C l E y11_needChosen rm11_needChosen [.ref (b + 154), .int v1] M3 (fun r M5 => r = none ∧ xm_st b c p M5 ∧ (xm_st b c p M5 → xm_X l E y11_need rm11_need Q 97 [(0, .ref (b + 154)), (1, .int v1), (2, .int v2), (3, .int v3), (4, .int (v4 + Int32.ofInt (1)))] [] 0 0 M5))) ∧ ((xz r4) = 0 → (xm_st b c p M3 → Q (some (.int (0 : Int32))) M3)))))) ∧ ((xm_gi M (b + 172) (Int32.toNatClampNeg (((100 : Int32) * v3) + v4))) = 0 → (xm_st b c p M → xm_X l E y11_need rm11_need Q 97 [(0, .ref (b + 154)), (1, .int v1), (2, .int v2), (3, .int v3), (4, .int (v4 + Int32.ofInt (1)))] [] 0 0 M))))))) :
  xm_X l E y11_need rm11_need Q 97 [(0, .ref (b + 154)), (1, .int v1), (2, .int v2), (3, .int v3), (4, .int v4)] [] 0 0 M := by
  refine x_iload d11_need_97 4 rfl ?_
  refine x_bipush d11_need_99 qb_100 ?_
  refine x_icmp_ge d11_need_101 (t := 164) (by decide) (fun g => ?_) (fun g => ?_)
  · have h := h.1 g
    refine x_iinc d11_need_164 2 rfl rfl (by decide) (L' := [(2, .int (v2 + Int32.ofInt (1))), (0, .ref (b + 154)), (1, .int v1), (3, .int v3), (4, .int v4)]) rfl ?_
    refine x_goto d11_need_167 (t := 39) (by decide) ?_
    exact xm_X.sub [1, 2, 0] rfl (h hS)
  · have h := h.2 g
    refine x_aload_n d11_need_104 0 rfl rfl ?_
    refine x_getR d11_need_105 fl11_68 (fun _ _ => rfl) (hS.1 _ _ (sh_154 b)) (hS.2.1 _ _ _ (pt_154_27 b)) ?_
    refine x_bipush d11_need_108 qb_100 ?_
    refine x_iload_n d11_need_110 3 rfl rfl ?_
    refine x_imul d11_need_111 ?_
    refine x_iload d11_need_112 4 rfl ?_
    refine x_iadd d11_need_114 ?_
    obtain ⟨g1, h⟩ := h
    refine x_zald d11_need_115 (hS.1 _ _ (sh_172 b)) g1 ?_
    refine x_if_ne d11_need_116 (t := 122) (by decide) (fun g => ?_) (fun g => ?_)
    · have h := h.1 g
      refine x_aload_n d11_need_122 0 rfl rfl ?_
      refine x_iload d11_need_123 4 rfl ?_
      refine x_bipush d11_need_125 qb_10 ?_
      refine x_idiv d11_need_127 (by decide) ?_
      refine x_iload d11_need_128 4 rfl ?_
      refine x_bipush d11_need_130 qb_10 ?_
      refine x_irem d11_need_132 (by decide) ?_
      refine x_aload_n d11_need_133 0 rfl rfl ?_
      refine x_getR d11_need_134 fl11_49 (fun _ _ => rfl) (hS.1 _ _ (sh_154 b)) (hS.2.1 _ _ _ (pt_154_20 b)) ?_
      refine x_bipush d11_need_137 qb_100 ?_
      refine x_iload_n d11_need_139 3 rfl rfl ?_
      refine x_imul d11_need_140 ?_
      refine x_iload d11_need_141 4 rfl ?_
      refine x_iadd d11_need_143 ?_
      obtain ⟨g2, h⟩ := h
      refine x_lald d11_need_144 (hS.1 _ _ (sh_166 b)) g2 ?_
      refine x_cVZ (Z := y11_findReason) (S := rm11_findReason) (As := [.int (v4 / (10 : Int32)), .int (v4 - v4 / (10 : Int32) * (10 : Int32)), .long (xm_gl M (b + 166) (Int32.toNatClampNeg (((100 : Int32) * v3) + v4)))]) (rest := []) d11_need_145 ml11_173 k11_findReason rfl (b := (b + 154)) (hS.1 _ _ (sh_154 b)) rfl rfl (Nat.le_of_ble_eq_true rfl) ⟨⟨by decide, by decide⟩, by decide, by decide⟩ ⟨rfl, rfl⟩ h (fun r4 M3 h => ?_)
      obtain ⟨hS, h⟩ := h
      refine x_if_ne d11_need_148 (t := 153) (by decide) (fun g => ?_) (fun g => ?_)
      · have h := h.1 g
        refine x_aload_n d11_need_153 0 rfl rfl ?_
        refine x_iload_n d11_need_154 1 rfl rfl ?_
        refine x_cVN (Z := y11_needChosen) (S := rm11_needChosen) (As := [.int v1]) (rest := []) d11_need_155 ml11_196 k11_needChosen rfl (b := (b + 154)) (hS.1 _ _ (sh_154 b)) rfl rfl (Nat.le_of_ble_eq_true rfl) ⟨⟨by decide, by decide⟩, by decide, by decide⟩ ⟨rfl, rfl⟩ h (fun M5 h => ?_)
        obtain ⟨hS, h⟩ := h
        refine x_iinc d11_need_158 4 rfl rfl (by decide) (L' := [(4, .int (v4 + Int32.ofInt (1))), (0, .ref (b + 154)), (1, .int v1), (2, .int v2), (3, .int v3)]) rfl ?_
        refine x_goto d11_need_161 (t := 97) (by decide) ?_
        exact xm_X.sub [1, 2, 3, 4, 0] rfl (h hS)
      · have h := h.2 g
        refine x_iconst d11_need_151 qi_0 ?_
        exact x_ret (r := (some (.int (0 : Int32)))) d11_need_152 (xm_rZ (Or.inl rfl)) rfl ⟨Nat.le_refl _, Nat.le_refl _⟩ (h hS)
    · have h := h.2 g
      refine x_goto d11_need_119 (t := 158) (by decide) ?_
      refine x_iinc d11_need_158 4 rfl rfl (by decide) (L' := [(4, .int (v4 + Int32.ofInt (1))), (0, .ref (b + 154)), (1, .int v1), (2, .int v2), (3, .int v3)]) rfl ?_
      refine x_goto d11_need_161 (t := 97) (by decide) ?_
      exact xm_X.sub [1, 2, 3, 4, 0] rfl (h hS)

set_option maxRecDepth 20000 in
theorem t11_isAccess_0 {l : Launch} {E : xm_E} {b : Nat} {c p : Bool} {Q : Option Value → xm_M → Prop} (M : xm_M) (v1 : Int32) (hS : xm_st b c p M)
  (h : (vp_in v1 48 ∧ (((xm_gi M (b + 155) (Int32.toNatClampNeg v1)) ≤ (7 : Int32) → (xm_st b c p M → Q (some (.int (0 : Int32))) M)) ∧ (¬ (xm_gi M (b + 155) (Int32.toNatClampNeg v1)) ≤ (7 : Int32) → (vp_in v1 48 ∧ (((13 : Int32) ≤ (xm_gi M (b + 155) (Int32.toNatClampNeg v1)) → (xm_st b c p M → Q (some (.int (0 : Int32))) M)) ∧ (¬ (13 : Int32) ≤ (xm_gi M (b + 155) (Int32.toNatClampNeg v1)) → (xm_st b c p M → Q (some (.int (1 : Int32))) M)))))))) :
  xm_X l E y11_isAccess rm11_isAccess Q 0 [(0, .ref (b + 154)), (1, .int v1)] [] 0 0 M := by
  refine x_aload_n d11_isAccess_0 0 rfl rfl ?_
  refine x_getR d11_isAccess_1 fl11_7 (fun _ _ => rfl) (hS.1 _ _ (sh_154 b)) (hS.2.1 _ _ _ (pt_154_2 b)) ?_
  refine x_iload_n d11_isAccess_4 1 rfl rfl ?_
  obtain ⟨g1, h⟩ := h
  refine x_iald d11_isAccess_5 (hS.1 _ _ (sh_155 b)) g1 ?_
  refine x_bipush d11_isAccess_6 qb_7 ?_
  refine x_icmp_le d11_isAccess_8 (t := 26) (by decide) (fun g => ?_) (fun g => ?_)
  · have h := h.1 g
    refine x_iconst d11_isAccess_26 qi_0 ?_
    exact x_ret (r := (some (.int (0 : Int32)))) d11_isAccess_27 (xm_rZ (Or.inl rfl)) rfl ⟨Nat.le_refl _, Nat.le_refl _⟩ (h hS)
  · have h := h.2 g
    refine x_aload_n d11_isAccess_11 0 rfl rfl ?_
    refine x_getR d11_isAccess_12 fl11_7 (fun _ _ => rfl) (hS.1 _ _ (sh_154 b)) (hS.2.1 _ _ _ (pt_154_2 b)) ?_
    refine x_iload_n d11_isAccess_15 1 rfl rfl ?_
    obtain ⟨g2, h⟩ := h
    refine x_iald d11_isAccess_16 (hS.1 _ _ (sh_155 b)) g2 ?_
    refine x_bipush d11_isAccess_17 qb_13 ?_
    refine x_icmp_ge d11_isAccess_19 (t := 26) (by decide) (fun g => ?_) (fun g => ?_)
    · have h := h.1 g
      refine x_iconst d11_isAccess_26 qi_0 ?_
      exact x_ret (r := (some (.int (0 : Int32)))) d11_isAccess_27 (xm_rZ (Or.inl rfl)) rfl ⟨Nat.le_refl _, Nat.le_refl _⟩ (h hS)
    · have h := h.2 g
      refine x_iconst d11_isAccess_22 qi_1 ?_
      refine x_goto d11_isAccess_23 (t := 27) (by decide) ?_
      exact x_ret (r := (some (.int (1 : Int32)))) d11_isAccess_27 (xm_rZ (Or.inr rfl)) rfl ⟨Nat.le_refl _, Nat.le_refl _⟩ (h hS)

set_option maxRecDepth 20000 in
theorem t11_findBound_0 {l : Launch} {E : xm_E} {b : Nat} {c p : Bool} {Q : Option Value → xm_M → Prop} (M : xm_M) (v1 : Int32) (v2 : Int32) (hS : xm_st b c p M)
  (h : (xm_st b c p (xm_pi (xm_pi M (b + 154) 19 (1 : Int32)) (b + 154) 14 (0 : Int32)) → xm_X l E y11_findBound rm11_findBound Q 12 [(0, .ref (b + 154)), (1, .int v1), (2, .int v2), (3, .int (0 : Int32))] [] 0 0 (xm_pi (xm_pi M (b + 154) 19 (1 : Int32)) (b + 154) 14 (0 : Int32)))) :
  xm_X l E y11_findBound rm11_findBound Q 0 [(0, .ref (b + 154)), (1, .int v1), (2, .int v2)] [] 0 0 M := by
  refine x_aload_n d11_findBound_0 0 rfl rfl ?_
  refine x_iconst d11_findBound_1 qi_1 ?_
  refine x_putI d11_findBound_2 fw11_92 (fun _ _ => rfl) rfl rfl (hS.1 _ _ (sh_154 b)) ?_
  refine x_aload_n d11_findBound_5 0 rfl rfl ?_
  refine x_iconst d11_findBound_6 qi_0 ?_
  refine x_putI d11_findBound_7 fw11_100 (fun _ _ => rfl) rfl rfl (hS.pi.1 _ _ (sh_154 b)) ?_
  refine x_iconst d11_findBound_10 qi_0 ?_
  refine x_istore_n d11_findBound_11 rfl (by decide) (L' := [(3, .int (0 : Int32)), (0, .ref (b + 154)), (1, .int v1), (2, .int v2)]) rfl ?_
  exact xm_X.sub [1, 2, 3, 0] rfl (h hS.pi.pi)
set_option maxRecDepth 20000 in
theorem t11_findBound_12 {l : Launch} {E : xm_E} {b : Nat} {c p : Bool} {Q : Option Value → xm_M → Prop} (M : xm_M) (v1 : Int32) (v2 : Int32) (v3 : Int32) (hS : xm_st b c p M)
  (h : (((100 : Int32) ≤ v3 → ((¬ v2 = 0 → (vp_in v1 48 ∧ xm_C l E y11_upper rm11_upper [.ref (b + 154), .int v1] M (fun r M2 => ∃ r3 : Int32, r = some (.int r3) ∧ xm_st b c p M2 ∧ xm_C l E y11_greatest rm11_greatest [.ref (b + 154), .int v1] M2 (fun r M4 => ∃ r5 : Int64, r = some (.long r5) ∧ xm_st b c p M4 ∧ xm_C l E y11_findReason rm11_findReason [.ref (b + 154), .int ((1 : Int32) + (xm_gi M (b + 157) (Int32.toNatClampNeg v1))), .int r3, .long r5] M4 (fun r M6 => ∃ r7 : Bool, r = some (.int (xz r7)) ∧ xm_st b c p M6 ∧ (xm_st b c p M6 → Q (some (.int (xz r7))) M6)))))) ∧ (v2 = 0 → (vp_in v1 48 ∧ (vp_in v1 48 ∧ xm_C l E y11_findReason rm11_findReason [.ref (b + 154), .int (0 : Int32), .int ((1 : Int32) + (xm_gi M (b + 157) (Int32.toNatClampNeg v1))), .long (Int32.toInt64 (xm_gi M (b + 158) (Int32.toNatClampNeg v1)))] M (fun r M10 => ∃ r11 : Bool, r = some (.int (xz r11)) ∧ xm_st b c p M10 ∧ (xm_st b c p M10 → Q (some (.int (xz r11))) M10))))))) ∧ (¬ (100 : Int32) ≤ v3 → (vp_in (((100 : Int32) * v1) + v3) 4800 ∧ (((1125899906842624 : Int64) ≤ (xm_gl M (b + 166) (Int32.toNatClampNeg (((100 : Int32) * v1) + v3))) → (xm_st b c p M → xm_X l E y11_findBound rm11_findBound Q 12 [(0, .ref (b + 154)), (1, .int v1), (2, .int v2), (3, .int (v3 + Int32.ofInt (1)))] [] 0 0 M)) ∧ (¬ (1125899906842624 : Int64) ≤ (xm_gl M (b + 166) (Int32.toNatClampNeg (((100 : Int32) * v1) + v3))) → (vp_in (((100 : Int32) * v1) + v3) 4800 ∧ xm_C l E y11_step rm11_step [.ref (b + 154), .int v3, .int (v3 / (10 : Int32)), .int (v3 - v3 / (10 : Int32) * (10 : Int32)), .long (xm_gl M (b + 166) (Int32.toNatClampNeg (((100 : Int32) * v1) + v3)))] M (fun r M14 => r = none ∧ xm_st b c p M14 ∧ (xm_st b c p M14 → xm_X l E y11_findBound rm11_findBound Q 12 [(0, .ref (b + 154)), (1, .int v1), (2, .int v2), (3, .int (v3 + Int32.ofInt (1)))] [] 0 0 M14))))))))) :
  xm_X l E y11_findBound rm11_findBound Q 12 [(0, .ref (b + 154)), (1, .int v1), (2, .int v2), (3, .int v3)] [] 0 0 M := by
  refine x_iload_n d11_findBound_12 3 rfl rfl ?_
  refine x_bipush d11_findBound_13 qb_100 ?_
  refine x_icmp_ge d11_findBound_15 (t := 66) (by decide) (fun g => ?_) (fun g => ?_)
  · have h := h.1 g
    refine x_iload_n d11_findBound_66 2 rfl rfl ?_
    refine x_if_ne d11_findBound_67 (t := 93) (by decide) (fun g => ?_) (fun g => ?_)
    · have h := h.1 g
      refine x_aload_n d11_findBound_93 0 rfl rfl ?_
      refine x_iconst d11_findBound_94 qi_1 ?_
      refine x_aload_n d11_findBound_95 0 rfl rfl ?_
      refine x_getR d11_findBound_96 fl11_16 (fun _ _ => rfl) (hS.1 _ _ (sh_154 b)) (hS.2.1 _ _ _ (pt_154_4 b)) ?_
      refine x_iload_n d11_findBound_99 1 rfl rfl ?_
      obtain ⟨g1, h⟩ := h
      refine x_iald d11_findBound_100 (hS.1 _ _ (sh_157 b)) g1 ?_
      refine x_iadd d11_findBound_101 ?_
      refine x_aload_n d11_findBound_102 0 rfl rfl ?_
      refine x_iload_n d11_findBound_103 1 rfl rfl ?_
      refine x_cVI (Z := y11_upper) (S := rm11_upper) (As := [.int v1]) (rest := [.int ((1 : Int32) + (xm_gi M (b + 157) (Int32.toNatClampNeg v1))), .ref (b + 154)]) d11_findBound_104 ml11_183 k11_upper rfl (b := (b + 154)) (hS.1 _ _ (sh_154 b)) rfl rfl (Nat.le_of_ble_eq_true rfl) ⟨⟨by decide, by decide⟩, by decide, by decide⟩ ⟨rfl, rfl⟩ h (fun r3 M2 h => ?_)
      obtain ⟨hS, h⟩ := h
      refine x_aload_n d11_findBound_107 0 rfl rfl ?_
      refine x_iload_n d11_findBound_108 1 rfl rfl ?_
      refine x_cVJ (Z := y11_greatest) (S := rm11_greatest) (As := [.int v1]) (rest := [.int r3, .int ((1 : Int32) + (xm_gi M (b + 157) (Int32.toNatClampNeg v1))), .ref (b + 154)]) d11_findBound_109 ml11_186 k11_greatest rfl (b := (b + 154)) (hS.1 _ _ (sh_154 b)) rfl rfl (Nat.le_of_ble_eq_true rfl) ⟨⟨by decide, by decide⟩, by decide, by decide⟩ ⟨rfl, rfl⟩ h (fun r5 M4 h => ?_)
      obtain ⟨hS, h⟩ := h
      refine x_cVZ (Z := y11_findReason) (S := rm11_findReason) (As := [.int ((1 : Int32) + (xm_gi M (b + 157) (Int32.toNatClampNeg v1))), .int r3, .long r5]) (rest := []) d11_findBound_112 ml11_173 k11_findReason rfl (b := (b + 154)) (hS.1 _ _ (sh_154 b)) rfl rfl (Nat.le_of_ble_eq_true rfl) ⟨⟨by decide, by decide⟩, by decide, by decide⟩ ⟨rfl, rfl⟩ h (fun r7 M6 h => ?_)
      obtain ⟨hS, h⟩ := h
      exact x_ret (r := (some (.int (xz r7)))) d11_findBound_115 (xm_rZ (xz_01 _)) rfl ⟨Nat.le_refl _, Nat.le_refl _⟩ (h hS)
    · have h := h.2 g
      refine x_aload_n d11_findBound_70 0 rfl rfl ?_
      refine x_iconst d11_findBound_71 qi_0 ?_
      refine x_iconst d11_findBound_72 qi_1 ?_
      refine x_aload_n d11_findBound_73 0 rfl rfl ?_
      refine x_getR d11_findBound_74 fl11_16 (fun _ _ => rfl) (hS.1 _ _ (sh_154 b)) (hS.2.1 _ _ _ (pt_154_4 b)) ?_
      refine x_iload_n d11_findBound_77 1 rfl rfl ?_
      obtain ⟨g8, h⟩ := h
      refine x_iald d11_findBound_78 (hS.1 _ _ (sh_157 b)) g8 ?_
      refine x_iadd d11_findBound_79 ?_
      refine x_aload_n d11_findBound_80 0 rfl rfl ?_
      refine x_getR d11_findBound_81 fl11_19 (fun _ _ => rfl) (hS.1 _ _ (sh_154 b)) (hS.2.1 _ _ _ (pt_154_5 b)) ?_
      refine x_iload_n d11_findBound_84 1 rfl rfl ?_
      obtain ⟨g9, h⟩ := h
      refine x_iald d11_findBound_85 (hS.1 _ _ (sh_158 b)) g9 ?_
      refine x_i2l d11_findBound_86 ?_
      refine x_cVZ (Z := y11_findReason) (S := rm11_findReason) (As := [.int (0 : Int32), .int ((1 : Int32) + (xm_gi M (b + 157) (Int32.toNatClampNeg v1))), .long (Int32.toInt64 (xm_gi M (b + 158) (Int32.toNatClampNeg v1)))]) (rest := []) d11_findBound_87 ml11_173 k11_findReason rfl (b := (b + 154)) (hS.1 _ _ (sh_154 b)) rfl rfl (Nat.le_of_ble_eq_true rfl) ⟨⟨by decide, by decide⟩, by decide, by decide⟩ ⟨rfl, rfl⟩ h (fun r11 M10 h => ?_)
      obtain ⟨hS, h⟩ := h
      refine x_goto d11_findBound_90 (t := 115) (by decide) ?_
      exact x_ret (r := (some (.int (xz r11)))) d11_findBound_115 (xm_rZ (xz_01 _)) rfl ⟨Nat.le_refl _, Nat.le_refl _⟩ (h hS)
  · have h := h.2 g
    refine x_aload_n d11_findBound_18 0 rfl rfl ?_
    refine x_getR d11_findBound_19 fl11_49 (fun _ _ => rfl) (hS.1 _ _ (sh_154 b)) (hS.2.1 _ _ _ (pt_154_20 b)) ?_
    refine x_bipush d11_findBound_22 qb_100 ?_
    refine x_iload_n d11_findBound_24 1 rfl rfl ?_
    refine x_imul d11_findBound_25 ?_
    refine x_iload_n d11_findBound_26 3 rfl rfl ?_
    refine x_iadd d11_findBound_27 ?_
    obtain ⟨g12, h⟩ := h
    refine x_lald d11_findBound_28 (hS.1 _ _ (sh_166 b)) g12 ?_
    refine x_ldc2 d11_findBound_29 lc11_123 ?_
    refine x_lc_ge d11_findBound_32 d11_findBound_33 rfl rfl (t := 60) (by decide) (fun g => ?_) (fun g => ?_)
    · have h := h.1 g
      refine x_iinc d11_findBound_60 3 rfl rfl (by decide) (L' := [(3, .int (v3 + Int32.ofInt (1))), (0, .ref (b + 154)), (1, .int v1), (2, .int v2)]) rfl ?_
      refine x_goto d11_findBound_63 (t := 12) (by decide) ?_
      exact xm_X.sub [1, 2, 3, 0] rfl (h hS)
    · have h := h.2 g
      refine x_aload_n d11_findBound_36 0 rfl rfl ?_
      refine x_iload_n d11_findBound_37 3 rfl rfl ?_
      refine x_iload_n d11_findBound_38 3 rfl rfl ?_
      refine x_bipush d11_findBound_39 qb_10 ?_
      refine x_idiv d11_findBound_41 (by decide) ?_
      refine x_iload_n d11_findBound_42 3 rfl rfl ?_
      refine x_bipush d11_findBound_43 qb_10 ?_
      refine x_irem d11_findBound_45 (by decide) ?_
      refine x_aload_n d11_findBound_46 0 rfl rfl ?_
      refine x_getR d11_findBound_47 fl11_49 (fun _ _ => rfl) (hS.1 _ _ (sh_154 b)) (hS.2.1 _ _ _ (pt_154_20 b)) ?_
      refine x_bipush d11_findBound_50 qb_100 ?_
      refine x_iload_n d11_findBound_52 1 rfl rfl ?_
      refine x_imul d11_findBound_53 ?_
      refine x_iload_n d11_findBound_54 3 rfl rfl ?_
      refine x_iadd d11_findBound_55 ?_
      obtain ⟨g13, h⟩ := h
      refine x_lald d11_findBound_56 (hS.1 _ _ (sh_166 b)) g13 ?_
      refine x_cVN (Z := y11_step) (S := rm11_step) (As := [.int v3, .int (v3 / (10 : Int32)), .int (v3 - v3 / (10 : Int32) * (10 : Int32)), .long (xm_gl M (b + 166) (Int32.toNatClampNeg (((100 : Int32) * v1) + v3)))]) (rest := []) d11_findBound_57 ml11_107 k11_step rfl (b := (b + 154)) (hS.1 _ _ (sh_154 b)) rfl rfl (Nat.le_of_ble_eq_true rfl) ⟨⟨by decide, by decide⟩, by decide, by decide⟩ ⟨rfl, rfl⟩ h (fun M14 h => ?_)
      obtain ⟨hS, h⟩ := h
      refine x_iinc d11_findBound_60 3 rfl rfl (by decide) (L' := [(3, .int (v3 + Int32.ofInt (1))), (0, .ref (b + 154)), (1, .int v1), (2, .int v2)]) rfl ?_
      refine x_goto d11_findBound_63 (t := 12) (by decide) ?_
      exact xm_X.sub [1, 2, 3, 0] rfl (h hS)

set_option maxRecDepth 20000 in
theorem t11_findReason_0 {l : Launch} {E : xm_E} {b : Nat} {c p : Bool} {Q : Option Value → xm_M → Prop} (M : xm_M) (v1 : Int32) (v2 : Int32) (w3 : Int64) (hS : xm_st b c p M)
  (h : (xm_st b c p M → xm_X l E y11_findReason rm11_findReason Q 3 [(0, .ref (b + 154)), (1, .int v1), (2, .int v2), (3, .long w3), (5, .int (0 : Int32))] [] 0 0 M)) :
  xm_X l E y11_findReason rm11_findReason Q 0 [(0, .ref (b + 154)), (1, .int v1), (2, .int v2), (3, .long w3)] [] 0 0 M := by
  refine x_iconst d11_findReason_0 qi_0 ?_
  refine x_istore d11_findReason_1 (by decide) (L' := [(5, .int (0 : Int32)), (0, .ref (b + 154)), (1, .int v1), (2, .int v2), (3, .long w3)]) rfl ?_
  exact xm_X.sub [1, 2, 3, 4, 0] rfl (h hS)
set_option maxRecDepth 20000 in
theorem t11_findReason_3 {l : Launch} {E : xm_E} {b : Nat} {c p : Bool} {Q : Option Value → xm_M → Prop} (M : xm_M) (v1 : Int32) (v2 : Int32) (w3 : Int64) (v5 : Int32) (hS : xm_st b c p M)
  (h : (((10 : Int32) ≤ v5 → xm_C l E y11_findRests rm11_findRests [.ref (b + 154), .int (1 : Int32)] M (fun r M1 => r = none ∧ xm_st b c p M1 ∧ (xm_st b c p M1 → xm_X l E y11_findReason rm11_findReason Q 44 [(0, .ref (b + 154)), (1, .int v1), (3, .long w3), (5, .int (1 : Int32))] [] 0 0 M1))) ∧ (¬ (10 : Int32) ≤ v5 → ((¬ v5 = v2 → (vp_in v5 130 ∧ (xm_st b c p (xm_pl M (b + 170) (Int32.toNatClampNeg v5) (1125899906842624 : Int64)) → xm_X l E y11_findReason rm11_findReason Q 3 [(0, .ref (b + 154)), (1, .int v1), (2, .int v2), (3, .long w3), (5, .int (v5 + Int32.ofInt (1)))] [] 0 0 (xm_pl M (b + 170) (Int32.toNatClampNeg v5) (1125899906842624 : Int64))))) ∧ (v5 = v2 → (vp_in v5 130 ∧ (xm_st b c p (xm_pl M (b + 170) (Int32.toNatClampNeg v5) (0 : Int64)) → xm_X l E y11_findReason rm11_findReason Q 3 [(0, .ref (b + 154)), (1, .int v1), (2, .int v2), (3, .long w3), (5, .int (v5 + Int32.ofInt (1)))] [] 0 0 (xm_pl M (b + 170) (Int32.toNatClampNeg v5) (0 : Int64))))))))) :
  xm_X l E y11_findReason rm11_findReason Q 3 [(0, .ref (b + 154)), (1, .int v1), (2, .int v2), (3, .long w3), (5, .int v5)] [] 0 0 M := by
  refine x_iload d11_findReason_3 4 rfl ?_
  refine x_bipush d11_findReason_5 qb_10 ?_
  refine x_icmp_ge d11_findReason_7 (t := 36) (by decide) (fun g => ?_) (fun g => ?_)
  · have h := h.1 g
    refine x_iconst d11_findReason_36 qi_1 ?_
    refine x_istore d11_findReason_37 (by decide) (L' := [(5, .int (1 : Int32)), (0, .ref (b + 154)), (1, .int v1), (2, .int v2), (3, .long w3)]) rfl ?_
    refine x_aload_n d11_findReason_39 1 rfl rfl ?_
    refine x_iconst d11_findReason_40 qi_1 ?_
    refine x_cVN (Z := y11_findRests) (S := rm11_findRests) (As := [.int (1 : Int32)]) (rest := []) d11_findReason_41 ml11_167 k11_findRests rfl (b := (b + 154)) (hS.1 _ _ (sh_154 b)) rfl rfl (Nat.le_of_ble_eq_true rfl) ⟨⟨by decide, by decide⟩, by decide, by decide⟩ ⟨rfl, rfl⟩ h (fun M1 h => ?_)
    obtain ⟨hS, h⟩ := h
    exact xm_X.sub [1, 2, 4, 0] rfl (h hS)
  · have h := h.2 g
    refine x_aload_n d11_findReason_10 0 rfl rfl ?_
    refine x_getR d11_findReason_11 fl11_62 (fun _ _ => rfl) (hS.1 _ _ (sh_154 b)) (hS.2.1 _ _ _ (pt_154_24 b)) ?_
    refine x_iload d11_findReason_14 4 rfl ?_
    refine x_iload d11_findReason_16 4 rfl ?_
    refine x_iload_n d11_findReason_18 2 rfl rfl ?_
    refine x_icmp_ne d11_findReason_19 (t := 26) (by decide) (fun g => ?_) (fun g => ?_)
    · have h := h.1 g
      refine x_ldc2 d11_findReason_26 lc11_123 ?_
      obtain ⟨g3, h⟩ := h
      refine x_last d11_findReason_29 (hS.1 _ _ (sh_170 b)) g3 ?_
      refine x_iinc d11_findReason_30 4 rfl rfl (by decide) (L' := [(5, .int (v5 + Int32.ofInt (1))), (0, .ref (b + 154)), (1, .int v1), (2, .int v2), (3, .long w3)]) rfl ?_
      refine x_goto d11_findReason_33 (t := 3) (by decide) ?_
      exact xm_X.sub [1, 2, 3, 4, 0] rfl (h hS.pl)
    · have h := h.2 g
      refine x_lconst d11_findReason_22 ql_0 ?_
      refine x_goto d11_findReason_23 (t := 29) (by decide) ?_
      obtain ⟨g4, h⟩ := h
      refine x_last d11_findReason_29 (hS.1 _ _ (sh_170 b)) g4 ?_
      refine x_iinc d11_findReason_30 4 rfl rfl (by decide) (L' := [(5, .int (v5 + Int32.ofInt (1))), (0, .ref (b + 154)), (1, .int v1), (2, .int v2), (3, .long w3)]) rfl ?_
      refine x_goto d11_findReason_33 (t := 3) (by decide) ?_
      exact xm_X.sub [1, 2, 3, 4, 0] rfl (h hS.pl)
set_option maxRecDepth 20000 in
theorem t11_findReason_44 {l : Launch} {E : xm_E} {b : Nat} {c p : Bool} {Q : Option Value → xm_M → Prop} (M : xm_M) (v1 : Int32) (w3 : Int64) (v5 : Int32) (hS : xm_st b c p M)
  (h : (((12 : Int32) ≤ v5 → (vp_in (((10 : Int32) * v5) + v1) 130 ∧ (((xm_gl M (b + 170) (Int32.toNatClampNeg (((10 : Int32) * v5) + v1))) ≤ w3 → (xm_st b c p (xm_pi M (b + 154) 26 v5) → xm_X l E y11_findReason rm11_findReason Q 114 [(0, .ref (b + 154)), (5, .int v5), (6, .int v1), (7, .long w3), (9, .int (0 : Int32))] [] 0 0 (xm_pi M (b + 154) 26 v5))) ∧ (¬ (xm_gl M (b + 170) (Int32.toNatClampNeg (((10 : Int32) * v5) + v1))) ≤ w3 → (xm_st b c p M → Q (some (.int (0 : Int32))) M))))) ∧ (¬ (12 : Int32) ≤ v5 → (vp_in (((10 : Int32) * v5) + v1) 130 ∧ (((xm_gl M (b + 170) (Int32.toNatClampNeg (((10 : Int32) * v5) + v1))) ≤ w3 → (vp_in (((10 : Int32) * v5) + v1) 130 ∧ (((xm_gl M (b + 170) (Int32.toNatClampNeg (((10 : Int32) * v5) + v1))) ≤ w3 → (xm_st b c p (xm_pi M (b + 154) 26 v5) → xm_X l E y11_findReason rm11_findReason Q 114 [(0, .ref (b + 154)), (5, .int v5), (6, .int v1), (7, .long w3), (9, .int (0 : Int32))] [] 0 0 (xm_pi M (b + 154) 26 v5))) ∧ (¬ (xm_gl M (b + 170) (Int32.toNatClampNeg (((10 : Int32) * v5) + v1))) ≤ w3 → (xm_st b c p M → Q (some (.int (0 : Int32))) M))))) ∧ (¬ (xm_gl M (b + 170) (Int32.toNatClampNeg (((10 : Int32) * v5) + v1))) ≤ w3 → xm_C l E y11_findRests rm11_findRests [.ref (b + 154), .int (v5 + Int32.ofInt (1))] M (fun r M4 => r = none ∧ xm_st b c p M4 ∧ (xm_st b c p M4 → xm_X l E y11_findReason rm11_findReason Q 44 [(0, .ref (b + 154)), (1, .int v1), (3, .long w3), (5, .int (v5 + Int32.ofInt (1)))] [] 0 0 M4)))))))) :
  xm_X l E y11_findReason rm11_findReason Q 44 [(0, .ref (b + 154)), (1, .int v1), (3, .long w3), (5, .int v5)] [] 0 0 M := by
  refine x_iload d11_findReason_44 3 rfl ?_
  refine x_bipush d11_findReason_46 qb_12 ?_
  refine x_icmp_ge d11_findReason_48 (t := 80) (by decide) (fun g => ?_) (fun g => ?_)
  · have h := h.1 g
    refine x_aload_n d11_findReason_80 0 rfl rfl ?_
    refine x_getR d11_findReason_81 fl11_62 (fun _ _ => rfl) (hS.1 _ _ (sh_154 b)) (hS.2.1 _ _ _ (pt_154_24 b)) ?_
    refine x_bipush d11_findReason_84 qb_10 ?_
    refine x_iload d11_findReason_86 3 rfl ?_
    refine x_imul d11_findReason_88 ?_
    refine x_iload_n d11_findReason_89 1 rfl rfl ?_
    refine x_iadd d11_findReason_90 ?_
    obtain ⟨g1, h⟩ := h
    refine x_lald d11_findReason_91 (hS.1 _ _ (sh_170 b)) g1 ?_
    refine x_lload_n d11_findReason_92 2 rfl rfl ?_
    refine x_lc_le d11_findReason_93 d11_findReason_94 rfl rfl (t := 99) (by decide) (fun g => ?_) (fun g => ?_)
    · have h := h.1 g
      refine x_aload_n d11_findReason_99 0 rfl rfl ?_
      refine x_iload d11_findReason_100 3 rfl ?_
      refine x_putI d11_findReason_102 fw11_170 (fun _ _ => rfl) rfl rfl (hS.1 _ _ (sh_154 b)) ?_
      refine x_iload_n d11_findReason_105 1 rfl rfl ?_
      refine x_istore d11_findReason_106 (by decide) (L' := [(6, .int v1), (0, .ref (b + 154)), (1, .int v1), (3, .long w3), (5, .int v5)]) rfl ?_
      refine x_lload_n d11_findReason_108 3 rfl rfl ?_
      refine x_lstore d11_findReason_109 (by decide) (L' := [(7, .long w3), (6, .int v1), (0, .ref (b + 154)), (1, .int v1), (3, .long w3), (5, .int v5)]) rfl ?_
      refine x_iconst d11_findReason_111 qi_0 ?_
      refine x_istore d11_findReason_112 (by decide) (L' := [(9, .int (0 : Int32)), (7, .long w3), (6, .int v1), (0, .ref (b + 154)), (1, .int v1), (3, .long w3), (5, .int v5)]) rfl ?_
      exact xm_X.sub [3, 6, 2, 1, 0] rfl (h hS.pi)
    · have h := h.2 g
      refine x_iconst d11_findReason_97 qi_0 ?_
      exact x_ret (r := (some (.int (0 : Int32)))) d11_findReason_98 (xm_rZ (Or.inl rfl)) rfl ⟨Nat.le_refl _, Nat.le_refl _⟩ (h hS)
  · have h := h.2 g
    refine x_aload_n d11_findReason_51 0 rfl rfl ?_
    refine x_getR d11_findReason_52 fl11_62 (fun _ _ => rfl) (hS.1 _ _ (sh_154 b)) (hS.2.1 _ _ _ (pt_154_24 b)) ?_
    refine x_bipush d11_findReason_55 qb_10 ?_
    refine x_iload d11_findReason_57 3 rfl ?_
    refine x_imul d11_findReason_59 ?_
    refine x_iload_n d11_findReason_60 1 rfl rfl ?_
    refine x_iadd d11_findReason_61 ?_
    obtain ⟨g2, h⟩ := h
    refine x_lald d11_findReason_62 (hS.1 _ _ (sh_170 b)) g2 ?_
    refine x_lload_n d11_findReason_63 2 rfl rfl ?_
    refine x_lc_le d11_findReason_64 d11_findReason_65 rfl rfl (t := 80) (by decide) (fun g => ?_) (fun g => ?_)
    · have h := h.1 g
      refine x_aload_n d11_findReason_80 0 rfl rfl ?_
      refine x_getR d11_findReason_81 fl11_62 (fun _ _ => rfl) (hS.1 _ _ (sh_154 b)) (hS.2.1 _ _ _ (pt_154_24 b)) ?_
      refine x_bipush d11_findReason_84 qb_10 ?_
      refine x_iload d11_findReason_86 3 rfl ?_
      refine x_imul d11_findReason_88 ?_
      refine x_iload_n d11_findReason_89 1 rfl rfl ?_
      refine x_iadd d11_findReason_90 ?_
      obtain ⟨g3, h⟩ := h
      refine x_lald d11_findReason_91 (hS.1 _ _ (sh_170 b)) g3 ?_
      refine x_lload_n d11_findReason_92 2 rfl rfl ?_
      refine x_lc_le d11_findReason_93 d11_findReason_94 rfl rfl (t := 99) (by decide) (fun g => ?_) (fun g => ?_)
      · have h := h.1 g
        refine x_aload_n d11_findReason_99 0 rfl rfl ?_
        refine x_iload d11_findReason_100 3 rfl ?_
        refine x_putI d11_findReason_102 fw11_170 (fun _ _ => rfl) rfl rfl (hS.1 _ _ (sh_154 b)) ?_
        refine x_iload_n d11_findReason_105 1 rfl rfl ?_
        refine x_istore d11_findReason_106 (by decide) (L' := [(6, .int v1), (0, .ref (b + 154)), (1, .int v1), (3, .long w3), (5, .int v5)]) rfl ?_
        refine x_lload_n d11_findReason_108 3 rfl rfl ?_
        refine x_lstore d11_findReason_109 (by decide) (L' := [(7, .long w3), (6, .int v1), (0, .ref (b + 154)), (1, .int v1), (3, .long w3), (5, .int v5)]) rfl ?_
        refine x_iconst d11_findReason_111 qi_0 ?_
        refine x_istore d11_findReason_112 (by decide) (L' := [(9, .int (0 : Int32)), (7, .long w3), (6, .int v1), (0, .ref (b + 154)), (1, .int v1), (3, .long w3), (5, .int v5)]) rfl ?_
        exact xm_X.sub [3, 6, 2, 1, 0] rfl (h hS.pi)
      · have h := h.2 g
        refine x_iconst d11_findReason_97 qi_0 ?_
        exact x_ret (r := (some (.int (0 : Int32)))) d11_findReason_98 (xm_rZ (Or.inl rfl)) rfl ⟨Nat.le_refl _, Nat.le_refl _⟩ (h hS)
    · have h := h.2 g
      refine x_iinc d11_findReason_68 3 rfl rfl (by decide) (L' := [(5, .int (v5 + Int32.ofInt (1))), (0, .ref (b + 154)), (1, .int v1), (3, .long w3)]) rfl ?_
      refine x_aload_n d11_findReason_71 1 rfl rfl ?_
      refine x_iload d11_findReason_72 0 rfl ?_
      refine x_cVN (Z := y11_findRests) (S := rm11_findRests) (As := [.int (v5 + Int32.ofInt (1))]) (rest := []) d11_findReason_74 ml11_167 k11_findRests rfl (b := (b + 154)) (hS.1 _ _ (sh_154 b)) rfl rfl (Nat.le_of_ble_eq_true rfl) ⟨⟨by decide, by decide⟩, by decide, by decide⟩ ⟨rfl, rfl⟩ h (fun M4 h => ?_)
      obtain ⟨hS, h⟩ := h
      refine x_goto d11_findReason_77 (t := 44) (by decide) ?_
      exact xm_X.sub [1, 2, 3, 0] rfl (h hS)
set_option maxRecDepth 20000 in
theorem t11_findReason_114 {l : Launch} {E : xm_E} {b : Nat} {c p : Bool} {Q : Option Value → xm_M → Prop} (M : xm_M) (v5 : Int32) (v6 : Int32) (w7 : Int64) (v9 : Int32) (hS : xm_st b c p M)
  (h : ((v5 ≤ v9 → (xm_st b c p M → Q (some (.int (1 : Int32))) M)) ∧ (¬ v5 ≤ v9 → (xm_st b c p M → xm_X l E y11_findReason rm11_findReason Q 127 [(0, .ref (b + 154)), (5, .int v5), (6, .int v6), (7, .long w7), (9, .int v9), (10, .int (-1 : Int32)), (11, .int (0 : Int32))] [] 0 0 M)))) :
  xm_X l E y11_findReason rm11_findReason Q 114 [(0, .ref (b + 154)), (5, .int v5), (6, .int v6), (7, .long w7), (9, .int v9)] [] 0 0 M := by
  refine x_iload d11_findReason_114 4 rfl ?_
  refine x_iload d11_findReason_116 1 rfl ?_
  refine x_icmp_ge d11_findReason_118 (t := 278) (by decide) (fun g => ?_) (fun g => ?_)
  · have h := h.1 g
    refine x_iconst d11_findReason_278 qi_1 ?_
    exact x_ret (r := (some (.int (1 : Int32)))) d11_findReason_279 (xm_rZ (Or.inr rfl)) rfl ⟨Nat.le_refl _, Nat.le_refl _⟩ (h hS)
  · have h := h.2 g
    refine x_iconst d11_findReason_121 qi_n1 ?_
    refine x_istore d11_findReason_122 (by decide) (L' := [(10, .int (-1 : Int32)), (0, .ref (b + 154)), (5, .int v5), (6, .int v6), (7, .long w7), (9, .int v9)]) rfl ?_
    refine x_iconst d11_findReason_124 qi_0 ?_
    refine x_istore d11_findReason_125 (by decide) (L' := [(11, .int (0 : Int32)), (10, .int (-1 : Int32)), (0, .ref (b + 154)), (5, .int v5), (6, .int v6), (7, .long w7), (9, .int v9)]) rfl ?_
    exact xm_X.sub [2, 3, 4, 5, 6, 1, 0] rfl (h hS)
set_option maxRecDepth 20000 in
theorem t11_findReason_127 {l : Launch} {E : xm_E} {b : Nat} {c p : Bool} {Q : Option Value → xm_M → Prop} (M : xm_M) (v5 : Int32) (v6 : Int32) (w7 : Int64) (v9 : Int32) (v10 : Int32) (v11 : Int32) (hS : xm_st b c p M)
  (h : (((xm_gi M (b + 154) 14) ≤ v11 → (vp_in v9 12 ∧ (vp_in v10 1200 ∧ (vp_in v10 1200 ∧ (xm_st b c p (xm_pi M (b + 171) (Int32.toNatClampNeg v9) v10) → xm_X l E y11_findReason rm11_findReason Q 114 [(0, .ref (b + 154)), (5, .int v5), (6, .int (xm_gi (xm_pi M (b + 171) (Int32.toNatClampNeg v9) v10) (b + 164) (Int32.toNatClampNeg v10))), (7, .long (w7 - (xm_gl (xm_pi M (b + 171) (Int32.toNatClampNeg v9) v10) (b + 165) (Int32.toNatClampNeg v10)))), (9, .int (v9 + Int32.ofInt (1)))] [] 0 0 (xm_pi M (b + 171) (Int32.toNatClampNeg v9) v10)))))) ∧ (¬ (xm_gi M (b + 154) 14) ≤ v11 → (vp_in v11 1200 ∧ (vp_in (((10 : Int32) * ((v5 - (1 : Int32)) - v9)) + (xm_gi M (b + 164) (Int32.toNatClampNeg v11))) 130 ∧ (vp_in v11 1200 ∧ ((¬ (xm_gi M (b + 163) (Int32.toNatClampNeg v11)) = v6 → (xm_st b c p M → xm_X l E y11_findReason rm11_findReason Q 127 [(0, .ref (b + 154)), (5, .int v5), (6, .int v6), (7, .long w7), (9, .int v9), (10, .int v10), (11, .int (v11 + Int32.ofInt (1)))] [] 0 0 M)) ∧ ((xm_gi M (b + 163) (Int32.toNatClampNeg v11)) = v6 → (((1125899906842624 : Int64) ≤ (xm_gl M (b + 170) (Int32.toNatClampNeg (((10 : Int32) * ((v5 - (1 : Int32)) - v9)) + (xm_gi M (b + 164) (Int32.toNatClampNeg v11))))) → (xm_st b c p M → xm_X l E y11_findReason rm11_findReason Q 127 [(0, .ref (b + 154)), (5, .int v5), (6, .int v6), (7, .long w7), (9, .int v9), (10, .int v10), (11, .int (v11 + Int32.ofInt (1)))] [] 0 0 M)) ∧ (¬ (1125899906842624 : Int64) ≤ (xm_gl M (b + 170) (Int32.toNatClampNeg (((10 : Int32) * ((v5 - (1 : Int32)) - v9)) + (xm_gi M (b + 164) (Int32.toNatClampNeg v11))))) → (vp_in v11 1200 ∧ ((w7 < ((xm_gl M (b + 165) (Int32.toNatClampNeg v11)) + (xm_gl M (b + 170) (Int32.toNatClampNeg (((10 : Int32) * ((v5 - (1 : Int32)) - v9)) + (xm_gi M (b + 164) (Int32.toNatClampNeg v11)))))) → (xm_st b c p M → xm_X l E y11_findReason rm11_findReason Q 127 [(0, .ref (b + 154)), (5, .int v5), (6, .int v6), (7, .long w7), (9, .int v9), (10, .int v10), (11, .int (v11 + Int32.ofInt (1)))] [] 0 0 M)) ∧ (¬ w7 < ((xm_gl M (b + 165) (Int32.toNatClampNeg v11)) + (xm_gl M (b + 170) (Int32.toNatClampNeg (((10 : Int32) * ((v5 - (1 : Int32)) - v9)) + (xm_gi M (b + 164) (Int32.toNatClampNeg v11)))))) → ((v10 < 0 → (xm_st b c p M → xm_X l E y11_findReason rm11_findReason Q 127 [(0, .ref (b + 154)), (5, .int v5), (6, .int v6), (7, .long w7), (9, .int v9), (10, .int v11), (11, .int (v11 + Int32.ofInt (1)))] [] 0 0 M)) ∧ (¬ v10 < 0 → (vp_in v11 1200 ∧ (vp_in v10 1200 ∧ (((xm_gi M (b + 162) (Int32.toNatClampNeg v10)) ≤ (xm_gi M (b + 162) (Int32.toNatClampNeg v11)) → (xm_st b c p M → xm_X l E y11_findReason rm11_findReason Q 127 [(0, .ref (b + 154)), (5, .int v5), (6, .int v6), (7, .long w7), (9, .int v9), (10, .int v10), (11, .int (v11 + Int32.ofInt (1)))] [] 0 0 M)) ∧ (¬ (xm_gi M (b + 162) (Int32.toNatClampNeg v10)) ≤ (xm_gi M (b + 162) (Int32.toNatClampNeg v11)) → (xm_st b c p M → xm_X l E y11_findReason rm11_findReason Q 127 [(0, .ref (b + 154)), (5, .int v5), (6, .int v6), (7, .long w7), (9, .int v9), (10, .int v11), (11, .int (v11 + Int32.ofInt (1)))] [] 0 0 M)))))))))))))))))))) :
  xm_X l E y11_findReason rm11_findReason Q 127 [(0, .ref (b + 154)), (5, .int v5), (6, .int v6), (7, .long w7), (9, .int v9), (10, .int v10), (11, .int v11)] [] 0 0 M := by
  refine x_iload d11_findReason_127 6 rfl ?_
  refine x_aload_n d11_findReason_129 0 rfl rfl ?_
  refine x_getI d11_findReason_130 fl11_100 (fun _ _ => rfl) (hS.1 _ _ (sh_154 b)) ?_
  refine x_icmp_ge d11_findReason_133 (t := 242) (by decide) (fun g => ?_) (fun g => ?_)
  · have h := h.1 g
    refine x_aload_n d11_findReason_242 0 rfl rfl ?_
    refine x_getR d11_findReason_243 fl11_65 (fun _ _ => rfl) (hS.1 _ _ (sh_154 b)) (hS.2.1 _ _ _ (pt_154_25 b)) ?_
    refine x_iload d11_findReason_246 4 rfl ?_
    refine x_iload d11_findReason_248 5 rfl ?_
    obtain ⟨g1, h⟩ := h
    refine x_iast d11_findReason_250 (hS.1 _ _ (sh_171 b)) g1 ?_
    refine x_lload d11_findReason_251 3 rfl ?_
    refine x_aload_n d11_findReason_253 0 rfl rfl ?_
    refine x_getR d11_findReason_254 fl11_45 (fun _ _ => rfl) (hS.pi.1 _ _ (sh_154 b)) (hS.pi.2.1 _ _ _ (pt_154_18 b)) ?_
    refine x_iload d11_findReason_257 5 rfl ?_
    obtain ⟨g2, h⟩ := h
    refine x_lald d11_findReason_259 (hS.pi.1 _ _ (sh_165 b)) g2 ?_
    refine x_lsub d11_findReason_260 ?_
    refine x_lstore d11_findReason_261 (by decide) (L' := [(7, .long (w7 - (xm_gl (xm_pi M (b + 171) (Int32.toNatClampNeg v9) v10) (b + 165) (Int32.toNatClampNeg v10)))), (0, .ref (b + 154)), (5, .int v5), (6, .int v6), (9, .int v9), (10, .int v10), (11, .int v11)]) rfl ?_
    refine x_aload_n d11_findReason_263 1 rfl rfl ?_
    refine x_getR d11_findReason_264 fl11_42 (fun _ _ => rfl) (hS.pi.1 _ _ (sh_154 b)) (hS.pi.2.1 _ _ _ (pt_154_17 b)) ?_
    refine x_iload d11_findReason_267 5 rfl ?_
    obtain ⟨g3, h⟩ := h
    refine x_iald d11_findReason_269 (hS.pi.1 _ _ (sh_164 b)) g3 ?_
    refine x_istore d11_findReason_270 (by decide) (L' := [(6, .int (xm_gi (xm_pi M (b + 171) (Int32.toNatClampNeg v9) v10) (b + 164) (Int32.toNatClampNeg v10))), (7, .long (w7 - (xm_gl (xm_pi M (b + 171) (Int32.toNatClampNeg v9) v10) (b + 165) (Int32.toNatClampNeg v10)))), (0, .ref (b + 154)), (5, .int v5), (9, .int v9), (10, .int v10), (11, .int v11)]) rfl ?_
    refine x_iinc d11_findReason_272 4 rfl rfl (by decide) (L' := [(9, .int (v9 + Int32.ofInt (1))), (6, .int (xm_gi (xm_pi M (b + 171) (Int32.toNatClampNeg v9) v10) (b + 164) (Int32.toNatClampNeg v10))), (7, .long (w7 - (xm_gl (xm_pi M (b + 171) (Int32.toNatClampNeg v9) v10) (b + 165) (Int32.toNatClampNeg v10)))), (0, .ref (b + 154)), (5, .int v5), (10, .int v10), (11, .int v11)]) rfl ?_
    refine x_goto d11_findReason_275 (t := 114) (by decide) ?_
    exact xm_X.sub [3, 4, 1, 2, 0] rfl (h hS.pi)
  · have h := h.2 g
    refine x_aload_n d11_findReason_136 0 rfl rfl ?_
    refine x_getR d11_findReason_137 fl11_62 (fun _ _ => rfl) (hS.1 _ _ (sh_154 b)) (hS.2.1 _ _ _ (pt_154_24 b)) ?_
    refine x_bipush d11_findReason_140 qb_10 ?_
    refine x_iload d11_findReason_142 1 rfl ?_
    refine x_iconst d11_findReason_144 qi_1 ?_
    refine x_isub d11_findReason_145 ?_
    refine x_iload d11_findReason_146 4 rfl ?_
    refine x_isub d11_findReason_148 ?_
    refine x_imul d11_findReason_149 ?_
    refine x_aload_n d11_findReason_150 0 rfl rfl ?_
    refine x_getR d11_findReason_151 fl11_42 (fun _ _ => rfl) (hS.1 _ _ (sh_154 b)) (hS.2.1 _ _ _ (pt_154_17 b)) ?_
    refine x_iload d11_findReason_154 6 rfl ?_
    obtain ⟨g4, h⟩ := h
    refine x_iald d11_findReason_156 (hS.1 _ _ (sh_164 b)) g4 ?_
    refine x_iadd d11_findReason_157 ?_
    obtain ⟨g5, h⟩ := h
    refine x_lald d11_findReason_158 (hS.1 _ _ (sh_170 b)) g5 ?_
    refine x_lstore d11_findReason_159 (by decide) (L' := [(12, .long (xm_gl M (b + 170) (Int32.toNatClampNeg (((10 : Int32) * ((v5 - (1 : Int32)) - v9)) + (xm_gi M (b + 164) (Int32.toNatClampNeg v11)))))), (0, .ref (b + 154)), (5, .int v5), (6, .int v6), (7, .long w7), (9, .int v9), (10, .int v10), (11, .int v11)]) rfl ?_
    refine x_aload_n d11_findReason_161 1 rfl rfl ?_
    refine x_getR d11_findReason_162 fl11_39 (fun _ _ => rfl) (hS.1 _ _ (sh_154 b)) (hS.2.1 _ _ _ (pt_154_16 b)) ?_
    refine x_iload d11_findReason_165 7 rfl ?_
    obtain ⟨g6, h⟩ := h
    refine x_iald d11_findReason_167 (hS.1 _ _ (sh_163 b)) g6 ?_
    refine x_iload d11_findReason_168 3 rfl ?_
    refine x_icmp_ne d11_findReason_170 (t := 202) (by decide) (fun g => ?_) (fun g => ?_)
    · have h := h.1 g
      refine x_iconst d11_findReason_202 qi_0 ?_
      refine x_istore d11_findReason_203 (by decide) (L' := [(14, .int (0 : Int32)), (12, .long (xm_gl M (b + 170) (Int32.toNatClampNeg (((10 : Int32) * ((v5 - (1 : Int32)) - v9)) + (xm_gi M (b + 164) (Int32.toNatClampNeg v11)))))), (0, .ref (b + 154)), (5, .int v5), (6, .int v6), (7, .long w7), (9, .int v9), (10, .int v10), (11, .int v11)]) rfl ?_
      refine x_iload d11_findReason_205 0 rfl ?_
      refine x_if_eq d11_findReason_207 (t := 236) (by decide) (fun g => ?_) (fun g => ?_)
      · skip
        refine x_iinc d11_findReason_236 8 rfl rfl (by decide) (L' := [(11, .int (v11 + Int32.ofInt (1))), (14, .int (0 : Int32)), (12, .long (xm_gl M (b + 170) (Int32.toNatClampNeg (((10 : Int32) * ((v5 - (1 : Int32)) - v9)) + (xm_gi M (b + 164) (Int32.toNatClampNeg v11)))))), (0, .ref (b + 154)), (5, .int v5), (6, .int v6), (7, .long w7), (9, .int v9), (10, .int v10)]) rfl ?_
        refine x_goto d11_findReason_239 (t := 127) (by decide) ?_
        exact xm_X.sub [3, 4, 5, 6, 7, 8, 0] rfl (h hS)
      · exact absurd g (by decide)
    · have h := h.2 g
      refine x_lload d11_findReason_173 0 rfl ?_
      refine x_ldc2 d11_findReason_175 lc11_123 ?_
      refine x_lc_ge d11_findReason_178 d11_findReason_179 rfl rfl (t := 202) (by decide) (fun g => ?_) (fun g => ?_)
      · have h := h.1 g
        refine x_iconst d11_findReason_202 qi_0 ?_
        refine x_istore d11_findReason_203 (by decide) (L' := [(14, .int (0 : Int32)), (12, .long (xm_gl M (b + 170) (Int32.toNatClampNeg (((10 : Int32) * ((v5 - (1 : Int32)) - v9)) + (xm_gi M (b + 164) (Int32.toNatClampNeg v11)))))), (0, .ref (b + 154)), (5, .int v5), (6, .int v6), (7, .long w7), (9, .int v9), (10, .int v10), (11, .int v11)]) rfl ?_
        refine x_iload d11_findReason_205 0 rfl ?_
        refine x_if_eq d11_findReason_207 (t := 236) (by decide) (fun g => ?_) (fun g => ?_)
        · skip
          refine x_iinc d11_findReason_236 8 rfl rfl (by decide) (L' := [(11, .int (v11 + Int32.ofInt (1))), (14, .int (0 : Int32)), (12, .long (xm_gl M (b + 170) (Int32.toNatClampNeg (((10 : Int32) * ((v5 - (1 : Int32)) - v9)) + (xm_gi M (b + 164) (Int32.toNatClampNeg v11)))))), (0, .ref (b + 154)), (5, .int v5), (6, .int v6), (7, .long w7), (9, .int v9), (10, .int v10)]) rfl ?_
          refine x_goto d11_findReason_239 (t := 127) (by decide) ?_
          exact xm_X.sub [3, 4, 5, 6, 7, 8, 0] rfl (h hS)
        · exact absurd g (by decide)
      · have h := h.2 g
        refine x_aload_n d11_findReason_182 1 rfl rfl ?_
        refine x_getR d11_findReason_183 fl11_45 (fun _ _ => rfl) (hS.1 _ _ (sh_154 b)) (hS.2.1 _ _ _ (pt_154_18 b)) ?_
        refine x_iload d11_findReason_186 7 rfl ?_
        obtain ⟨g7, h⟩ := h
        refine x_lald d11_findReason_188 (hS.1 _ _ (sh_165 b)) g7 ?_
        refine x_lload d11_findReason_189 0 rfl ?_
        refine x_ladd d11_findReason_191 ?_
        refine x_lload d11_findReason_192 4 rfl ?_
        refine x_lc_gt d11_findReason_194 d11_findReason_195 rfl rfl (t := 202) (by decide) (fun g => ?_) (fun g => ?_)
        · have h := h.1 g
          refine x_iconst d11_findReason_202 qi_0 ?_
          refine x_istore d11_findReason_203 (by decide) (L' := [(14, .int (0 : Int32)), (12, .long (xm_gl M (b + 170) (Int32.toNatClampNeg (((10 : Int32) * ((v5 - (1 : Int32)) - v9)) + (xm_gi M (b + 164) (Int32.toNatClampNeg v11)))))), (0, .ref (b + 154)), (5, .int v5), (6, .int v6), (7, .long w7), (9, .int v9), (10, .int v10), (11, .int v11)]) rfl ?_
          refine x_iload d11_findReason_205 0 rfl ?_
          refine x_if_eq d11_findReason_207 (t := 236) (by decide) (fun g => ?_) (fun g => ?_)
          · skip
            refine x_iinc d11_findReason_236 8 rfl rfl (by decide) (L' := [(11, .int (v11 + Int32.ofInt (1))), (14, .int (0 : Int32)), (12, .long (xm_gl M (b + 170) (Int32.toNatClampNeg (((10 : Int32) * ((v5 - (1 : Int32)) - v9)) + (xm_gi M (b + 164) (Int32.toNatClampNeg v11)))))), (0, .ref (b + 154)), (5, .int v5), (6, .int v6), (7, .long w7), (9, .int v9), (10, .int v10)]) rfl ?_
            refine x_goto d11_findReason_239 (t := 127) (by decide) ?_
            exact xm_X.sub [3, 4, 5, 6, 7, 8, 0] rfl (h hS)
          · exact absurd g (by decide)
        · have h := h.2 g
          refine x_iconst d11_findReason_198 qi_1 ?_
          refine x_goto d11_findReason_199 (t := 203) (by decide) ?_
          refine x_istore d11_findReason_203 (by decide) (L' := [(14, .int (1 : Int32)), (12, .long (xm_gl M (b + 170) (Int32.toNatClampNeg (((10 : Int32) * ((v5 - (1 : Int32)) - v9)) + (xm_gi M (b + 164) (Int32.toNatClampNeg v11)))))), (0, .ref (b + 154)), (5, .int v5), (6, .int v6), (7, .long w7), (9, .int v9), (10, .int v10), (11, .int v11)]) rfl ?_
          refine x_iload d11_findReason_205 0 rfl ?_
          refine x_if_eq d11_findReason_207 (t := 236) (by decide) (fun g => ?_) (fun g => ?_)
          · exact absurd g (by decide)
          · skip
            refine x_iload d11_findReason_210 7 rfl ?_
            refine x_if_lt d11_findReason_212 (t := 232) (by decide) (fun g => ?_) (fun g => ?_)
            · have h := h.1 g
              refine x_iload d11_findReason_232 8 rfl ?_
              refine x_istore d11_findReason_234 (by decide) (L' := [(10, .int v11), (14, .int (1 : Int32)), (12, .long (xm_gl M (b + 170) (Int32.toNatClampNeg (((10 : Int32) * ((v5 - (1 : Int32)) - v9)) + (xm_gi M (b + 164) (Int32.toNatClampNeg v11)))))), (0, .ref (b + 154)), (5, .int v5), (6, .int v6), (7, .long w7), (9, .int v9), (11, .int v11)]) rfl ?_
              refine x_iinc d11_findReason_236 8 rfl rfl (by decide) (L' := [(11, .int (v11 + Int32.ofInt (1))), (10, .int v11), (14, .int (1 : Int32)), (12, .long (xm_gl M (b + 170) (Int32.toNatClampNeg (((10 : Int32) * ((v5 - (1 : Int32)) - v9)) + (xm_gi M (b + 164) (Int32.toNatClampNeg v11)))))), (0, .ref (b + 154)), (5, .int v5), (6, .int v6), (7, .long w7), (9, .int v9)]) rfl ?_
              refine x_goto d11_findReason_239 (t := 127) (by decide) ?_
              exact xm_X.sub [4, 5, 6, 7, 8, 1, 0] rfl (h hS)
            · have h := h.2 g
              refine x_aload_n d11_findReason_215 2 rfl rfl ?_
              refine x_getR d11_findReason_216 fl11_36 (fun _ _ => rfl) (hS.1 _ _ (sh_154 b)) (hS.2.1 _ _ _ (pt_154_15 b)) ?_
              refine x_iload d11_findReason_219 8 rfl ?_
              obtain ⟨g8, h⟩ := h
              refine x_iald d11_findReason_221 (hS.1 _ _ (sh_162 b)) g8 ?_
              refine x_aload_n d11_findReason_222 2 rfl rfl ?_
              refine x_getR d11_findReason_223 fl11_36 (fun _ _ => rfl) (hS.1 _ _ (sh_154 b)) (hS.2.1 _ _ _ (pt_154_15 b)) ?_
              refine x_iload d11_findReason_226 7 rfl ?_
              obtain ⟨g9, h⟩ := h
              refine x_iald d11_findReason_228 (hS.1 _ _ (sh_162 b)) g9 ?_
              refine x_icmp_ge d11_findReason_229 (t := 236) (by decide) (fun g => ?_) (fun g => ?_)
              · have h := h.1 g
                refine x_iinc d11_findReason_236 8 rfl rfl (by decide) (L' := [(11, .int (v11 + Int32.ofInt (1))), (14, .int (1 : Int32)), (12, .long (xm_gl M (b + 170) (Int32.toNatClampNeg (((10 : Int32) * ((v5 - (1 : Int32)) - v9)) + (xm_gi M (b + 164) (Int32.toNatClampNeg v11)))))), (0, .ref (b + 154)), (5, .int v5), (6, .int v6), (7, .long w7), (9, .int v9), (10, .int v10)]) rfl ?_
                refine x_goto d11_findReason_239 (t := 127) (by decide) ?_
                exact xm_X.sub [3, 4, 5, 6, 7, 8, 0] rfl (h hS)
              · have h := h.2 g
                refine x_iload d11_findReason_232 8 rfl ?_
                refine x_istore d11_findReason_234 (by decide) (L' := [(10, .int v11), (14, .int (1 : Int32)), (12, .long (xm_gl M (b + 170) (Int32.toNatClampNeg (((10 : Int32) * ((v5 - (1 : Int32)) - v9)) + (xm_gi M (b + 164) (Int32.toNatClampNeg v11)))))), (0, .ref (b + 154)), (5, .int v5), (6, .int v6), (7, .long w7), (9, .int v9), (11, .int v11)]) rfl ?_
                refine x_iinc d11_findReason_236 8 rfl rfl (by decide) (L' := [(11, .int (v11 + Int32.ofInt (1))), (10, .int v11), (14, .int (1 : Int32)), (12, .long (xm_gl M (b + 170) (Int32.toNatClampNeg (((10 : Int32) * ((v5 - (1 : Int32)) - v9)) + (xm_gi M (b + 164) (Int32.toNatClampNeg v11)))))), (0, .ref (b + 154)), (5, .int v5), (6, .int v6), (7, .long w7), (9, .int v9)]) rfl ?_
                refine x_goto d11_findReason_239 (t := 127) (by decide) ?_
                exact xm_X.sub [4, 5, 6, 7, 8, 1, 0] rfl (h hS)

set_option maxRecDepth 20000 in
theorem t11_findRests_0 {l : Launch} {E : xm_E} {b : Nat} {c p : Bool} {Q : Option Value → xm_M → Prop} (M : xm_M) (v1 : Int32) (hS : xm_st b c p M)
  (h : (xm_st b c p M → xm_X l E y11_findRests rm11_findRests Q 2 [(0, .ref (b + 154)), (1, .int v1), (2, .int (0 : Int32))] [] 0 0 M)) :
  xm_X l E y11_findRests rm11_findRests Q 0 [(0, .ref (b + 154)), (1, .int v1)] [] 0 0 M := by
  refine x_iconst d11_findRests_0 qi_0 ?_
  refine x_istore_n d11_findRests_1 rfl (by decide) (L' := [(2, .int (0 : Int32)), (0, .ref (b + 154)), (1, .int v1)]) rfl ?_
  exact xm_X.sub [1, 2, 0] rfl (h hS)
set_option maxRecDepth 20000 in
theorem t11_findRests_2 {l : Launch} {E : xm_E} {b : Nat} {c p : Bool} {Q : Option Value → xm_M → Prop} (M : xm_M) (v1 : Int32) (v2 : Int32) (hS : xm_st b c p M)
  (h : (((10 : Int32) ≤ v2 → (xm_st b c p M → xm_X l E y11_findRests rm11_findRests Q 30 [(0, .ref (b + 154)), (1, .int v1), (2, .int (0 : Int32))] [] 0 0 M)) ∧ (¬ (10 : Int32) ≤ v2 → (vp_in (((10 : Int32) * v1) + v2) 130 ∧ (xm_st b c p (xm_pl M (b + 170) (Int32.toNatClampNeg (((10 : Int32) * v1) + v2)) (1125899906842624 : Int64)) → xm_X l E y11_findRests rm11_findRests Q 2 [(0, .ref (b + 154)), (1, .int v1), (2, .int (v2 + Int32.ofInt (1)))] [] 0 0 (xm_pl M (b + 170) (Int32.toNatClampNeg (((10 : Int32) * v1) + v2)) (1125899906842624 : Int64))))))) :
  xm_X l E y11_findRests rm11_findRests Q 2 [(0, .ref (b + 154)), (1, .int v1), (2, .int v2)] [] 0 0 M := by
  refine x_iload_n d11_findRests_2 2 rfl rfl ?_
  refine x_bipush d11_findRests_3 qb_10 ?_
  refine x_icmp_ge d11_findRests_5 (t := 28) (by decide) (fun g => ?_) (fun g => ?_)
  · have h := h.1 g
    refine x_iconst d11_findRests_28 qi_0 ?_
    refine x_istore_n d11_findRests_29 rfl (by decide) (L' := [(2, .int (0 : Int32)), (0, .ref (b + 154)), (1, .int v1)]) rfl ?_
    exact xm_X.sub [1, 2, 0] rfl (h hS)
  · have h := h.2 g
    refine x_aload_n d11_findRests_8 0 rfl rfl ?_
    refine x_getR d11_findRests_9 fl11_62 (fun _ _ => rfl) (hS.1 _ _ (sh_154 b)) (hS.2.1 _ _ _ (pt_154_24 b)) ?_
    refine x_bipush d11_findRests_12 qb_10 ?_
    refine x_iload_n d11_findRests_14 1 rfl rfl ?_
    refine x_imul d11_findRests_15 ?_
    refine x_iload_n d11_findRests_16 2 rfl rfl ?_
    refine x_iadd d11_findRests_17 ?_
    refine x_ldc2 d11_findRests_18 lc11_123 ?_
    obtain ⟨g1, h⟩ := h
    refine x_last d11_findRests_21 (hS.1 _ _ (sh_170 b)) g1 ?_
    refine x_iinc d11_findRests_22 2 rfl rfl (by decide) (L' := [(2, .int (v2 + Int32.ofInt (1))), (0, .ref (b + 154)), (1, .int v1)]) rfl ?_
    refine x_goto d11_findRests_25 (t := 2) (by decide) ?_
    exact xm_X.sub [1, 2, 0] rfl (h hS.pl)
set_option maxRecDepth 20000 in
theorem t11_findRests_30 {l : Launch} {E : xm_E} {b : Nat} {c p : Bool} {Q : Option Value → xm_M → Prop} (M : xm_M) (v1 : Int32) (v2 : Int32) (hS : xm_st b c p M)
  (h : (((xm_gi M (b + 154) 14) ≤ v2 → (xm_st b c p M → Q none M)) ∧ (¬ (xm_gi M (b + 154) 14) ≤ v2 → (vp_in v2 1200 ∧ (vp_in ((((10 : Int32) * v1) - (10 : Int32)) + (xm_gi M (b + 164) (Int32.toNatClampNeg v2))) 130 ∧ (vp_in v2 1200 ∧ (((1125899906842624 : Int64) ≤ (xm_gl M (b + 170) (Int32.toNatClampNeg ((((10 : Int32) * v1) - (10 : Int32)) + (xm_gi M (b + 164) (Int32.toNatClampNeg v2))))) → (xm_st b c p M → xm_X l E y11_findRests rm11_findRests Q 30 [(0, .ref (b + 154)), (1, .int v1), (2, .int (v2 + Int32.ofInt (1)))] [] 0 0 M)) ∧ (¬ (1125899906842624 : Int64) ≤ (xm_gl M (b + 170) (Int32.toNatClampNeg ((((10 : Int32) * v1) - (10 : Int32)) + (xm_gi M (b + 164) (Int32.toNatClampNeg v2))))) → (vp_in v2 1200 ∧ (vp_in (((10 : Int32) * v1) + (xm_gi M (b + 163) (Int32.toNatClampNeg v2))) 130 ∧ (((xm_gl M (b + 170) (Int32.toNatClampNeg (((10 : Int32) * v1) + (xm_gi M (b + 163) (Int32.toNatClampNeg v2))))) ≤ ((xm_gl M (b + 165) (Int32.toNatClampNeg v2)) + (xm_gl M (b + 170) (Int32.toNatClampNeg ((((10 : Int32) * v1) - (10 : Int32)) + (xm_gi M (b + 164) (Int32.toNatClampNeg v2)))))) → (xm_st b c p M → xm_X l E y11_findRests rm11_findRests Q 30 [(0, .ref (b + 154)), (1, .int v1), (2, .int (v2 + Int32.ofInt (1)))] [] 0 0 M)) ∧ (¬ (xm_gl M (b + 170) (Int32.toNatClampNeg (((10 : Int32) * v1) + (xm_gi M (b + 163) (Int32.toNatClampNeg v2))))) ≤ ((xm_gl M (b + 165) (Int32.toNatClampNeg v2)) + (xm_gl M (b + 170) (Int32.toNatClampNeg ((((10 : Int32) * v1) - (10 : Int32)) + (xm_gi M (b + 164) (Int32.toNatClampNeg v2)))))) → (vp_in v2 1200 ∧ (vp_in (((10 : Int32) * v1) + (xm_gi M (b + 163) (Int32.toNatClampNeg v2))) 130 ∧ (xm_st b c p (xm_pl M (b + 170) (Int32.toNatClampNeg (((10 : Int32) * v1) + (xm_gi M (b + 163) (Int32.toNatClampNeg v2)))) ((xm_gl M (b + 165) (Int32.toNatClampNeg v2)) + (xm_gl M (b + 170) (Int32.toNatClampNeg ((((10 : Int32) * v1) - (10 : Int32)) + (xm_gi M (b + 164) (Int32.toNatClampNeg v2))))))) → xm_X l E y11_findRests rm11_findRests Q 30 [(0, .ref (b + 154)), (1, .int v1), (2, .int (v2 + Int32.ofInt (1)))] [] 0 0 (xm_pl M (b + 170) (Int32.toNatClampNeg (((10 : Int32) * v1) + (xm_gi M (b + 163) (Int32.toNatClampNeg v2)))) ((xm_gl M (b + 165) (Int32.toNatClampNeg v2)) + (xm_gl M (b + 170) (Int32.toNatClampNeg ((((10 : Int32) * v1) - (10 : Int32)) + (xm_gi M (b + 164) (Int32.toNatClampNeg v2)))))))))))))))))))))) :
  xm_X l E y11_findRests rm11_findRests Q 30 [(0, .ref (b + 154)), (1, .int v1), (2, .int v2)] [] 0 0 M := by
  refine x_iload_n d11_findRests_30 2 rfl rfl ?_
  refine x_aload_n d11_findRests_31 0 rfl rfl ?_
  refine x_getI d11_findRests_32 fl11_100 (fun _ _ => rfl) (hS.1 _ _ (sh_154 b)) ?_
  refine x_icmp_ge d11_findRests_35 (t := 119) (by decide) (fun g => ?_) (fun g => ?_)
  · have h := h.1 g
    exact x_ret (r := none) d11_findRests_119 xm_rN rfl ⟨Nat.le_refl _, Nat.le_refl _⟩ (h hS)
  · have h := h.2 g
    refine x_aload_n d11_findRests_38 0 rfl rfl ?_
    refine x_getR d11_findRests_39 fl11_62 (fun _ _ => rfl) (hS.1 _ _ (sh_154 b)) (hS.2.1 _ _ _ (pt_154_24 b)) ?_
    refine x_bipush d11_findRests_42 qb_10 ?_
    refine x_iload_n d11_findRests_44 1 rfl rfl ?_
    refine x_imul d11_findRests_45 ?_
    refine x_bipush d11_findRests_46 qb_10 ?_
    refine x_isub d11_findRests_48 ?_
    refine x_aload_n d11_findRests_49 0 rfl rfl ?_
    refine x_getR d11_findRests_50 fl11_42 (fun _ _ => rfl) (hS.1 _ _ (sh_154 b)) (hS.2.1 _ _ _ (pt_154_17 b)) ?_
    refine x_iload_n d11_findRests_53 2 rfl rfl ?_
    obtain ⟨g1, h⟩ := h
    refine x_iald d11_findRests_54 (hS.1 _ _ (sh_164 b)) g1 ?_
    refine x_iadd d11_findRests_55 ?_
    obtain ⟨g2, h⟩ := h
    refine x_lald d11_findRests_56 (hS.1 _ _ (sh_170 b)) g2 ?_
    refine x_lstore_n d11_findRests_57 rfl (by decide) (L' := [(3, .long (xm_gl M (b + 170) (Int32.toNatClampNeg ((((10 : Int32) * v1) - (10 : Int32)) + (xm_gi M (b + 164) (Int32.toNatClampNeg v2)))))), (0, .ref (b + 154)), (1, .int v1), (2, .int v2)]) rfl ?_
    refine x_bipush d11_findRests_58 qb_10 ?_
    refine x_iload_n d11_findRests_60 2 rfl rfl ?_
    refine x_imul d11_findRests_61 ?_
    refine x_aload_n d11_findRests_62 1 rfl rfl ?_
    refine x_getR d11_findRests_63 fl11_39 (fun _ _ => rfl) (hS.1 _ _ (sh_154 b)) (hS.2.1 _ _ _ (pt_154_16 b)) ?_
    refine x_iload_n d11_findRests_66 3 rfl rfl ?_
    obtain ⟨g3, h⟩ := h
    refine x_iald d11_findRests_67 (hS.1 _ _ (sh_163 b)) g3 ?_
    refine x_iadd d11_findRests_68 ?_
    refine x_istore d11_findRests_69 (by decide) (L' := [(5, .int (((10 : Int32) * v1) + (xm_gi M (b + 163) (Int32.toNatClampNeg v2)))), (3, .long (xm_gl M (b + 170) (Int32.toNatClampNeg ((((10 : Int32) * v1) - (10 : Int32)) + (xm_gi M (b + 164) (Int32.toNatClampNeg v2)))))), (0, .ref (b + 154)), (1, .int v1), (2, .int v2)]) rfl ?_
    refine x_lload_n d11_findRests_71 1 rfl rfl ?_
    refine x_ldc2 d11_findRests_72 lc11_123 ?_
    refine x_lc_ge d11_findRests_75 d11_findRests_76 rfl rfl (t := 113) (by decide) (fun g => ?_) (fun g => ?_)
    · have h := h.1 g
      refine x_iinc d11_findRests_113 4 rfl rfl (by decide) (L' := [(2, .int (v2 + Int32.ofInt (1))), (5, .int (((10 : Int32) * v1) + (xm_gi M (b + 163) (Int32.toNatClampNeg v2)))), (3, .long (xm_gl M (b + 170) (Int32.toNatClampNeg ((((10 : Int32) * v1) - (10 : Int32)) + (xm_gi M (b + 164) (Int32.toNatClampNeg v2)))))), (0, .ref (b + 154)), (1, .int v1)]) rfl ?_
      refine x_goto d11_findRests_116 (t := 30) (by decide) ?_
      exact xm_X.sub [3, 4, 0] rfl (h hS)
    · have h := h.2 g
      refine x_aload_n d11_findRests_79 2 rfl rfl ?_
      refine x_getR d11_findRests_80 fl11_45 (fun _ _ => rfl) (hS.1 _ _ (sh_154 b)) (hS.2.1 _ _ _ (pt_154_18 b)) ?_
      refine x_iload_n d11_findRests_83 4 rfl rfl ?_
      obtain ⟨g4, h⟩ := h
      refine x_lald d11_findRests_84 (hS.1 _ _ (sh_165 b)) g4 ?_
      refine x_lload_n d11_findRests_85 1 rfl rfl ?_
      refine x_ladd d11_findRests_86 ?_
      refine x_aload_n d11_findRests_87 2 rfl rfl ?_
      refine x_getR d11_findRests_88 fl11_62 (fun _ _ => rfl) (hS.1 _ _ (sh_154 b)) (hS.2.1 _ _ _ (pt_154_24 b)) ?_
      refine x_iload d11_findRests_91 0 rfl ?_
      obtain ⟨g5, h⟩ := h
      refine x_lald d11_findRests_93 (hS.1 _ _ (sh_170 b)) g5 ?_
      refine x_lc_ge d11_findRests_94 d11_findRests_95 rfl rfl (t := 113) (by decide) (fun g => ?_) (fun g => ?_)
      · have h := h.1 g
        refine x_iinc d11_findRests_113 4 rfl rfl (by decide) (L' := [(2, .int (v2 + Int32.ofInt (1))), (5, .int (((10 : Int32) * v1) + (xm_gi M (b + 163) (Int32.toNatClampNeg v2)))), (3, .long (xm_gl M (b + 170) (Int32.toNatClampNeg ((((10 : Int32) * v1) - (10 : Int32)) + (xm_gi M (b + 164) (Int32.toNatClampNeg v2)))))), (0, .ref (b + 154)), (1, .int v1)]) rfl ?_
        refine x_goto d11_findRests_116 (t := 30) (by decide) ?_
        exact xm_X.sub [3, 4, 0] rfl (h hS)
      · have h := h.2 g
        refine x_aload_n d11_findRests_98 2 rfl rfl ?_
        refine x_getR d11_findRests_99 fl11_62 (fun _ _ => rfl) (hS.1 _ _ (sh_154 b)) (hS.2.1 _ _ _ (pt_154_24 b)) ?_
        refine x_iload d11_findRests_102 0 rfl ?_
        refine x_aload_n d11_findRests_104 2 rfl rfl ?_
        refine x_getR d11_findRests_105 fl11_45 (fun _ _ => rfl) (hS.1 _ _ (sh_154 b)) (hS.2.1 _ _ _ (pt_154_18 b)) ?_
        refine x_iload_n d11_findRests_108 4 rfl rfl ?_
        obtain ⟨g6, h⟩ := h
        refine x_lald d11_findRests_109 (hS.1 _ _ (sh_165 b)) g6 ?_
        refine x_lload_n d11_findRests_110 1 rfl rfl ?_
        refine x_ladd d11_findRests_111 ?_
        obtain ⟨g7, h⟩ := h
        refine x_last d11_findRests_112 (hS.1 _ _ (sh_170 b)) g7 ?_
        refine x_iinc d11_findRests_113 4 rfl rfl (by decide) (L' := [(2, .int (v2 + Int32.ofInt (1))), (5, .int (((10 : Int32) * v1) + (xm_gi M (b + 163) (Int32.toNatClampNeg v2)))), (3, .long (xm_gl M (b + 170) (Int32.toNatClampNeg ((((10 : Int32) * v1) - (10 : Int32)) + (xm_gi M (b + 164) (Int32.toNatClampNeg v2)))))), (0, .ref (b + 154)), (1, .int v1)]) rfl ?_
        refine x_goto d11_findRests_116 (t := 30) (by decide) ?_
        exact xm_X.sub [3, 4, 0] rfl (h hS.pl)

set_option maxRecDepth 20000 in
theorem t11_upper_0 {l : Launch} {E : xm_E} {b : Nat} {c p : Bool} {Q : Option Value → xm_M → Prop} (M : xm_M) (v1 : Int32) (hS : xm_st b c p M)
  (h : (vp_in v1 48 ∧ (((xm_gi M (b + 155) (Int32.toNatClampNeg v1)) ≤ (10 : Int32) → (xm_st b c p M → Q (some (.int (9 : Int32))) M)) ∧ (¬ (xm_gi M (b + 155) (Int32.toNatClampNeg v1)) ≤ (10 : Int32) → (xm_st b c p M → Q (some (.int (0 : Int32))) M))))) :
  xm_X l E y11_upper rm11_upper Q 0 [(0, .ref (b + 154)), (1, .int v1)] [] 0 0 M := by
  refine x_aload_n d11_upper_0 0 rfl rfl ?_
  refine x_getR d11_upper_1 fl11_7 (fun _ _ => rfl) (hS.1 _ _ (sh_154 b)) (hS.2.1 _ _ _ (pt_154_2 b)) ?_
  refine x_iload_n d11_upper_4 1 rfl rfl ?_
  obtain ⟨g1, h⟩ := h
  refine x_iald d11_upper_5 (hS.1 _ _ (sh_155 b)) g1 ?_
  refine x_bipush d11_upper_6 qb_10 ?_
  refine x_icmp_le d11_upper_8 (t := 15) (by decide) (fun g => ?_) (fun g => ?_)
  · have h := h.1 g
    refine x_bipush d11_upper_15 qb_9 ?_
    exact x_ret (r := (some (.int (9 : Int32)))) d11_upper_17 xm_rI rfl ⟨Nat.le_refl _, Nat.le_refl _⟩ (h hS)
  · have h := h.2 g
    refine x_iconst d11_upper_11 qi_0 ?_
    refine x_goto d11_upper_12 (t := 17) (by decide) ?_
    exact x_ret (r := (some (.int (0 : Int32)))) d11_upper_17 xm_rI rfl ⟨Nat.le_refl _, Nat.le_refl _⟩ (h hS)

set_option maxRecDepth 20000 in
theorem t11_greatest_0 {l : Launch} {E : xm_E} {b : Nat} {c p : Bool} {Q : Option Value → xm_M → Prop} (M : xm_M) (v1 : Int32) (hS : xm_st b c p M)
  (h : (vp_in v1 48 ∧ (((xm_gi M (b + 155) (Int32.toNatClampNeg v1)) ≤ (10 : Int32) → (vp_in v1 48 ∧ (vp_in v1 48 ∧ xm_C l E y11_sizeOf rm11_sizeOf [.int (xm_gi M (b + 155) (Int32.toNatClampNeg v1))] M (fun r M4 => ∃ r5 : Int32, r = some (.int r5) ∧ xm_st b c p M4 ∧ (xm_st b c p M4 → Q (some (.long ((-(Int32.toInt64 (xm_gi M (b + 158) (Int32.toNatClampNeg v1)))) - (Int32.toInt64 r5)))) M4))))) ∧ (¬ (xm_gi M (b + 155) (Int32.toNatClampNeg v1)) ≤ (10 : Int32) → (vp_in v1 48 ∧ (xm_st b c p M → Q (some (.long ((31 : Int64) - (Int32.toInt64 (xm_gi M (b + 158) (Int32.toNatClampNeg v1)))))) M)))))) :
  xm_X l E y11_greatest rm11_greatest Q 0 [(0, .ref (b + 154)), (1, .int v1)] [] 0 0 M := by
  refine x_aload_n d11_greatest_0 0 rfl rfl ?_
  refine x_getR d11_greatest_1 fl11_7 (fun _ _ => rfl) (hS.1 _ _ (sh_154 b)) (hS.2.1 _ _ _ (pt_154_2 b)) ?_
  refine x_iload_n d11_greatest_4 1 rfl rfl ?_
  obtain ⟨g1, h⟩ := h
  refine x_iald d11_greatest_5 (hS.1 _ _ (sh_155 b)) g1 ?_
  refine x_bipush d11_greatest_6 qb_10 ?_
  refine x_icmp_le d11_greatest_8 (t := 25) (by decide) (fun g => ?_) (fun g => ?_)
  · have h := h.1 g
    refine x_aload_n d11_greatest_25 0 rfl rfl ?_
    refine x_getR d11_greatest_26 fl11_19 (fun _ _ => rfl) (hS.1 _ _ (sh_154 b)) (hS.2.1 _ _ _ (pt_154_5 b)) ?_
    refine x_iload_n d11_greatest_29 1 rfl rfl ?_
    obtain ⟨g2, h⟩ := h
    refine x_iald d11_greatest_30 (hS.1 _ _ (sh_158 b)) g2 ?_
    refine x_i2l d11_greatest_31 ?_
    refine x_lneg d11_greatest_32 ?_
    refine x_aload_n d11_greatest_33 0 rfl rfl ?_
    refine x_getR d11_greatest_34 fl11_7 (fun _ _ => rfl) (hS.1 _ _ (sh_154 b)) (hS.2.1 _ _ _ (pt_154_2 b)) ?_
    refine x_iload_n d11_greatest_37 1 rfl rfl ?_
    obtain ⟨g3, h⟩ := h
    refine x_iald d11_greatest_38 (hS.1 _ _ (sh_155 b)) g3 ?_
    refine x_cSI (Z := y11_sizeOf) (S := rm11_sizeOf) (As := [.int (xm_gi M (b + 155) (Int32.toNatClampNeg v1))]) (rest := [.long (-(Int32.toInt64 (xm_gi M (b + 158) (Int32.toNatClampNeg v1))))]) d11_greatest_39 ml11_179 k11_sizeOf rfl rfl (Nat.le_of_ble_eq_true rfl) ⟨⟨by decide, by decide⟩, by decide, by decide⟩ ⟨rfl, rfl⟩ h (fun r5 M4 h => ?_)
    obtain ⟨hS, h⟩ := h
    refine x_i2l d11_greatest_42 ?_
    refine x_lsub d11_greatest_43 ?_
    exact x_ret (r := (some (.long ((-(Int32.toInt64 (xm_gi M (b + 158) (Int32.toNatClampNeg v1)))) - (Int32.toInt64 r5))))) d11_greatest_44 xm_rJ rfl ⟨Nat.le_refl _, Nat.le_refl _⟩ (h hS)
  · have h := h.2 g
    refine x_ldc2 d11_greatest_11 lc11_177 ?_
    refine x_aload_n d11_greatest_14 0 rfl rfl ?_
    refine x_getR d11_greatest_15 fl11_19 (fun _ _ => rfl) (hS.1 _ _ (sh_154 b)) (hS.2.1 _ _ _ (pt_154_5 b)) ?_
    refine x_iload_n d11_greatest_18 1 rfl rfl ?_
    obtain ⟨g6, h⟩ := h
    refine x_iald d11_greatest_19 (hS.1 _ _ (sh_158 b)) g6 ?_
    refine x_i2l d11_greatest_20 ?_
    refine x_lsub d11_greatest_21 ?_
    refine x_goto d11_greatest_22 (t := 44) (by decide) ?_
    exact x_ret (r := (some (.long ((31 : Int64) - (Int32.toInt64 (xm_gi M (b + 158) (Int32.toNatClampNeg v1))))))) d11_greatest_44 xm_rJ rfl ⟨Nat.le_refl _, Nat.le_refl _⟩ (h hS)

set_option maxRecDepth 20000 in
theorem t11_sizeOf_0 {l : Launch} {E : xm_E} {b : Nat} {c p : Bool} {Q : Option Value → xm_M → Prop} (M : xm_M) (v0 : Int32) (hS : xm_st b c p M)
  (h : ((¬ v0 = (8 : Int32) → ((¬ v0 = (9 : Int32) → (xm_st b c p M → Q (some (.int (4 : Int32))) M)) ∧ (v0 = (9 : Int32) → (xm_st b c p M → Q (some (.int (2 : Int32))) M)))) ∧ (v0 = (8 : Int32) → (xm_st b c p M → Q (some (.int (1 : Int32))) M)))) :
  xm_X l E y11_sizeOf rm11_sizeOf Q 0 [(0, .int v0)] [] 0 0 M := by
  refine x_iload_n d11_sizeOf_0 0 rfl rfl ?_
  refine x_bipush d11_sizeOf_1 qb_8 ?_
  refine x_icmp_ne d11_sizeOf_3 (t := 10) (by decide) (fun g => ?_) (fun g => ?_)
  · have h := h.1 g
    refine x_iload_n d11_sizeOf_10 0 rfl rfl ?_
    refine x_bipush d11_sizeOf_11 qb_9 ?_
    refine x_icmp_ne d11_sizeOf_13 (t := 20) (by decide) (fun g => ?_) (fun g => ?_)
    · have h := h.1 g
      refine x_iconst d11_sizeOf_20 qi_4 ?_
      exact x_ret (r := (some (.int (4 : Int32)))) d11_sizeOf_21 xm_rI rfl ⟨Nat.le_refl _, Nat.le_refl _⟩ (h hS)
    · have h := h.2 g
      refine x_iconst d11_sizeOf_16 qi_2 ?_
      refine x_goto d11_sizeOf_17 (t := 21) (by decide) ?_
      exact x_ret (r := (some (.int (2 : Int32)))) d11_sizeOf_21 xm_rI rfl ⟨Nat.le_refl _, Nat.le_refl _⟩ (h hS)
  · have h := h.2 g
    refine x_iconst d11_sizeOf_6 qi_1 ?_
    refine x_goto d11_sizeOf_7 (t := 21) (by decide) ?_
    exact x_ret (r := (some (.int (1 : Int32)))) d11_sizeOf_21 xm_rI rfl ⟨Nat.le_refl _, Nat.le_refl _⟩ (h hS)

set_option maxRecDepth 20000 in
theorem t11_needChosen_0 {l : Launch} {E : xm_E} {b : Nat} {c p : Bool} {Q : Option Value → xm_M → Prop} (M : xm_M) (v1 : Int32) (hS : xm_st b c p M)
  (h : (xm_st b c p M → xm_X l E y11_needChosen rm11_needChosen Q 2 [(0, .ref (b + 154)), (1, .int v1), (2, .int (0 : Int32))] [] 0 0 M)) :
  xm_X l E y11_needChosen rm11_needChosen Q 0 [(0, .ref (b + 154)), (1, .int v1)] [] 0 0 M := by
  refine x_iconst d11_needChosen_0 qi_0 ?_
  refine x_istore_n d11_needChosen_1 rfl (by decide) (L' := [(2, .int (0 : Int32)), (0, .ref (b + 154)), (1, .int v1)]) rfl ?_
  exact xm_X.sub [1, 2, 0] rfl (h hS)
set_option maxRecDepth 20000 in
theorem t11_needChosen_2 {l : Launch} {E : xm_E} {b : Nat} {c p : Bool} {Q : Option Value → xm_M → Prop} (M : xm_M) (v1 : Int32) (v2 : Int32) (hS : xm_st b c p M)
  (h : (((xm_gi M (b + 154) 26) ≤ v2 → (xm_st b c p M → Q none M)) ∧ (¬ (xm_gi M (b + 154) 26) ≤ v2 → (vp_in v2 12 ∧ (vp_in (xm_gi M (b + 171) (Int32.toNatClampNeg v2)) 1200 ∧ (((100 : Int32) ≤ (xm_gi M (b + 162) (Int32.toNatClampNeg (xm_gi M (b + 171) (Int32.toNatClampNeg v2)))) → (vp_in v1 48 ∧ ((¬ (xm_gi M (b + 155) (Int32.toNatClampNeg v1)) = (4 : Int32) → (xm_st b c p M → xm_X l E y11_needChosen rm11_needChosen Q 2 [(0, .ref (b + 154)), (1, .int v1), (2, .int (v2 + Int32.ofInt (1)))] [] 0 0 M)) ∧ ((xm_gi M (b + 155) (Int32.toNatClampNeg v1)) = (4 : Int32) → (vp_in (((100 : Int32) * v1) + (((xm_gi M (b + 162) (Int32.toNatClampNeg (xm_gi M (b + 171) (Int32.toNatClampNeg v2)))) - (100 : Int32)) / (100 : Int32))) 4800 ∧ (vp_in (((100 : Int32) * v1) + (((xm_gi M (b + 162) (Int32.toNatClampNeg (xm_gi M (b + 171) (Int32.toNatClampNeg v2)))) - (100 : Int32)) - ((xm_gi M (b + 162) (Int32.toNatClampNeg (xm_gi M (b + 171) (Int32.toNatClampNeg v2)))) - (100 : Int32)) / (100 : Int32) * (100 : Int32))) 4800 ∧ (xm_st b c p (xm_pi (xm_pi M (b + 172) (Int32.toNatClampNeg (((100 : Int32) * v1) + (((xm_gi M (b + 162) (Int32.toNatClampNeg (xm_gi M (b + 171) (Int32.toNatClampNeg v2)))) - (100 : Int32)) / (100 : Int32)))) (1 : Int32)) (b + 172) (Int32.toNatClampNeg (((100 : Int32) * v1) + (((xm_gi M (b + 162) (Int32.toNatClampNeg (xm_gi M (b + 171) (Int32.toNatClampNeg v2)))) - (100 : Int32)) - ((xm_gi M (b + 162) (Int32.toNatClampNeg (xm_gi M (b + 171) (Int32.toNatClampNeg v2)))) - (100 : Int32)) / (100 : Int32) * (100 : Int32)))) (1 : Int32)) → xm_X l E y11_needChosen rm11_needChosen Q 2 [(0, .ref (b + 154)), (1, .int v1), (2, .int (v2 + Int32.ofInt (1)))] [] 0 0 (xm_pi (xm_pi M (b + 172) (Int32.toNatClampNeg (((100 : Int32) * v1) + (((xm_gi M (b + 162) (Int32.toNatClampNeg (xm_gi M (b + 171) (Int32.toNatClampNeg v2)))) - (100 : Int32)) / (100 : Int32)))) (1 : Int32)) (b + 172) (Int32.toNatClampNeg (((100 : Int32) * v1) + (((xm_gi M (b + 162) (Int32.toNatClampNeg (xm_gi M (b + 171) (Int32.toNatClampNeg v2)))) - (100 : Int32)) - ((xm_gi M (b + 162) (Int32.toNatClampNeg (xm_gi M (b + 171) (Int32.toNatClampNeg v2)))) - (100 : Int32)) / (100 : Int32) * (100 : Int32)))) (1 : Int32))))))))) ∧ (¬ (100 : Int32) ≤ (xm_gi M (b + 162) (Int32.toNatClampNeg (xm_gi M (b + 171) (Int32.toNatClampNeg v2)))) → (vp_in (((100 : Int32) * v1) + (xm_gi M (b + 162) (Int32.toNatClampNeg (xm_gi M (b + 171) (Int32.toNatClampNeg v2))))) 4800 ∧ (xm_st b c p (xm_pi M (b + 172) (Int32.toNatClampNeg (((100 : Int32) * v1) + (xm_gi M (b + 162) (Int32.toNatClampNeg (xm_gi M (b + 171) (Int32.toNatClampNeg v2)))))) (1 : Int32)) → xm_X l E y11_needChosen rm11_needChosen Q 2 [(0, .ref (b + 154)), (1, .int v1), (2, .int (v2 + Int32.ofInt (1)))] [] 0 0 (xm_pi M (b + 172) (Int32.toNatClampNeg (((100 : Int32) * v1) + (xm_gi M (b + 162) (Int32.toNatClampNeg (xm_gi M (b + 171) (Int32.toNatClampNeg v2)))))) (1 : Int32))))))))))) :
  xm_X l E y11_needChosen rm11_needChosen Q 2 [(0, .ref (b + 154)), (1, .int v1), (2, .int v2)] [] 0 0 M := by
  refine x_iload_n d11_needChosen_2 2 rfl rfl ?_
  refine x_aload_n d11_needChosen_3 0 rfl rfl ?_
  refine x_getI d11_needChosen_4 fl11_170 (fun _ _ => rfl) (hS.1 _ _ (sh_154 b)) ?_
  refine x_icmp_ge d11_needChosen_7 (t := 95) (by decide) (fun g => ?_) (fun g => ?_)
  · have h := h.1 g
    exact x_ret (r := none) d11_needChosen_95 xm_rN rfl ⟨Nat.le_refl _, Nat.le_refl _⟩ (h hS)
  · have h := h.2 g
    refine x_aload_n d11_needChosen_10 0 rfl rfl ?_
    refine x_getR d11_needChosen_11 fl11_36 (fun _ _ => rfl) (hS.1 _ _ (sh_154 b)) (hS.2.1 _ _ _ (pt_154_15 b)) ?_
    refine x_aload_n d11_needChosen_14 0 rfl rfl ?_
    refine x_getR d11_needChosen_15 fl11_65 (fun _ _ => rfl) (hS.1 _ _ (sh_154 b)) (hS.2.1 _ _ _ (pt_154_25 b)) ?_
    refine x_iload_n d11_needChosen_18 2 rfl rfl ?_
    obtain ⟨g1, h⟩ := h
    refine x_iald d11_needChosen_19 (hS.1 _ _ (sh_171 b)) g1 ?_
    obtain ⟨g2, h⟩ := h
    refine x_iald d11_needChosen_20 (hS.1 _ _ (sh_162 b)) g2 ?_
    refine x_istore_n d11_needChosen_21 rfl (by decide) (L' := [(3, .int (xm_gi M (b + 162) (Int32.toNatClampNeg (xm_gi M (b + 171) (Int32.toNatClampNeg v2))))), (0, .ref (b + 154)), (1, .int v1), (2, .int v2)]) rfl ?_
    refine x_iload_n d11_needChosen_22 0 rfl rfl ?_
    refine x_bipush d11_needChosen_23 qb_100 ?_
    refine x_icmp_ge d11_needChosen_25 (t := 43) (by decide) (fun g => ?_) (fun g => ?_)
    · have h := h.1 g
      refine x_aload_n d11_needChosen_43 1 rfl rfl ?_
      refine x_getR d11_needChosen_44 fl11_7 (fun _ _ => rfl) (hS.1 _ _ (sh_154 b)) (hS.2.1 _ _ _ (pt_154_2 b)) ?_
      refine x_iload_n d11_needChosen_47 2 rfl rfl ?_
      obtain ⟨g3, h⟩ := h
      refine x_iald d11_needChosen_48 (hS.1 _ _ (sh_155 b)) g3 ?_
      refine x_iconst d11_needChosen_49 qi_4 ?_
      refine x_icmp_ne d11_needChosen_50 (t := 89) (by decide) (fun g => ?_) (fun g => ?_)
      · have h := h.1 g
        refine x_iinc d11_needChosen_89 3 rfl rfl (by decide) (L' := [(2, .int (v2 + Int32.ofInt (1))), (3, .int (xm_gi M (b + 162) (Int32.toNatClampNeg (xm_gi M (b + 171) (Int32.toNatClampNeg v2))))), (0, .ref (b + 154)), (1, .int v1)]) rfl ?_
        refine x_goto d11_needChosen_92 (t := 2) (by decide) ?_
        exact xm_X.sub [2, 3, 0] rfl (h hS)
      · have h := h.2 g
        refine x_aload_n d11_needChosen_53 1 rfl rfl ?_
        refine x_getR d11_needChosen_54 fl11_68 (fun _ _ => rfl) (hS.1 _ _ (sh_154 b)) (hS.2.1 _ _ _ (pt_154_27 b)) ?_
        refine x_bipush d11_needChosen_57 qb_100 ?_
        refine x_iload_n d11_needChosen_59 2 rfl rfl ?_
        refine x_imul d11_needChosen_60 ?_
        refine x_iload_n d11_needChosen_61 0 rfl rfl ?_
        refine x_bipush d11_needChosen_62 qb_100 ?_
        refine x_isub d11_needChosen_64 ?_
        refine x_bipush d11_needChosen_65 qb_100 ?_
        refine x_idiv d11_needChosen_67 (by decide) ?_
        refine x_iadd d11_needChosen_68 ?_
        refine x_iconst d11_needChosen_69 qi_1 ?_
        obtain ⟨g4, h⟩ := h
        refine x_zast d11_needChosen_70 (hS.1 _ _ (sh_172 b)) g4 rfl ?_
        refine x_aload_n d11_needChosen_71 1 rfl rfl ?_
        refine x_getR d11_needChosen_72 fl11_68 (fun _ _ => rfl) (hS.pi.1 _ _ (sh_154 b)) (hS.pi.2.1 _ _ _ (pt_154_27 b)) ?_
        refine x_bipush d11_needChosen_75 qb_100 ?_
        refine x_iload_n d11_needChosen_77 2 rfl rfl ?_
        refine x_imul d11_needChosen_78 ?_
        refine x_iload_n d11_needChosen_79 0 rfl rfl ?_
        refine x_bipush d11_needChosen_80 qb_100 ?_
        refine x_isub d11_needChosen_82 ?_
        refine x_bipush d11_needChosen_83 qb_100 ?_
        refine x_irem d11_needChosen_85 (by decide) ?_
        refine x_iadd d11_needChosen_86 ?_
        refine x_iconst d11_needChosen_87 qi_1 ?_
        obtain ⟨g5, h⟩ := h
        refine x_zast d11_needChosen_88 (hS.pi.1 _ _ (sh_172 b)) g5 rfl ?_
        refine x_iinc d11_needChosen_89 3 rfl rfl (by decide) (L' := [(2, .int (v2 + Int32.ofInt (1))), (3, .int (xm_gi M (b + 162) (Int32.toNatClampNeg (xm_gi M (b + 171) (Int32.toNatClampNeg v2))))), (0, .ref (b + 154)), (1, .int v1)]) rfl ?_
        refine x_goto d11_needChosen_92 (t := 2) (by decide) ?_
        exact xm_X.sub [2, 3, 0] rfl (h hS.pi.pi)
    · have h := h.2 g
      refine x_aload_n d11_needChosen_28 1 rfl rfl ?_
      refine x_getR d11_needChosen_29 fl11_68 (fun _ _ => rfl) (hS.1 _ _ (sh_154 b)) (hS.2.1 _ _ _ (pt_154_27 b)) ?_
      refine x_bipush d11_needChosen_32 qb_100 ?_
      refine x_iload_n d11_needChosen_34 2 rfl rfl ?_
      refine x_imul d11_needChosen_35 ?_
      refine x_iload_n d11_needChosen_36 0 rfl rfl ?_
      refine x_iadd d11_needChosen_37 ?_
      refine x_iconst d11_needChosen_38 qi_1 ?_
      obtain ⟨g6, h⟩ := h
      refine x_zast d11_needChosen_39 (hS.1 _ _ (sh_172 b)) g6 rfl ?_
      refine x_goto d11_needChosen_40 (t := 89) (by decide) ?_
      refine x_iinc d11_needChosen_89 3 rfl rfl (by decide) (L' := [(2, .int (v2 + Int32.ofInt (1))), (3, .int (xm_gi M (b + 162) (Int32.toNatClampNeg (xm_gi M (b + 171) (Int32.toNatClampNeg v2))))), (0, .ref (b + 154)), (1, .int v1)]) rfl ?_
      refine x_goto d11_needChosen_92 (t := 2) (by decide) ?_
      exact xm_X.sub [2, 3, 0] rfl (h hS.pi)
