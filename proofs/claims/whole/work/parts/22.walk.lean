set_option maxRecDepth 20000 in
theorem t6_takeBeginning_0 {l : Launch} {E : xm_E} {b : Nat} {c p : Bool} {Q : Option Value → xm_M → Prop} (M : xm_M) (v1 : Int32) (hS : xm_st b c p M)
  (h : xm_C l E y6_forget rm6_forget [.ref (b + 110)] M (fun r M1 => r = none ∧ xm_st b c p M1 ∧ (xm_st b c p M1 → xm_X l E y6_takeBeginning rm6_takeBeginning Q 6 [(0, .ref (b + 110)), (1, .int v1), (2, .int (0 : Int32))] [] 0 0 M1))) :
  xm_X l E y6_takeBeginning rm6_takeBeginning Q 0 [(0, .ref (b + 110)), (1, .int v1)] [] 0 0 M := by
  refine x_aload_n d6_takeBeginning_0 0 rfl rfl ?_
  refine x_cVN (Z := y6_forget) (S := rm6_forget) (As := []) (rest := []) d6_takeBeginning_1 ml6_71 k6_forget rfl (b := (b + 110)) (hS.1 _ _ (sh_110 b)) rfl rfl (Nat.le_of_ble_eq_true rfl) ⟨⟨by decide, by decide⟩, by decide, by decide⟩ ⟨rfl, rfl⟩ h (fun M1 h => ?_)
  obtain ⟨hS, h⟩ := h
  refine x_iconst d6_takeBeginning_4 qi_0 ?_
  refine x_istore_n d6_takeBeginning_5 rfl (by decide) (L' := [(2, .int (0 : Int32)), (0, .ref (b + 110)), (1, .int v1)]) rfl ?_
  exact xm_X.sub [1, 2, 0] rfl (h hS)
set_option maxRecDepth 20000 in
theorem t6_takeBeginning_6 {l : Launch} {E : xm_E} {b : Nat} {c p : Bool} {Q : Option Value → xm_M → Prop} (M : xm_M) (v1 : Int32) (v2 : Int32) (hS : xm_st b c p M)
  (h : (((18 : Int32) ≤ v2 → (xm_st b c p M → Q none M)) ∧ (¬ (18 : Int32) ≤ v2 → xm_C l E y7_becomeBeginning rm7_becomeBeginning [.ref (b + 126), .int v2, .int v1] M (fun r M1 => ∃ r2 : Bool, r = some (.int (xz r2)) ∧ xm_st b c p M1 ∧ (((xz r2) = 0 → (xm_st b c p M1 → xm_X l E y6_takeBeginning rm6_takeBeginning Q 6 [(0, .ref (b + 110)), (1, .int v1), (2, .int (v2 + Int32.ofInt (1)))] [] 0 0 M1)) ∧ (¬ (xz r2) = 0 → xm_C l E y6_append rm6_append [.ref (b + 110), .int v2] M1 (fun r M3 => r = none ∧ xm_st b c p M3 ∧ (xm_st b c p M3 → xm_X l E y6_takeBeginning rm6_takeBeginning Q 6 [(0, .ref (b + 110)), (1, .int v1), (2, .int (v2 + Int32.ofInt (1)))] [] 0 0 M3)))))))) :
  xm_X l E y6_takeBeginning rm6_takeBeginning Q 6 [(0, .ref (b + 110)), (1, .int v1), (2, .int v2)] [] 0 0 M := by
  refine x_iload_n d6_takeBeginning_6 2 rfl rfl ?_
  refine x_bipush d6_takeBeginning_7 qb_18 ?_
  refine x_icmp_ge d6_takeBeginning_9 (t := 35) (by decide) (fun g => ?_) (fun g => ?_)
  · have h := h.1 g
    exact x_ret (r := none) d6_takeBeginning_35 xm_rN rfl ⟨Nat.le_refl _, Nat.le_refl _⟩ (h hS)
  · have h := h.2 g
    refine x_aload_n d6_takeBeginning_12 0 rfl rfl ?_
    refine x_getR d6_takeBeginning_13 fl6_33 (fun _ _ => rfl) (hS.1 _ _ (sh_110 b)) (hS.2.1 _ _ _ (pt_110_6 b)) ?_
    refine x_iload_n d6_takeBeginning_16 2 rfl rfl ?_
    refine x_iload_n d6_takeBeginning_17 1 rfl rfl ?_
    refine x_cVZ (Z := y7_becomeBeginning) (S := rm7_becomeBeginning) (As := [.int v2, .int v1]) (rest := []) d6_takeBeginning_18 ml6_74 k7_becomeBeginning rfl (b := (b + 126)) (hS.1 _ _ (sh_126 b)) rfl rfl (Nat.le_of_ble_eq_true rfl) ⟨⟨by decide, by decide⟩, by decide, by decide⟩ ⟨rfl, rfl⟩ h (fun r2 M1 h => ?_)
    obtain ⟨hS, h⟩ := h
    refine x_if_eq d6_takeBeginning_21 (t := 29) (by decide) (fun g => ?_) (fun g => ?_)
    · have h := h.1 g
      refine x_iinc d6_takeBeginning_29 2 rfl rfl (by decide) (L' := [(2, .int (v2 + Int32.ofInt (1))), (0, .ref (b + 110)), (1, .int v1)]) rfl ?_
      refine x_goto d6_takeBeginning_32 (t := 6) (by decide) ?_
      exact xm_X.sub [1, 2, 0] rfl (h hS)
    · have h := h.2 g
      refine x_aload_n d6_takeBeginning_24 0 rfl rfl ?_
      refine x_iload_n d6_takeBeginning_25 2 rfl rfl ?_
      refine x_cVN (Z := y6_append) (S := rm6_append) (As := [.int v2]) (rest := []) d6_takeBeginning_26 ml6_78 k6_append rfl (b := (b + 110)) (hS.1 _ _ (sh_110 b)) rfl rfl (Nat.le_of_ble_eq_true rfl) ⟨⟨by decide, by decide⟩, by decide, by decide⟩ ⟨rfl, rfl⟩ h (fun M3 h => ?_)
      obtain ⟨hS, h⟩ := h
      refine x_iinc d6_takeBeginning_29 2 rfl rfl (by decide) (L' := [(2, .int (v2 + Int32.ofInt (1))), (0, .ref (b + 110)), (1, .int v1)]) rfl ?_
      refine x_goto d6_takeBeginning_32 (t := 6) (by decide) ?_
      exact xm_X.sub [1, 2, 0] rfl (h hS)

set_option maxRecDepth 20000 in
theorem t6_forget_0 {l : Launch} {E : xm_E} {b : Nat} {c p : Bool} {Q : Option Value → xm_M → Prop} (M : xm_M)  (hS : xm_st b c p M)
  (h : (xm_st b c p (xm_pi M (b + 110) 4 (0 : Int32)) → xm_X l E y6_forget rm6_forget Q 7 [(0, .ref (b + 110)), (1, .int (0 : Int32))] [] 0 0 (xm_pi M (b + 110) 4 (0 : Int32)))) :
  xm_X l E y6_forget rm6_forget Q 0 [(0, .ref (b + 110))] [] 0 0 M := by
  refine x_aload_n d6_forget_0 0 rfl rfl ?_
  refine x_iconst d6_forget_1 qi_0 ?_
  refine x_putI d6_forget_2 fw6_43 (fun _ _ => rfl) rfl rfl (hS.1 _ _ (sh_110 b)) ?_
  refine x_iconst d6_forget_5 qi_0 ?_
  refine x_istore_n d6_forget_6 rfl (by decide) (L' := [(1, .int (0 : Int32)), (0, .ref (b + 110))]) rfl ?_
  exact xm_X.sub [1, 0] rfl (h hS.pi)
set_option maxRecDepth 20000 in
theorem t6_forget_7 {l : Launch} {E : xm_E} {b : Nat} {c p : Bool} {Q : Option Value → xm_M → Prop} (M : xm_M) (v1 : Int32) (hS : xm_st b c p M)
  (h : (((10 : Int32) ≤ v1 → (xm_st b c p M → Q none M)) ∧ (¬ (10 : Int32) ≤ v1 → (vp_in v1 10 ∧ xm_C l E yr_fill_J rmr_fill_J [.ref (b + 116 + (Int32.toNatClampNeg v1)), .long (4611686018427387904 : Int64)] M (fun r M2 => r = none ∧ xm_st b c p M2 ∧ (xm_st b c p M2 → xm_X l E y6_forget rm6_forget Q 7 [(0, .ref (b + 110)), (1, .int (v1 + Int32.ofInt (1)))] [] 0 0 M2)))))) :
  xm_X l E y6_forget rm6_forget Q 7 [(0, .ref (b + 110)), (1, .int v1)] [] 0 0 M := by
  refine x_iload_n d6_forget_7 1 rfl rfl ?_
  refine x_bipush d6_forget_8 qb_10 ?_
  refine x_icmp_ge d6_forget_10 (t := 31) (by decide) (fun g => ?_) (fun g => ?_)
  · have h := h.1 g
    exact x_ret (r := none) d6_forget_31 xm_rN rfl ⟨Nat.le_refl _, Nat.le_refl _⟩ (h hS)
  · have h := h.2 g
    refine x_aload_n d6_forget_13 0 rfl rfl ?_
    refine x_getR d6_forget_14 fl6_27 (fun _ _ => rfl) (hS.1 _ _ (sh_110 b)) (hS.2.1 _ _ _ (pt_110_5 b)) ?_
    refine x_iload_n d6_forget_17 1 rfl rfl ?_
    obtain ⟨g1, h⟩ := h
    refine x_aald d6_forget_18 (hS.1 _ _ (sh_115 b)) (by decide) rfl g1 (hS.2.1 _ _ _ (ptf_115 (vp_lt g1))) ?_
    refine x_ldc2 d6_forget_19 lc6_47 ?_
    refine x_cSN (Z := yr_fill_J) (S := rmr_fill_J) (As := [.ref (b + 116 + (Int32.toNatClampNeg v1)), .long (4611686018427387904 : Int64)]) (rest := []) d6_forget_22 ml6_49 kr_fill_J rfl rfl (Nat.le_of_ble_eq_true rfl) ⟨⟨by decide, by decide⟩, by decide, by decide⟩ ⟨rfl, rfl⟩ h (fun M2 h => ?_)
    obtain ⟨hS, h⟩ := h
    refine x_iinc d6_forget_25 1 rfl rfl (by decide) (L' := [(1, .int (v1 + Int32.ofInt (1))), (0, .ref (b + 110))]) rfl ?_
    refine x_goto d6_forget_28 (t := 7) (by decide) ?_
    exact xm_X.sub [1, 0] rfl (h hS)

set_option maxRecDepth 20000 in
theorem t6_append_0 {l : Launch} {E : xm_E} {b : Nat} {c p : Bool} {Q : Option Value → xm_M → Prop} (M : xm_M) (v1 : Int32) (hS : xm_st b c p M)
  (h : ((¬ (xm_gl M (b + 126) 2) = (Int32.toInt64 (Int64.toInt32 (xm_gl M (b + 126) 2))) → (xm_st b c p M → Q none M)) ∧ ((xm_gl M (b + 126) 2) = (Int32.toInt64 (Int64.toInt32 (xm_gl M (b + 126) 2))) → (((xm_gi M (b + 110) 4) < (200 : Int32) → (vp_in (xm_gi M (b + 110) 4) 200 ∧ (∀ M2 : xm_M, M2 = (xm_pi M (b + 111) (Int32.toNatClampNeg (xm_gi M (b + 110) 4)) v1) → (vp_in (xm_gi M2 (b + 110) 4) 200 ∧ (∀ M5 : xm_M, M5 = (xm_pi M2 (b + 112) (Int32.toNatClampNeg (xm_gi M2 (b + 110) 4)) (xm_gi M2 (b + 126) 0)) → (vp_in (xm_gi M5 (b + 110) 4) 200 ∧ (∀ M8 : xm_M, M8 = (xm_pi M5 (b + 113) (Int32.toNatClampNeg (xm_gi M5 (b + 110) 4)) (xm_gi M5 (b + 126) 1)) → (vp_in (xm_gi M8 (b + 110) 4) 200 ∧ (∀ M11 : xm_M, M11 = (xm_pl M8 (b + 114) (Int32.toNatClampNeg (xm_gi M8 (b + 110) 4)) (xm_gl M8 (b + 126) 2)) → (∀ M13 : xm_M, M13 = (xm_pi M11 (b + 110) 4 ((xm_gi M11 (b + 110) 4) + (1 : Int32))) → (vp_in (xm_gi M13 (b + 126) 0) 10 ∧ (vp_in (xm_gi M13 (b + 126) 0) 10 ∧ (vp_in (xm_gi M13 (b + 126) 1) 10 ∧ xm_C l E ym_min_J rmm_min_J [.long (xm_gl M13 (b + 116 + (Int32.toNatClampNeg (xm_gi M13 (b + 126) 0))) (Int32.toNatClampNeg (xm_gi M13 (b + 126) 1))), .long (xm_gl M13 (b + 126) 2)] M13 (fun r M18 => ∃ r19 : Int64, r = some (.long r19) ∧ xm_st b c p M18 ∧ (vp_in (xm_gi M13 (b + 126) 1) 10 ∧ (∀ M21 : xm_M, M21 = (xm_pl M18 (b + 116 + (Int32.toNatClampNeg (xm_gi M13 (b + 126) 0))) (Int32.toNatClampNeg (xm_gi M13 (b + 126) 1)) r19) → (xm_st b c p M21 → Q none M21))))))))))))))))) ∧ (¬ (xm_gi M (b + 110) 4) < (200 : Int32) → (xm_st b c p M → Q none M)))))) :
  xm_X l E y6_append rm6_append Q 0 [(0, .ref (b + 110)), (1, .int v1)] [] 0 0 M := by
  refine x_aload_n d6_append_0 0 rfl rfl ?_
  refine x_getR d6_append_1 fl6_33 (fun _ _ => rfl) (hS.1 _ _ (sh_110 b)) (hS.2.1 _ _ _ (pt_110_6 b)) ?_
  refine x_getL d6_append_4 fl6_55 (fun _ _ => rfl) (hS.1 _ _ (sh_126 b)) ?_
  refine x_aload_n d6_append_7 0 rfl rfl ?_
  refine x_getR d6_append_8 fl6_33 (fun _ _ => rfl) (hS.1 _ _ (sh_110 b)) (hS.2.1 _ _ _ (pt_110_6 b)) ?_
  refine x_getL d6_append_11 fl6_55 (fun _ _ => rfl) (hS.1 _ _ (sh_126 b)) ?_
  refine x_l2i d6_append_14 ?_
  refine x_i2l d6_append_15 ?_
  refine x_lc_ne d6_append_16 d6_append_17 rfl rfl (t := 30) (by decide) (fun g => ?_) (fun g => ?_)
  · have h := h.1 g
    exact x_ret (r := none) d6_append_30 xm_rN rfl ⟨Nat.le_refl _, Nat.le_refl _⟩ (h hS)
  · have h := h.2 g
    refine x_aload_n d6_append_20 0 rfl rfl ?_
    refine x_getI d6_append_21 fl6_43 (fun _ _ => rfl) (hS.1 _ _ (sh_110 b)) ?_
    refine x_sipush d6_append_24 qs_200 ?_
    refine x_icmp_lt d6_append_27 (t := 31) (by decide) (fun g => ?_) (fun g => ?_)
    · have h := h.1 g
      refine x_aload_n d6_append_31 0 rfl rfl ?_
      refine x_getR d6_append_32 fl6_11 (fun _ _ => rfl) (hS.1 _ _ (sh_110 b)) (hS.2.1 _ _ _ (pt_110_0 b)) ?_
      refine x_aload_n d6_append_35 0 rfl rfl ?_
      refine x_getI d6_append_36 fl6_43 (fun _ _ => rfl) (hS.1 _ _ (sh_110 b)) ?_
      refine x_iload_n d6_append_39 1 rfl rfl ?_
      obtain ⟨g1, h⟩ := h
      refine x_iast d6_append_40 (hS.1 _ _ (sh_111 b)) g1 ?_
      refine xm_nm (fun M2 e3 => ?_)
      have h := h M2 e3
      have hS : xm_st b c p M2 := by rw [e3]; exact hS.pi
      refine x_aload_n d6_append_41 0 rfl rfl ?_
      refine x_getR d6_append_42 fl6_15 (fun _ _ => rfl) (hS.1 _ _ (sh_110 b)) (hS.2.1 _ _ _ (pt_110_1 b)) ?_
      refine x_aload_n d6_append_45 0 rfl rfl ?_
      refine x_getI d6_append_46 fl6_43 (fun _ _ => rfl) (hS.1 _ _ (sh_110 b)) ?_
      refine x_aload_n d6_append_49 0 rfl rfl ?_
      refine x_getR d6_append_50 fl6_33 (fun _ _ => rfl) (hS.1 _ _ (sh_110 b)) (hS.2.1 _ _ _ (pt_110_6 b)) ?_
      refine x_getI d6_append_53 fl6_59 (fun _ _ => rfl) (hS.1 _ _ (sh_126 b)) ?_
      obtain ⟨g4, h⟩ := h
      refine x_iast d6_append_56 (hS.1 _ _ (sh_112 b)) g4 ?_
      refine xm_nm (fun M5 e6 => ?_)
      have h := h M5 e6
      have hS : xm_st b c p M5 := by rw [e6]; exact hS.pi
      refine x_aload_n d6_append_57 0 rfl rfl ?_
      refine x_getR d6_append_58 fl6_18 (fun _ _ => rfl) (hS.1 _ _ (sh_110 b)) (hS.2.1 _ _ _ (pt_110_2 b)) ?_
      refine x_aload_n d6_append_61 0 rfl rfl ?_
      refine x_getI d6_append_62 fl6_43 (fun _ _ => rfl) (hS.1 _ _ (sh_110 b)) ?_
      refine x_aload_n d6_append_65 0 rfl rfl ?_
      refine x_getR d6_append_66 fl6_33 (fun _ _ => rfl) (hS.1 _ _ (sh_110 b)) (hS.2.1 _ _ _ (pt_110_6 b)) ?_
      refine x_getI d6_append_69 fl6_62 (fun _ _ => rfl) (hS.1 _ _ (sh_126 b)) ?_
      obtain ⟨g7, h⟩ := h
      refine x_iast d6_append_72 (hS.1 _ _ (sh_113 b)) g7 ?_
      refine xm_nm (fun M8 e9 => ?_)
      have h := h M8 e9
      have hS : xm_st b c p M8 := by rw [e9]; exact hS.pi
      refine x_aload_n d6_append_73 0 rfl rfl ?_
      refine x_getR d6_append_74 fl6_21 (fun _ _ => rfl) (hS.1 _ _ (sh_110 b)) (hS.2.1 _ _ _ (pt_110_3 b)) ?_
      refine x_aload_n d6_append_77 0 rfl rfl ?_
      refine x_getI d6_append_78 fl6_43 (fun _ _ => rfl) (hS.1 _ _ (sh_110 b)) ?_
      refine x_aload_n d6_append_81 0 rfl rfl ?_
      refine x_getR d6_append_82 fl6_33 (fun _ _ => rfl) (hS.1 _ _ (sh_110 b)) (hS.2.1 _ _ _ (pt_110_6 b)) ?_
      refine x_getL d6_append_85 fl6_55 (fun _ _ => rfl) (hS.1 _ _ (sh_126 b)) ?_
      obtain ⟨g10, h⟩ := h
      refine x_last d6_append_88 (hS.1 _ _ (sh_114 b)) g10 ?_
      refine xm_nm (fun M11 e12 => ?_)
      have h := h M11 e12
      have hS : xm_st b c p M11 := by rw [e12]; exact hS.pl
      refine x_aload_n d6_append_89 0 rfl rfl ?_
      refine x_dup d6_append_90 rfl ?_
      refine x_getI d6_append_91 fl6_43 (fun _ _ => rfl) (hS.1 _ _ (sh_110 b)) ?_
      refine x_iconst d6_append_94 qi_1 ?_
      refine x_iadd d6_append_95 ?_
      refine x_putI d6_append_96 fw6_43 (fun _ _ => rfl) rfl rfl (hS.1 _ _ (sh_110 b)) ?_
      refine xm_nm (fun M13 e14 => ?_)
      have h := h M13 e14
      have hS : xm_st b c p M13 := by rw [e14]; exact hS.pi
      refine x_aload_n d6_append_99 0 rfl rfl ?_
      refine x_getR d6_append_100 fl6_27 (fun _ _ => rfl) (hS.1 _ _ (sh_110 b)) (hS.2.1 _ _ _ (pt_110_5 b)) ?_
      refine x_aload_n d6_append_103 0 rfl rfl ?_
      refine x_getR d6_append_104 fl6_33 (fun _ _ => rfl) (hS.1 _ _ (sh_110 b)) (hS.2.1 _ _ _ (pt_110_6 b)) ?_
      refine x_getI d6_append_107 fl6_59 (fun _ _ => rfl) (hS.1 _ _ (sh_126 b)) ?_
      obtain ⟨g15, h⟩ := h
      refine x_aald d6_append_110 (hS.1 _ _ (sh_115 b)) (by decide) rfl g15 (hS.2.1 _ _ _ (ptf_115 (vp_lt g15))) ?_
      refine x_aload_n d6_append_111 0 rfl rfl ?_
      refine x_getR d6_append_112 fl6_33 (fun _ _ => rfl) (hS.1 _ _ (sh_110 b)) (hS.2.1 _ _ _ (pt_110_6 b)) ?_
      refine x_getI d6_append_115 fl6_62 (fun _ _ => rfl) (hS.1 _ _ (sh_126 b)) ?_
      refine x_aload_n d6_append_118 0 rfl rfl ?_
      refine x_getR d6_append_119 fl6_27 (fun _ _ => rfl) (hS.1 _ _ (sh_110 b)) (hS.2.1 _ _ _ (pt_110_5 b)) ?_
      refine x_aload_n d6_append_122 0 rfl rfl ?_
      refine x_getR d6_append_123 fl6_33 (fun _ _ => rfl) (hS.1 _ _ (sh_110 b)) (hS.2.1 _ _ _ (pt_110_6 b)) ?_
      refine x_getI d6_append_126 fl6_59 (fun _ _ => rfl) (hS.1 _ _ (sh_126 b)) ?_
      obtain ⟨g16, h⟩ := h
      refine x_aald d6_append_129 (hS.1 _ _ (sh_115 b)) (by decide) rfl g16 (hS.2.1 _ _ _ (ptf_115 (vp_lt g16))) ?_
      refine x_aload_n d6_append_130 0 rfl rfl ?_
      refine x_getR d6_append_131 fl6_33 (fun _ _ => rfl) (hS.1 _ _ (sh_110 b)) (hS.2.1 _ _ _ (pt_110_6 b)) ?_
      refine x_getI d6_append_134 fl6_62 (fun _ _ => rfl) (hS.1 _ _ (sh_126 b)) ?_
      obtain ⟨g17, h⟩ := h
      refine x_lald d6_append_137 (hS.1 _ _ (shf_115 (vp_lt g16))) g17 ?_
      refine x_aload_n d6_append_138 0 rfl rfl ?_
      refine x_getR d6_append_139 fl6_33 (fun _ _ => rfl) (hS.1 _ _ (sh_110 b)) (hS.2.1 _ _ _ (pt_110_6 b)) ?_
      refine x_getL d6_append_142 fl6_55 (fun _ _ => rfl) (hS.1 _ _ (sh_126 b)) ?_
      refine x_cSJ (Z := ym_min_J) (S := rmm_min_J) (As := [.long (xm_gl M13 (b + 116 + (Int32.toNatClampNeg (xm_gi M13 (b + 126) 0))) (Int32.toNatClampNeg (xm_gi M13 (b + 126) 1))), .long (xm_gl M13 (b + 126) 2)]) (rest := [.int (xm_gi M13 (b + 126) 1), .ref (b + 116 + (Int32.toNatClampNeg (xm_gi M13 (b + 126) 0)))]) d6_append_145 ml6_65 km_min_J rfl rfl (Nat.le_of_ble_eq_true rfl) ⟨⟨by decide, by decide⟩, by decide, by decide⟩ ⟨rfl, rfl⟩ h (fun r19 M18 h => ?_)
      obtain ⟨hS, h⟩ := h
      obtain ⟨g20, h⟩ := h
      refine x_last d6_append_148 (hS.1 _ _ (shf_115 (vp_lt g15))) g20 ?_
      refine xm_nm (fun M21 e22 => ?_)
      have h := h M21 e22
      have hS : xm_st b c p M21 := by rw [e22]; exact hS.pl
      exact x_ret (r := none) d6_append_149 xm_rN rfl ⟨Nat.le_refl _, Nat.le_refl _⟩ (h hS)
    · have h := h.2 g
      exact x_ret (r := none) d6_append_30 xm_rN rfl ⟨Nat.le_refl _, Nat.le_refl _⟩ (h hS)

set_option maxRecDepth 20000 in
theorem t6_closeRows_0 {l : Launch} {E : xm_E} {b : Nat} {c p : Bool} {Q : Option Value → xm_M → Prop} (M : xm_M)  (hS : xm_st b c p M)
  (h : (xm_st b c p M → xm_X l E y6_closeRows rm6_closeRows Q 2 [(0, .ref (b + 110)), (1, .int (0 : Int32))] [] 0 0 M)) :
  xm_X l E y6_closeRows rm6_closeRows Q 0 [(0, .ref (b + 110))] [] 0 0 M := by
  refine x_iconst d6_closeRows_0 qi_0 ?_
  refine x_istore_n d6_closeRows_1 rfl (by decide) (L' := [(1, .int (0 : Int32)), (0, .ref (b + 110))]) rfl ?_
  exact xm_X.sub [1, 0] rfl (h hS)
set_option maxRecDepth 20000 in
theorem t6_closeRows_2 {l : Launch} {E : xm_E} {b : Nat} {c p : Bool} {Q : Option Value → xm_M → Prop} (M : xm_M) (v1 : Int32) (hS : xm_st b c p M)
  (h : (((10 : Int32) ≤ v1 → (xm_st b c p M → Q (some (.int (1 : Int32))) M)) ∧ (¬ (10 : Int32) ≤ v1 → (xm_st b c p M → xm_X l E y6_closeRows rm6_closeRows Q 10 [(0, .ref (b + 110)), (1, .int v1), (2, .int (0 : Int32))] [] 0 0 M)))) :
  xm_X l E y6_closeRows rm6_closeRows Q 2 [(0, .ref (b + 110)), (1, .int v1)] [] 0 0 M := by
  refine x_iload_n d6_closeRows_2 1 rfl rfl ?_
  refine x_bipush d6_closeRows_3 qb_10 ?_
  refine x_icmp_ge d6_closeRows_5 (t := 64) (by decide) (fun g => ?_) (fun g => ?_)
  · have h := h.1 g
    refine x_iconst d6_closeRows_64 qi_1 ?_
    exact x_ret (r := (some (.int (1 : Int32)))) d6_closeRows_65 (xm_rZ (Or.inr rfl)) rfl ⟨Nat.le_refl _, Nat.le_refl _⟩ (h hS)
  · have h := h.2 g
    refine x_iconst d6_closeRows_8 qi_0 ?_
    refine x_istore_n d6_closeRows_9 rfl (by decide) (L' := [(2, .int (0 : Int32)), (0, .ref (b + 110)), (1, .int v1)]) rfl ?_
    exact xm_X.sub [1, 2, 0] rfl (h hS)
set_option maxRecDepth 20000 in
theorem t6_closeRows_10 {l : Launch} {E : xm_E} {b : Nat} {c p : Bool} {Q : Option Value → xm_M → Prop} (M : xm_M) (v1 : Int32) (v2 : Int32) (hS : xm_st b c p M)
  (h : (((10 : Int32) ≤ v2 → (xm_st b c p M → xm_X l E y6_closeRows rm6_closeRows Q 2 [(0, .ref (b + 110)), (1, .int (v1 + Int32.ofInt (1)))] [] 0 0 M)) ∧ (¬ (10 : Int32) ≤ v2 → (vp_in v2 10 ∧ (vp_in v1 10 ∧ (((xm_gl M (b + 116 + (Int32.toNatClampNeg v2)) (Int32.toNatClampNeg v1)) = (4611686018427387904 : Int64) → (vp_in v2 10 ∧ (vp_in v2 10 ∧ (((0 : Int64) ≤ (xm_gl M (b + 116 + (Int32.toNatClampNeg v2)) (Int32.toNatClampNeg v2)) → (xm_st b c p M → xm_X l E y6_closeRows rm6_closeRows Q 10 [(0, .ref (b + 110)), (1, .int v1), (2, .int (v2 + Int32.ofInt (1)))] [] 0 0 M)) ∧ (¬ (0 : Int64) ≤ (xm_gl M (b + 116 + (Int32.toNatClampNeg v2)) (Int32.toNatClampNeg v2)) → (xm_st b c p M → Q (some (.int (0 : Int32))) M)))))) ∧ (¬ (xm_gl M (b + 116 + (Int32.toNatClampNeg v2)) (Int32.toNatClampNeg v1)) = (4611686018427387904 : Int64) → xm_C l E y6_closeFrom rm6_closeFrom [.ref (b + 110), .int v2, .int v1] M (fun r M5 => r = none ∧ xm_st b c p M5 ∧ (vp_in v2 10 ∧ (vp_in v2 10 ∧ (((0 : Int64) ≤ (xm_gl M5 (b + 116 + (Int32.toNatClampNeg v2)) (Int32.toNatClampNeg v2)) → (xm_st b c p M5 → xm_X l E y6_closeRows rm6_closeRows Q 10 [(0, .ref (b + 110)), (1, .int v1), (2, .int (v2 + Int32.ofInt (1)))] [] 0 0 M5)) ∧ (¬ (0 : Int64) ≤ (xm_gl M5 (b + 116 + (Int32.toNatClampNeg v2)) (Int32.toNatClampNeg v2)) → (xm_st b c p M5 → Q (some (.int (0 : Int32))) M5))))))))))))) :
  xm_X l E y6_closeRows rm6_closeRows Q 10 [(0, .ref (b + 110)), (1, .int v1), (2, .int v2)] [] 0 0 M := by
  refine x_iload_n d6_closeRows_10 2 rfl rfl ?_
  refine x_bipush d6_closeRows_11 qb_10 ?_
  refine x_icmp_ge d6_closeRows_13 (t := 58) (by decide) (fun g => ?_) (fun g => ?_)
  · have h := h.1 g
    refine x_iinc d6_closeRows_58 1 rfl rfl (by decide) (L' := [(1, .int (v1 + Int32.ofInt (1))), (0, .ref (b + 110)), (2, .int v2)]) rfl ?_
    refine x_goto d6_closeRows_61 (t := 2) (by decide) ?_
    exact xm_X.sub [1, 0] rfl (h hS)
  · have h := h.2 g
    refine x_aload_n d6_closeRows_16 0 rfl rfl ?_
    refine x_getR d6_closeRows_17 fl6_27 (fun _ _ => rfl) (hS.1 _ _ (sh_110 b)) (hS.2.1 _ _ _ (pt_110_5 b)) ?_
    refine x_iload_n d6_closeRows_20 2 rfl rfl ?_
    obtain ⟨g1, h⟩ := h
    refine x_aald d6_closeRows_21 (hS.1 _ _ (sh_115 b)) (by decide) rfl g1 (hS.2.1 _ _ _ (ptf_115 (vp_lt g1))) ?_
    refine x_iload_n d6_closeRows_22 1 rfl rfl ?_
    obtain ⟨g2, h⟩ := h
    refine x_lald d6_closeRows_23 (hS.1 _ _ (shf_115 (vp_lt g1))) g2 ?_
    refine x_ldc2 d6_closeRows_24 lc6_47 ?_
    refine x_lc_eq d6_closeRows_27 d6_closeRows_28 rfl rfl (t := 37) (by decide) (fun g => ?_) (fun g => ?_)
    · have h := h.1 g
      refine x_aload_n d6_closeRows_37 0 rfl rfl ?_
      refine x_getR d6_closeRows_38 fl6_27 (fun _ _ => rfl) (hS.1 _ _ (sh_110 b)) (hS.2.1 _ _ _ (pt_110_5 b)) ?_
      refine x_iload_n d6_closeRows_41 2 rfl rfl ?_
      obtain ⟨g3, h⟩ := h
      refine x_aald d6_closeRows_42 (hS.1 _ _ (sh_115 b)) (by decide) rfl g3 (hS.2.1 _ _ _ (ptf_115 (vp_lt g3))) ?_
      refine x_iload_n d6_closeRows_43 2 rfl rfl ?_
      obtain ⟨g4, h⟩ := h
      refine x_lald d6_closeRows_44 (hS.1 _ _ (shf_115 (vp_lt g3))) g4 ?_
      refine x_lconst d6_closeRows_45 ql_0 ?_
      refine x_lc_ge d6_closeRows_46 d6_closeRows_47 rfl rfl (t := 52) (by decide) (fun g => ?_) (fun g => ?_)
      · have h := h.1 g
        refine x_iinc d6_closeRows_52 2 rfl rfl (by decide) (L' := [(2, .int (v2 + Int32.ofInt (1))), (0, .ref (b + 110)), (1, .int v1)]) rfl ?_
        refine x_goto d6_closeRows_55 (t := 10) (by decide) ?_
        exact xm_X.sub [1, 2, 0] rfl (h hS)
      · have h := h.2 g
        refine x_iconst d6_closeRows_50 qi_0 ?_
        exact x_ret (r := (some (.int (0 : Int32)))) d6_closeRows_51 (xm_rZ (Or.inl rfl)) rfl ⟨Nat.le_refl _, Nat.le_refl _⟩ (h hS)
    · have h := h.2 g
      refine x_aload_n d6_closeRows_31 0 rfl rfl ?_
      refine x_iload_n d6_closeRows_32 2 rfl rfl ?_
      refine x_iload_n d6_closeRows_33 1 rfl rfl ?_
      refine x_cVN (Z := y6_closeFrom) (S := rm6_closeFrom) (As := [.int v2, .int v1]) (rest := []) d6_closeRows_34 ml6_121 k6_closeFrom rfl (b := (b + 110)) (hS.1 _ _ (sh_110 b)) rfl rfl (Nat.le_of_ble_eq_true rfl) ⟨⟨by decide, by decide⟩, by decide, by decide⟩ ⟨rfl, rfl⟩ h (fun M5 h => ?_)
      obtain ⟨hS, h⟩ := h
      refine x_aload_n d6_closeRows_37 0 rfl rfl ?_
      refine x_getR d6_closeRows_38 fl6_27 (fun _ _ => rfl) (hS.1 _ _ (sh_110 b)) (hS.2.1 _ _ _ (pt_110_5 b)) ?_
      refine x_iload_n d6_closeRows_41 2 rfl rfl ?_
      obtain ⟨g7, h⟩ := h
      refine x_aald d6_closeRows_42 (hS.1 _ _ (sh_115 b)) (by decide) rfl g7 (hS.2.1 _ _ _ (ptf_115 (vp_lt g7))) ?_
      refine x_iload_n d6_closeRows_43 2 rfl rfl ?_
      obtain ⟨g8, h⟩ := h
      refine x_lald d6_closeRows_44 (hS.1 _ _ (shf_115 (vp_lt g7))) g8 ?_
      refine x_lconst d6_closeRows_45 ql_0 ?_
      refine x_lc_ge d6_closeRows_46 d6_closeRows_47 rfl rfl (t := 52) (by decide) (fun g => ?_) (fun g => ?_)
      · have h := h.1 g
        refine x_iinc d6_closeRows_52 2 rfl rfl (by decide) (L' := [(2, .int (v2 + Int32.ofInt (1))), (0, .ref (b + 110)), (1, .int v1)]) rfl ?_
        refine x_goto d6_closeRows_55 (t := 10) (by decide) ?_
        exact xm_X.sub [1, 2, 0] rfl (h hS)
      · have h := h.2 g
        refine x_iconst d6_closeRows_50 qi_0 ?_
        exact x_ret (r := (some (.int (0 : Int32)))) d6_closeRows_51 (xm_rZ (Or.inl rfl)) rfl ⟨Nat.le_refl _, Nat.le_refl _⟩ (h hS)

set_option maxRecDepth 20000 in
theorem t6_closeFrom_0 {l : Launch} {E : xm_E} {b : Nat} {c p : Bool} {Q : Option Value → xm_M → Prop} (M : xm_M) (v1 : Int32) (v2 : Int32) (hS : xm_st b c p M)
  (h : (vp_in v1 10 ∧ (vp_in v2 10 ∧ (xm_st b c p M → xm_X l E y6_closeFrom rm6_closeFrom Q 12 [(0, .ref (b + 110)), (1, .int v1), (2, .int v2), (3, .long (xm_gl M (b + 116 + (Int32.toNatClampNeg v1)) (Int32.toNatClampNeg v2))), (5, .int (0 : Int32))] [] 0 0 M)))) :
  xm_X l E y6_closeFrom rm6_closeFrom Q 0 [(0, .ref (b + 110)), (1, .int v1), (2, .int v2)] [] 0 0 M := by
  refine x_aload_n d6_closeFrom_0 0 rfl rfl ?_
  refine x_getR d6_closeFrom_1 fl6_27 (fun _ _ => rfl) (hS.1 _ _ (sh_110 b)) (hS.2.1 _ _ _ (pt_110_5 b)) ?_
  refine x_iload_n d6_closeFrom_4 1 rfl rfl ?_
  obtain ⟨g1, h⟩ := h
  refine x_aald d6_closeFrom_5 (hS.1 _ _ (sh_115 b)) (by decide) rfl g1 (hS.2.1 _ _ _ (ptf_115 (vp_lt g1))) ?_
  refine x_iload_n d6_closeFrom_6 2 rfl rfl ?_
  obtain ⟨g2, h⟩ := h
  refine x_lald d6_closeFrom_7 (hS.1 _ _ (shf_115 (vp_lt g1))) g2 ?_
  refine x_lstore_n d6_closeFrom_8 rfl (by decide) (L' := [(3, .long (xm_gl M (b + 116 + (Int32.toNatClampNeg v1)) (Int32.toNatClampNeg v2))), (0, .ref (b + 110)), (1, .int v1), (2, .int v2)]) rfl ?_
  refine x_iconst d6_closeFrom_9 qi_0 ?_
  refine x_istore d6_closeFrom_10 (by decide) (L' := [(5, .int (0 : Int32)), (3, .long (xm_gl M (b + 116 + (Int32.toNatClampNeg v1)) (Int32.toNatClampNeg v2))), (0, .ref (b + 110)), (1, .int v1), (2, .int v2)]) rfl ?_
  exact xm_X.sub [2, 3, 4, 1, 0] rfl (h hS)
set_option maxRecDepth 20000 in
theorem t6_closeFrom_12 {l : Launch} {E : xm_E} {b : Nat} {c p : Bool} {Q : Option Value → xm_M → Prop} (M : xm_M) (v1 : Int32) (v2 : Int32) (w3 : Int64) (v5 : Int32) (hS : xm_st b c p M)
  (h : (((10 : Int32) ≤ v5 → (xm_st b c p M → Q none M)) ∧ (¬ (10 : Int32) ≤ v5 → (vp_in v2 10 ∧ (vp_in v5 10 ∧ (((xm_gl M (b + 116 + (Int32.toNatClampNeg v2)) (Int32.toNatClampNeg v5)) = (4611686018427387904 : Int64) → (xm_st b c p M → xm_X l E y6_closeFrom rm6_closeFrom Q 12 [(0, .ref (b + 110)), (1, .int v1), (2, .int v2), (3, .long w3), (5, .int (v5 + Int32.ofInt (1)))] [] 0 0 M)) ∧ (¬ (xm_gl M (b + 116 + (Int32.toNatClampNeg v2)) (Int32.toNatClampNeg v5)) = (4611686018427387904 : Int64) → (vp_in v1 10 ∧ (vp_in v1 10 ∧ (vp_in v5 10 ∧ (vp_in v2 10 ∧ (vp_in v5 10 ∧ xm_C l E ym_min_J rmm_min_J [.long (xm_gl M (b + 116 + (Int32.toNatClampNeg v1)) (Int32.toNatClampNeg v5)), .long (w3 + (xm_gl M (b + 116 + (Int32.toNatClampNeg v2)) (Int32.toNatClampNeg v5)))] M (fun r M8 => ∃ r9 : Int64, r = some (.long r9) ∧ xm_st b c p M8 ∧ (vp_in v5 10 ∧ (xm_st b c p (xm_pl M8 (b + 116 + (Int32.toNatClampNeg v1)) (Int32.toNatClampNeg v5) r9) → xm_X l E y6_closeFrom rm6_closeFrom Q 12 [(0, .ref (b + 110)), (1, .int v1), (2, .int v2), (3, .long w3), (5, .int (v5 + Int32.ofInt (1)))] [] 0 0 (xm_pl M8 (b + 116 + (Int32.toNatClampNeg v1)) (Int32.toNatClampNeg v5) r9)))))))))))))))) :
  xm_X l E y6_closeFrom rm6_closeFrom Q 12 [(0, .ref (b + 110)), (1, .int v1), (2, .int v2), (3, .long w3), (5, .int v5)] [] 0 0 M := by
  refine x_iload d6_closeFrom_12 4 rfl ?_
  refine x_bipush d6_closeFrom_14 qb_10 ?_
  refine x_icmp_ge d6_closeFrom_16 (t := 73) (by decide) (fun g => ?_) (fun g => ?_)
  · have h := h.1 g
    exact x_ret (r := none) d6_closeFrom_73 xm_rN rfl ⟨Nat.le_refl _, Nat.le_refl _⟩ (h hS)
  · have h := h.2 g
    refine x_aload_n d6_closeFrom_19 0 rfl rfl ?_
    refine x_getR d6_closeFrom_20 fl6_27 (fun _ _ => rfl) (hS.1 _ _ (sh_110 b)) (hS.2.1 _ _ _ (pt_110_5 b)) ?_
    refine x_iload_n d6_closeFrom_23 2 rfl rfl ?_
    obtain ⟨g1, h⟩ := h
    refine x_aald d6_closeFrom_24 (hS.1 _ _ (sh_115 b)) (by decide) rfl g1 (hS.2.1 _ _ _ (ptf_115 (vp_lt g1))) ?_
    refine x_iload d6_closeFrom_25 4 rfl ?_
    obtain ⟨g2, h⟩ := h
    refine x_lald d6_closeFrom_27 (hS.1 _ _ (shf_115 (vp_lt g1))) g2 ?_
    refine x_ldc2 d6_closeFrom_28 lc6_47 ?_
    refine x_lc_eq d6_closeFrom_31 d6_closeFrom_32 rfl rfl (t := 67) (by decide) (fun g => ?_) (fun g => ?_)
    · have h := h.1 g
      refine x_iinc d6_closeFrom_67 4 rfl rfl (by decide) (L' := [(5, .int (v5 + Int32.ofInt (1))), (0, .ref (b + 110)), (1, .int v1), (2, .int v2), (3, .long w3)]) rfl ?_
      refine x_goto d6_closeFrom_70 (t := 12) (by decide) ?_
      exact xm_X.sub [1, 2, 3, 4, 0] rfl (h hS)
    · have h := h.2 g
      refine x_aload_n d6_closeFrom_35 0 rfl rfl ?_
      refine x_getR d6_closeFrom_36 fl6_27 (fun _ _ => rfl) (hS.1 _ _ (sh_110 b)) (hS.2.1 _ _ _ (pt_110_5 b)) ?_
      refine x_iload_n d6_closeFrom_39 1 rfl rfl ?_
      obtain ⟨g3, h⟩ := h
      refine x_aald d6_closeFrom_40 (hS.1 _ _ (sh_115 b)) (by decide) rfl g3 (hS.2.1 _ _ _ (ptf_115 (vp_lt g3))) ?_
      refine x_iload d6_closeFrom_41 4 rfl ?_
      refine x_aload_n d6_closeFrom_43 0 rfl rfl ?_
      refine x_getR d6_closeFrom_44 fl6_27 (fun _ _ => rfl) (hS.1 _ _ (sh_110 b)) (hS.2.1 _ _ _ (pt_110_5 b)) ?_
      refine x_iload_n d6_closeFrom_47 1 rfl rfl ?_
      obtain ⟨g4, h⟩ := h
      refine x_aald d6_closeFrom_48 (hS.1 _ _ (sh_115 b)) (by decide) rfl g4 (hS.2.1 _ _ _ (ptf_115 (vp_lt g4))) ?_
      refine x_iload d6_closeFrom_49 4 rfl ?_
      obtain ⟨g5, h⟩ := h
      refine x_lald d6_closeFrom_51 (hS.1 _ _ (shf_115 (vp_lt g4))) g5 ?_
      refine x_lload_n d6_closeFrom_52 3 rfl rfl ?_
      refine x_aload_n d6_closeFrom_53 0 rfl rfl ?_
      refine x_getR d6_closeFrom_54 fl6_27 (fun _ _ => rfl) (hS.1 _ _ (sh_110 b)) (hS.2.1 _ _ _ (pt_110_5 b)) ?_
      refine x_iload_n d6_closeFrom_57 2 rfl rfl ?_
      obtain ⟨g6, h⟩ := h
      refine x_aald d6_closeFrom_58 (hS.1 _ _ (sh_115 b)) (by decide) rfl g6 (hS.2.1 _ _ _ (ptf_115 (vp_lt g6))) ?_
      refine x_iload d6_closeFrom_59 4 rfl ?_
      obtain ⟨g7, h⟩ := h
      refine x_lald d6_closeFrom_61 (hS.1 _ _ (shf_115 (vp_lt g6))) g7 ?_
      refine x_ladd d6_closeFrom_62 ?_
      refine x_cSJ (Z := ym_min_J) (S := rmm_min_J) (As := [.long (xm_gl M (b + 116 + (Int32.toNatClampNeg v1)) (Int32.toNatClampNeg v5)), .long (w3 + (xm_gl M (b + 116 + (Int32.toNatClampNeg v2)) (Int32.toNatClampNeg v5)))]) (rest := [.int v5, .ref (b + 116 + (Int32.toNatClampNeg v1))]) d6_closeFrom_63 ml6_65 km_min_J rfl rfl (Nat.le_of_ble_eq_true rfl) ⟨⟨by decide, by decide⟩, by decide, by decide⟩ ⟨rfl, rfl⟩ h (fun r9 M8 h => ?_)
      obtain ⟨hS, h⟩ := h
      obtain ⟨g10, h⟩ := h
      refine x_last d6_closeFrom_66 (hS.1 _ _ (shf_115 (vp_lt g3))) g10 ?_
      refine x_iinc d6_closeFrom_67 4 rfl rfl (by decide) (L' := [(5, .int (v5 + Int32.ofInt (1))), (0, .ref (b + 110)), (1, .int v1), (2, .int v2), (3, .long w3)]) rfl ?_
      refine x_goto d6_closeFrom_70 (t := 12) (by decide) ?_
      exact xm_X.sub [1, 2, 3, 4, 0] rfl (h hS.pl)

set_option maxRecDepth 20000 in
theorem t6_bound_0 {l : Launch} {E : xm_E} {b : Nat} {c p : Bool} {Q : Option Value → xm_M → Prop} (M : xm_M) (v1 : Int32) (v2 : Int32) (hS : xm_st b c p M)
  (h : (vp_in v1 10 ∧ (vp_in v2 10 ∧ ((¬ (xm_gl M (b + 116 + (Int32.toNatClampNeg v1)) (Int32.toNatClampNeg v2)) = (Int32.toInt64 (Int64.toInt32 (xm_gl M (b + 116 + (Int32.toNatClampNeg v1)) (Int32.toNatClampNeg v2)))) → (xm_st b c p M → Q (some (.long (4611686018427387904 : Int64))) M)) ∧ ((xm_gl M (b + 116 + (Int32.toNatClampNeg v1)) (Int32.toNatClampNeg v2)) = (Int32.toInt64 (Int64.toInt32 (xm_gl M (b + 116 + (Int32.toNatClampNeg v1)) (Int32.toNatClampNeg v2)))) → (xm_st b c p M → Q (some (.long (xm_gl M (b + 116 + (Int32.toNatClampNeg v1)) (Int32.toNatClampNeg v2)))) M)))))) :
  xm_X l E y6_bound rm6_bound Q 0 [(0, .ref (b + 110)), (1, .int v1), (2, .int v2)] [] 0 0 M := by
  refine x_aload_n d6_bound_0 0 rfl rfl ?_
  refine x_getR d6_bound_1 fl6_27 (fun _ _ => rfl) (hS.1 _ _ (sh_110 b)) (hS.2.1 _ _ _ (pt_110_5 b)) ?_
  refine x_iload_n d6_bound_4 1 rfl rfl ?_
  obtain ⟨g1, h⟩ := h
  refine x_aald d6_bound_5 (hS.1 _ _ (sh_115 b)) (by decide) rfl g1 (hS.2.1 _ _ _ (ptf_115 (vp_lt g1))) ?_
  refine x_iload_n d6_bound_6 2 rfl rfl ?_
  obtain ⟨g2, h⟩ := h
  refine x_lald d6_bound_7 (hS.1 _ _ (shf_115 (vp_lt g1))) g2 ?_
  refine x_lstore_n d6_bound_8 rfl (by decide) (L' := [(3, .long (xm_gl M (b + 116 + (Int32.toNatClampNeg v1)) (Int32.toNatClampNeg v2))), (0, .ref (b + 110)), (1, .int v1), (2, .int v2)]) rfl ?_
  refine x_lload_n d6_bound_9 0 rfl rfl ?_
  refine x_lload_n d6_bound_10 0 rfl rfl ?_
  refine x_l2i d6_bound_11 ?_
  refine x_i2l d6_bound_12 ?_
  refine x_lc_ne d6_bound_13 d6_bound_14 rfl rfl (t := 21) (by decide) (fun g => ?_) (fun g => ?_)
  · have h := h.1 g
    refine x_ldc2 d6_bound_21 lc6_47 ?_
    exact x_ret (r := (some (.long (4611686018427387904 : Int64)))) d6_bound_24 xm_rJ rfl ⟨Nat.le_refl _, Nat.le_refl _⟩ (h hS)
  · have h := h.2 g
    refine x_lload_n d6_bound_17 0 rfl rfl ?_
    refine x_goto d6_bound_18 (t := 24) (by decide) ?_
    exact x_ret (r := (some (.long (xm_gl M (b + 116 + (Int32.toNatClampNeg v1)) (Int32.toNatClampNeg v2))))) d6_bound_24 xm_rJ rfl ⟨Nat.le_refl _, Nat.le_refl _⟩ (h hS)

set_option maxRecDepth 20000 in
theorem t6_takeEdge_0 {l : Launch} {E : xm_E} {b : Nat} {c p : Bool} {Q : Option Value → xm_M → Prop} (M : xm_M) (a1 : Nat) (v2 : Int32) (a3 : Nat) (ha1 : xS b a1 = some (.inr 2)) (ha3 : xS b a3 = some (.inl (100, .long))) (hS : xm_st b c p M)
  (h : xm_C l E y6_forget rm6_forget [.ref (b + 110)] M (fun r M1 => r = none ∧ xm_st b c p M1 ∧ (xm_st b c p M1 → xm_X l E y6_takeEdge rm6_takeEdge Q 7 [(0, .ref (b + 110)), (1, .ref a1), (2, .int v2), (3, .ref a3), (4, .int (0 : Int32))] [] 0 0 M1))) :
  xm_X l E y6_takeEdge rm6_takeEdge Q 0 [(0, .ref (b + 110)), (1, .ref a1), (2, .int v2), (3, .ref a3)] [] 0 0 M := by
  refine x_aload_n d6_takeEdge_0 0 rfl rfl ?_
  refine x_cVN (Z := y6_forget) (S := rm6_forget) (As := []) (rest := []) d6_takeEdge_1 ml6_71 k6_forget rfl (b := (b + 110)) (hS.1 _ _ (sh_110 b)) rfl rfl (Nat.le_of_ble_eq_true rfl) ⟨⟨by decide, by decide⟩, by decide, by decide⟩ ⟨rfl, rfl⟩ h (fun M1 h => ?_)
  obtain ⟨hS, h⟩ := h
  refine x_iconst d6_takeEdge_4 qi_0 ?_
  refine x_istore d6_takeEdge_5 (by decide) (L' := [(4, .int (0 : Int32)), (0, .ref (b + 110)), (1, .ref a1), (2, .int v2), (3, .ref a3)]) rfl ?_
  exact xm_X.sub [1, 2, 3, 4, 0] rfl (h hS)
set_option maxRecDepth 20000 in
theorem t6_takeEdge_7 {l : Launch} {E : xm_E} {b : Nat} {c p : Bool} {Q : Option Value → xm_M → Prop} (M : xm_M) (a1 : Nat) (v2 : Int32) (a3 : Nat) (v4 : Int32) (ha1 : xS b a1 = some (.inr 2)) (ha3 : xS b a3 = some (.inl (100, .long))) (hS : xm_st b c p M)
  (h : (((100 : Int32) ≤ v4 → ((¬ (xm_gi M a1 0) = (4 : Int32) → (xm_st b c p M → xm_X l E y6_takeEdge rm6_takeEdge Q 68 [(0, .ref (b + 110)), (1, .ref a1), (2, .int v2), (4, .int (0 : Int32))] [] 0 0 M)) ∧ ((xm_gi M a1 0) = (4 : Int32) → xm_C l E y6_takeSums rm6_takeSums [.ref (b + 110), .ref a1, .ref a3] M (fun r M1 => r = none ∧ xm_st b c p M1 ∧ (xm_st b c p M1 → Q none M1))))) ∧ (¬ (100 : Int32) ≤ v4 → xm_C l E y6_findBound rm6_findBound [.ref (b + 126), .ref a3, .int v4] M (fun r M3 => ∃ r4 : Bool, r = some (.int (xz r4)) ∧ xm_st b c p M3 ∧ (((xz r4) = 0 → (xm_st b c p M3 → xm_X l E y6_takeEdge rm6_takeEdge Q 7 [(0, .ref (b + 110)), (1, .ref a1), (2, .int v2), (3, .ref a3), (4, .int (v4 + Int32.ofInt (1)))] [] 0 0 M3)) ∧ (¬ (xz r4) = 0 → xm_C l E y7_carryOver rm7_carryOver [.ref (b + 126), .ref a1] M3 (fun r M5 => ∃ r6 : Bool, r = some (.int (xz r6)) ∧ xm_st b c p M5 ∧ (((xz r6) = 0 → (xm_st b c p M5 → xm_X l E y6_takeEdge rm6_takeEdge Q 7 [(0, .ref (b + 110)), (1, .ref a1), (2, .int v2), (3, .ref a3), (4, .int (v4 + Int32.ofInt (1)))] [] 0 0 M5)) ∧ (¬ (xz r6) = 0 → xm_C l E y6_append rm6_append [.ref (b + 110), .int v4] M5 (fun r M7 => r = none ∧ xm_st b c p M7 ∧ (xm_st b c p M7 → xm_X l E y6_takeEdge rm6_takeEdge Q 7 [(0, .ref (b + 110)), (1, .ref a1), (2, .int v2), (3, .ref a3), (4, .int (v4 + Int32.ofInt (1)))] [] 0 0 M7))))))))))) :
  xm_X l E y6_takeEdge rm6_takeEdge Q 7 [(0, .ref (b + 110)), (1, .ref a1), (2, .int v2), (3, .ref a3), (4, .int v4)] [] 0 0 M := by
  refine x_iload d6_takeEdge_7 4 rfl ?_
  refine x_bipush d6_takeEdge_9 qb_100 ?_
  refine x_icmp_ge d6_takeEdge_11 (t := 50) (by decide) (fun g => ?_) (fun g => ?_)
  · have h := h.1 g
    refine x_aload_n d6_takeEdge_50 1 rfl rfl ?_
    refine x_getI d6_takeEdge_51 fl6_90 (fun _ _ => rfl) (hS.1 _ _ ha1) ?_
    refine x_iconst d6_takeEdge_54 qi_4 ?_
    refine x_icmp_ne d6_takeEdge_55 (t := 65) (by decide) (fun g => ?_) (fun g => ?_)
    · have h := h.1 g
      refine x_iconst d6_takeEdge_65 qi_0 ?_
      refine x_istore d6_takeEdge_66 (by decide) (L' := [(4, .int (0 : Int32)), (0, .ref (b + 110)), (1, .ref a1), (2, .int v2), (3, .ref a3)]) rfl ?_
      exact xm_X.sub [1, 2, 3, 0] rfl (h hS)
    · have h := h.2 g
      refine x_aload_n d6_takeEdge_58 0 rfl rfl ?_
      refine x_aload_n d6_takeEdge_59 1 rfl rfl ?_
      refine x_aload_n d6_takeEdge_60 3 rfl rfl ?_
      refine x_cVN (Z := y6_takeSums) (S := rm6_takeSums) (As := [.ref a1, .ref a3]) (rest := []) d6_takeEdge_61 ml6_95 k6_takeSums rfl (b := (b + 110)) (hS.1 _ _ (sh_110 b)) rfl rfl (Nat.le_of_ble_eq_true rfl) ⟨⟨by decide, by decide⟩, by decide, by decide⟩ ⟨rfl, rfl⟩ h (fun M1 h => ?_)
      obtain ⟨hS, h⟩ := h
      exact x_ret (r := none) d6_takeEdge_64 xm_rN rfl ⟨Nat.le_refl _, Nat.le_refl _⟩ (h hS)
  · have h := h.2 g
    refine x_aload_n d6_takeEdge_14 0 rfl rfl ?_
    refine x_getR d6_takeEdge_15 fl6_33 (fun _ _ => rfl) (hS.1 _ _ (sh_110 b)) (hS.2.1 _ _ _ (pt_110_6 b)) ?_
    refine x_aload_n d6_takeEdge_18 3 rfl rfl ?_
    refine x_iload d6_takeEdge_19 4 rfl ?_
    refine x_cSZ (Z := y6_findBound) (S := rm6_findBound) (As := [.ref (b + 126), .ref a3, .int v4]) (rest := []) d6_takeEdge_21 ml6_82 k6_findBound rfl rfl (Nat.le_of_ble_eq_true rfl) ⟨⟨by decide, by decide⟩, by decide, by decide⟩ ⟨rfl, rfl⟩ h (fun r4 M3 h => ?_)
    obtain ⟨hS, h⟩ := h
    refine x_if_eq d6_takeEdge_24 (t := 44) (by decide) (fun g => ?_) (fun g => ?_)
    · have h := h.1 g
      refine x_iinc d6_takeEdge_44 4 rfl rfl (by decide) (L' := [(4, .int (v4 + Int32.ofInt (1))), (0, .ref (b + 110)), (1, .ref a1), (2, .int v2), (3, .ref a3)]) rfl ?_
      refine x_goto d6_takeEdge_47 (t := 7) (by decide) ?_
      exact xm_X.sub [1, 2, 3, 4, 0] rfl (h hS)
    · have h := h.2 g
      refine x_aload_n d6_takeEdge_27 0 rfl rfl ?_
      refine x_getR d6_takeEdge_28 fl6_33 (fun _ _ => rfl) (hS.1 _ _ (sh_110 b)) (hS.2.1 _ _ _ (pt_110_6 b)) ?_
      refine x_aload_n d6_takeEdge_31 1 rfl rfl ?_
      refine x_cVZ (Z := y7_carryOver) (S := rm7_carryOver) (As := [.ref a1]) (rest := []) d6_takeEdge_32 ml6_86 k7_carryOver rfl (b := (b + 126)) (hS.1 _ _ (sh_126 b)) rfl rfl (Nat.le_of_ble_eq_true rfl) ⟨⟨by decide, by decide⟩, by decide, by decide⟩ ⟨rfl, rfl⟩ h (fun r6 M5 h => ?_)
      obtain ⟨hS, h⟩ := h
      refine x_if_eq d6_takeEdge_35 (t := 44) (by decide) (fun g => ?_) (fun g => ?_)
      · have h := h.1 g
        refine x_iinc d6_takeEdge_44 4 rfl rfl (by decide) (L' := [(4, .int (v4 + Int32.ofInt (1))), (0, .ref (b + 110)), (1, .ref a1), (2, .int v2), (3, .ref a3)]) rfl ?_
        refine x_goto d6_takeEdge_47 (t := 7) (by decide) ?_
        exact xm_X.sub [1, 2, 3, 4, 0] rfl (h hS)
      · have h := h.2 g
        refine x_aload_n d6_takeEdge_38 0 rfl rfl ?_
        refine x_iload d6_takeEdge_39 4 rfl ?_
        refine x_cVN (Z := y6_append) (S := rm6_append) (As := [.int v4]) (rest := []) d6_takeEdge_41 ml6_78 k6_append rfl (b := (b + 110)) (hS.1 _ _ (sh_110 b)) rfl rfl (Nat.le_of_ble_eq_true rfl) ⟨⟨by decide, by decide⟩, by decide, by decide⟩ ⟨rfl, rfl⟩ h (fun M7 h => ?_)
        obtain ⟨hS, h⟩ := h
        refine x_iinc d6_takeEdge_44 4 rfl rfl (by decide) (L' := [(4, .int (v4 + Int32.ofInt (1))), (0, .ref (b + 110)), (1, .ref a1), (2, .int v2), (3, .ref a3)]) rfl ?_
        refine x_goto d6_takeEdge_47 (t := 7) (by decide) ?_
        exact xm_X.sub [1, 2, 3, 4, 0] rfl (h hS)
set_option maxRecDepth 20000 in
theorem t6_takeEdge_68 {l : Launch} {E : xm_E} {b : Nat} {c p : Bool} {Q : Option Value → xm_M → Prop} (M : xm_M) (a1 : Nat) (v2 : Int32) (v4 : Int32) (ha1 : xS b a1 = some (.inr 2)) (hS : xm_st b c p M)
  (h : (((2 : Int32) ≤ v4 → (xm_st b c p M → Q none M)) ∧ (¬ (2 : Int32) ≤ v4 → xm_C l E y2_jumpsBy rm2_jumpsBy [.ref a1, .int v2] M (fun r M1 => ∃ r2 : Bool, r = some (.int (xz r2)) ∧ xm_st b c p M1 ∧ xm_C l E y7_becomeFurther rm7_becomeFurther [.ref (b + 126), .ref a1, .int (xz r2), .int v4] M1 (fun r M3 => ∃ r4 : Bool, r = some (.int (xz r4)) ∧ xm_st b c p M3 ∧ (((xz r4) = 0 → (xm_st b c p M3 → xm_X l E y6_takeEdge rm6_takeEdge Q 68 [(0, .ref (b + 110)), (1, .ref a1), (2, .int v2), (4, .int (v4 + Int32.ofInt (1)))] [] 0 0 M3)) ∧ (¬ (xz r4) = 0 → xm_C l E y6_append rm6_append [.ref (b + 110), .int ((100 : Int32) + v4)] M3 (fun r M5 => r = none ∧ xm_st b c p M5 ∧ (xm_st b c p M5 → xm_X l E y6_takeEdge rm6_takeEdge Q 68 [(0, .ref (b + 110)), (1, .ref a1), (2, .int v2), (4, .int (v4 + Int32.ofInt (1)))] [] 0 0 M5))))))))) :
  xm_X l E y6_takeEdge rm6_takeEdge Q 68 [(0, .ref (b + 110)), (1, .ref a1), (2, .int v2), (4, .int v4)] [] 0 0 M := by
  refine x_iload d6_takeEdge_68 3 rfl ?_
  refine x_iconst d6_takeEdge_70 qi_2 ?_
  refine x_icmp_ge d6_takeEdge_71 (t := 107) (by decide) (fun g => ?_) (fun g => ?_)
  · have h := h.1 g
    exact x_ret (r := none) d6_takeEdge_107 xm_rN rfl ⟨Nat.le_refl _, Nat.le_refl _⟩ (h hS)
  · have h := h.2 g
    refine x_aload_n d6_takeEdge_74 0 rfl rfl ?_
    refine x_getR d6_takeEdge_75 fl6_33 (fun _ _ => rfl) (hS.1 _ _ (sh_110 b)) (hS.2.1 _ _ _ (pt_110_6 b)) ?_
    refine x_aload_n d6_takeEdge_78 1 rfl rfl ?_
    refine x_aload_n d6_takeEdge_79 1 rfl rfl ?_
    refine x_iload_n d6_takeEdge_80 2 rfl rfl ?_
    refine x_cVZ (Z := y2_jumpsBy) (S := rm2_jumpsBy) (As := [.int v2]) (rest := [.ref a1, .ref (b + 126)]) d6_takeEdge_81 ml6_99 k2_jumpsBy rfl (b := a1) (hS.1 _ _ ha1) rfl rfl (Nat.le_of_ble_eq_true rfl) ⟨⟨by decide, by decide⟩, by decide, by decide⟩ ⟨rfl, rfl⟩ h (fun r2 M1 h => ?_)
    obtain ⟨hS, h⟩ := h
    refine x_iload d6_takeEdge_84 3 rfl ?_
    refine x_cVZ (Z := y7_becomeFurther) (S := rm7_becomeFurther) (As := [.ref a1, .int (xz r2), .int v4]) (rest := []) d6_takeEdge_86 ml6_103 k7_becomeFurther rfl (b := (b + 126)) (hS.1 _ _ (sh_126 b)) rfl rfl (Nat.le_of_ble_eq_true rfl) ⟨⟨by decide, by decide⟩, by decide, by decide⟩ ⟨rfl, rfl⟩ h (fun r4 M3 h => ?_)
    obtain ⟨hS, h⟩ := h
    refine x_if_eq d6_takeEdge_89 (t := 101) (by decide) (fun g => ?_) (fun g => ?_)
    · have h := h.1 g
      refine x_iinc d6_takeEdge_101 3 rfl rfl (by decide) (L' := [(4, .int (v4 + Int32.ofInt (1))), (0, .ref (b + 110)), (1, .ref a1), (2, .int v2)]) rfl ?_
      refine x_goto d6_takeEdge_104 (t := 68) (by decide) ?_
      exact xm_X.sub [1, 2, 3, 0] rfl (h hS)
    · have h := h.2 g
      refine x_aload_n d6_takeEdge_92 0 rfl rfl ?_
      refine x_bipush d6_takeEdge_93 qb_100 ?_
      refine x_iload d6_takeEdge_95 3 rfl ?_
      refine x_iadd d6_takeEdge_97 ?_
      refine x_cVN (Z := y6_append) (S := rm6_append) (As := [.int ((100 : Int32) + v4)]) (rest := []) d6_takeEdge_98 ml6_78 k6_append rfl (b := (b + 110)) (hS.1 _ _ (sh_110 b)) rfl rfl (Nat.le_of_ble_eq_true rfl) ⟨⟨by decide, by decide⟩, by decide, by decide⟩ ⟨rfl, rfl⟩ h (fun M5 h => ?_)
      obtain ⟨hS, h⟩ := h
      refine x_iinc d6_takeEdge_101 3 rfl rfl (by decide) (L' := [(4, .int (v4 + Int32.ofInt (1))), (0, .ref (b + 110)), (1, .ref a1), (2, .int v2)]) rfl ?_
      refine x_goto d6_takeEdge_104 (t := 68) (by decide) ?_
      exact xm_X.sub [1, 2, 3, 0] rfl (h hS)

set_option maxRecDepth 20000 in
theorem t6_findBound_0 {l : Launch} {E : xm_E} {b : Nat} {c p : Bool} {Q : Option Value → xm_M → Prop} (M : xm_M) (a0 : Nat) (a1 : Nat) (v2 : Int32) (ha0 : xS b a0 = some (.inr 7)) (ha1 : xS b a1 = some (.inl (100, .long))) (hS : xm_st b c p M)
  (h : (vp_in v2 100 ∧ (((xm_gl M a1 (Int32.toNatClampNeg v2)) = (4611686018427387904 : Int64) → (xm_st b c p M → Q (some (.int (0 : Int32))) M)) ∧ (¬ (xm_gl M a1 (Int32.toNatClampNeg v2)) = (4611686018427387904 : Int64) → (vp_in v2 100 ∧ xm_C l E y7_become rm7_become [.ref a0, .int (v2 / (10 : Int32)), .int (v2 - v2 / (10 : Int32) * (10 : Int32)), .long (xm_gl M a1 (Int32.toNatClampNeg v2))] M (fun r M3 => ∃ r4 : Bool, r = some (.int (xz r4)) ∧ xm_st b c p M3 ∧ (((xz r4) = 0 → (xm_st b c p M3 → Q (some (.int (0 : Int32))) M3)) ∧ (¬ (xz r4) = 0 → (xm_st b c p M3 → Q (some (.int (1 : Int32))) M3))))))))) :
  xm_X l E y6_findBound rm6_findBound Q 0 [(0, .ref a0), (1, .ref a1), (2, .int v2)] [] 0 0 M := by
  refine x_aload_n d6_findBound_0 1 rfl rfl ?_
  refine x_iload_n d6_findBound_1 2 rfl rfl ?_
  obtain ⟨g1, h⟩ := h
  refine x_lald d6_findBound_2 (hS.1 _ _ ha1) g1 ?_
  refine x_ldc2 d6_findBound_3 lc6_47 ?_
  refine x_lc_eq d6_findBound_6 d6_findBound_7 rfl rfl (t := 32) (by decide) (fun g => ?_) (fun g => ?_)
  · have h := h.1 g
    refine x_iconst d6_findBound_32 qi_0 ?_
    exact x_ret (r := (some (.int (0 : Int32)))) d6_findBound_33 (xm_rZ (Or.inl rfl)) rfl ⟨Nat.le_refl _, Nat.le_refl _⟩ (h hS)
  · have h := h.2 g
    refine x_aload_n d6_findBound_10 0 rfl rfl ?_
    refine x_iload_n d6_findBound_11 2 rfl rfl ?_
    refine x_bipush d6_findBound_12 qb_10 ?_
    refine x_idiv d6_findBound_14 (by decide) ?_
    refine x_iload_n d6_findBound_15 2 rfl rfl ?_
    refine x_bipush d6_findBound_16 qb_10 ?_
    refine x_irem d6_findBound_18 (by decide) ?_
    refine x_aload_n d6_findBound_19 1 rfl rfl ?_
    refine x_iload_n d6_findBound_20 2 rfl rfl ?_
    obtain ⟨g2, h⟩ := h
    refine x_lald d6_findBound_21 (hS.1 _ _ ha1) g2 ?_
    refine x_cVZ (Z := y7_become) (S := rm7_become) (As := [.int (v2 / (10 : Int32)), .int (v2 - v2 / (10 : Int32) * (10 : Int32)), .long (xm_gl M a1 (Int32.toNatClampNeg v2))]) (rest := []) d6_findBound_22 ml6_117 k7_become rfl (b := a0) (hS.1 _ _ ha0) rfl rfl (Nat.le_of_ble_eq_true rfl) ⟨⟨by decide, by decide⟩, by decide, by decide⟩ ⟨rfl, rfl⟩ h (fun r4 M3 h => ?_)
    obtain ⟨hS, h⟩ := h
    refine x_if_eq d6_findBound_25 (t := 32) (by decide) (fun g => ?_) (fun g => ?_)
    · have h := h.1 g
      refine x_iconst d6_findBound_32 qi_0 ?_
      exact x_ret (r := (some (.int (0 : Int32)))) d6_findBound_33 (xm_rZ (Or.inl rfl)) rfl ⟨Nat.le_refl _, Nat.le_refl _⟩ (h hS)
    · have h := h.2 g
      refine x_iconst d6_findBound_28 qi_1 ?_
      refine x_goto d6_findBound_29 (t := 33) (by decide) ?_
      exact x_ret (r := (some (.int (1 : Int32)))) d6_findBound_33 (xm_rZ (Or.inr rfl)) rfl ⟨Nat.le_refl _, Nat.le_refl _⟩ (h hS)

set_option maxRecDepth 20000 in
theorem t6_takeSums_0 {l : Launch} {E : xm_E} {b : Nat} {c p : Bool} {Q : Option Value → xm_M → Prop} (M : xm_M) (a1 : Nat) (a2 : Nat) (ha1 : xS b a1 = some (.inr 2)) (ha2 : xS b a2 = some (.inl (100, .long))) (hS : xm_st b c p M)
  (h : (xm_st b c p M → xm_X l E y6_takeSums rm6_takeSums Q 23 [(0, .ref (b + 110)), (1, .ref a1), (2, .ref a2), (3, .int (((10 : Int32) * ((1 : Int32) + (xm_gi M a1 2))) + (0 : Int32))), (4, .int ((1 : Int32) + (xm_gi M a1 2))), (5, .int (0 : Int32))] [] 0 0 M)) :
  xm_X l E y6_takeSums rm6_takeSums Q 0 [(0, .ref (b + 110)), (1, .ref a1), (2, .ref a2)] [] 0 0 M := by
  refine x_bipush d6_takeSums_0 qb_10 ?_
  refine x_iconst d6_takeSums_2 qi_1 ?_
  refine x_aload_n d6_takeSums_3 1 rfl rfl ?_
  refine x_getI d6_takeSums_4 fl6_107 (fun _ _ => rfl) (hS.1 _ _ ha1) ?_
  refine x_iadd d6_takeSums_7 ?_
  refine x_imul d6_takeSums_8 ?_
  refine x_iconst d6_takeSums_9 qi_0 ?_
  refine x_iadd d6_takeSums_10 ?_
  refine x_istore_n d6_takeSums_11 rfl (by decide) (L' := [(3, .int (((10 : Int32) * ((1 : Int32) + (xm_gi M a1 2))) + (0 : Int32))), (0, .ref (b + 110)), (1, .ref a1), (2, .ref a2)]) rfl ?_
  refine x_iconst d6_takeSums_12 qi_1 ?_
  refine x_aload_n d6_takeSums_13 2 rfl rfl ?_
  refine x_getI d6_takeSums_14 fl6_107 (fun _ _ => rfl) (hS.1 _ _ ha1) ?_
  refine x_iadd d6_takeSums_17 ?_
  refine x_istore d6_takeSums_18 (by decide) (L' := [(4, .int ((1 : Int32) + (xm_gi M a1 2))), (3, .int (((10 : Int32) * ((1 : Int32) + (xm_gi M a1 2))) + (0 : Int32))), (0, .ref (b + 110)), (1, .ref a1), (2, .ref a2)]) rfl ?_
  refine x_iconst d6_takeSums_20 qi_0 ?_
  refine x_istore d6_takeSums_21 (by decide) (L' := [(5, .int (0 : Int32)), (4, .int ((1 : Int32) + (xm_gi M a1 2))), (3, .int (((10 : Int32) * ((1 : Int32) + (xm_gi M a1 2))) + (0 : Int32))), (0, .ref (b + 110)), (1, .ref a1), (2, .ref a2)]) rfl ?_
  exact xm_X.sub [3, 4, 5, 2, 1, 0] rfl (h hS)
set_option maxRecDepth 20000 in
theorem t6_takeSums_23 {l : Launch} {E : xm_E} {b : Nat} {c p : Bool} {Q : Option Value → xm_M → Prop} (M : xm_M) (a1 : Nat) (a2 : Nat) (v3 : Int32) (v4 : Int32) (v5 : Int32) (ha1 : xS b a1 = some (.inr 2)) (ha2 : xS b a2 = some (.inl (100, .long))) (hS : xm_st b c p M)
  (h : (((100 : Int32) ≤ v5 → (xm_st b c p M → Q none M)) ∧ (¬ (100 : Int32) ≤ v5 → ((¬ (v5 / (10 : Int32)) = ((1 : Int32) + (xm_gi M a1 1)) → xm_C l E y6_findBound rm6_findBound [.ref (b + 127), .ref a2, .int v5] M (fun r M1 => ∃ r2 : Bool, r = some (.int (xz r2)) ∧ xm_st b c p M1 ∧ (((xz r2) = 0 → (xm_st b c p M1 → xm_X l E y6_takeSums rm6_takeSums Q 23 [(0, .ref (b + 110)), (1, .ref a1), (2, .ref a2), (3, .int v3), (4, .int v4), (5, .int (v5 + Int32.ofInt (1)))] [] 0 0 M1)) ∧ (¬ (xz r2) = 0 → xm_C l E y6_findBound rm6_findBound [.ref (b + 128), .ref a2, .int v4] M1 (fun r M3 => ∃ r4 : Bool, r = some (.int (xz r4)) ∧ xm_st b c p M3 ∧ (((xz r4) = 0 → (xm_st b c p M3 → xm_X l E y6_takeSums rm6_takeSums Q 23 [(0, .ref (b + 110)), (1, .ref a1), (2, .ref a2), (3, .int v3), (4, .int v4), (5, .int (v5 + Int32.ofInt (1)))] [] 0 0 M3)) ∧ (¬ (xz r4) = 0 → xm_C l E y7_becomeSum rm7_becomeSum [.ref (b + 126), .ref a1, .ref (b + 127), .ref (b + 128)] M3 (fun r M5 => ∃ r6 : Bool, r = some (.int (xz r6)) ∧ xm_st b c p M5 ∧ (((xz r6) = 0 → (xm_st b c p M5 → xm_X l E y6_takeSums rm6_takeSums Q 23 [(0, .ref (b + 110)), (1, .ref a1), (2, .ref a2), (3, .int v3), (4, .int v4), (5, .int (v5 + Int32.ofInt (1)))] [] 0 0 M5)) ∧ (¬ (xz r6) = 0 → xm_C l E y6_append rm6_append [.ref (b + 110), .int (((100 : Int32) + ((100 : Int32) * v5)) + v4)] M5 (fun r M7 => r = none ∧ xm_st b c p M7 ∧ (xm_st b c p M7 → xm_X l E y6_takeSums rm6_takeSums Q 23 [(0, .ref (b + 110)), (1, .ref a1), (2, .ref a2), (3, .int v3), (4, .int v4), (5, .int (v5 + Int32.ofInt (1)))] [] 0 0 M7)))))))))))) ∧ ((v5 / (10 : Int32)) = ((1 : Int32) + (xm_gi M a1 1)) → xm_C l E y6_findBound rm6_findBound [.ref (b + 127), .ref a2, .int v5] M (fun r M9 => ∃ r10 : Bool, r = some (.int (xz r10)) ∧ xm_st b c p M9 ∧ (((xz r10) = 0 → (xm_st b c p M9 → xm_X l E y6_takeSums rm6_takeSums Q 23 [(0, .ref (b + 110)), (1, .ref a1), (2, .ref a2), (3, .int v3), (4, .int v4), (5, .int (v5 + Int32.ofInt (1)))] [] 0 0 M9)) ∧ (¬ (xz r10) = 0 → xm_C l E y6_findBound rm6_findBound [.ref (b + 128), .ref a2, .int v3] M9 (fun r M11 => ∃ r12 : Bool, r = some (.int (xz r12)) ∧ xm_st b c p M11 ∧ (((xz r12) = 0 → (xm_st b c p M11 → xm_X l E y6_takeSums rm6_takeSums Q 23 [(0, .ref (b + 110)), (1, .ref a1), (2, .ref a2), (3, .int v3), (4, .int v4), (5, .int (v5 + Int32.ofInt (1)))] [] 0 0 M11)) ∧ (¬ (xz r12) = 0 → xm_C l E y7_becomeSum rm7_becomeSum [.ref (b + 126), .ref a1, .ref (b + 127), .ref (b + 128)] M11 (fun r M13 => ∃ r14 : Bool, r = some (.int (xz r14)) ∧ xm_st b c p M13 ∧ (((xz r14) = 0 → (xm_st b c p M13 → xm_X l E y6_takeSums rm6_takeSums Q 23 [(0, .ref (b + 110)), (1, .ref a1), (2, .ref a2), (3, .int v3), (4, .int v4), (5, .int (v5 + Int32.ofInt (1)))] [] 0 0 M13)) ∧ (¬ (xz r14) = 0 → xm_C l E y6_append rm6_append [.ref (b + 110), .int (((100 : Int32) + ((100 : Int32) * v5)) + v3)] M13 (fun r M15 => r = none ∧ xm_st b c p M15 ∧ (xm_st b c p M15 → xm_X l E y6_takeSums rm6_takeSums Q 23 [(0, .ref (b + 110)), (1, .ref a1), (2, .ref a2), (3, .int v3), (4, .int v4), (5, .int (v5 + Int32.ofInt (1)))] [] 0 0 M15)))))))))))))))) :
  xm_X l E y6_takeSums rm6_takeSums Q 23 [(0, .ref (b + 110)), (1, .ref a1), (2, .ref a2), (3, .int v3), (4, .int v4), (5, .int v5)] [] 0 0 M := by
  refine x_iload d6_takeSums_23 5 rfl ?_
  refine x_bipush d6_takeSums_25 qb_100 ?_
  refine x_icmp_ge d6_takeSums_27 (t := 118) (by decide) (fun g => ?_) (fun g => ?_)
  · have h := h.1 g
    exact x_ret (r := none) d6_takeSums_118 xm_rN rfl ⟨Nat.le_refl _, Nat.le_refl _⟩ (h hS)
  · have h := h.2 g
    refine x_iload d6_takeSums_30 5 rfl ?_
    refine x_bipush d6_takeSums_32 qb_10 ?_
    refine x_idiv d6_takeSums_34 (by decide) ?_
    refine x_iconst d6_takeSums_35 qi_1 ?_
    refine x_aload_n d6_takeSums_36 1 rfl rfl ?_
    refine x_getI d6_takeSums_37 fl6_110 (fun _ _ => rfl) (hS.1 _ _ ha1) ?_
    refine x_iadd d6_takeSums_40 ?_
    refine x_icmp_ne d6_takeSums_41 (t := 48) (by decide) (fun g => ?_) (fun g => ?_)
    · have h := h.1 g
      refine x_iload d6_takeSums_48 4 rfl ?_
      refine x_istore d6_takeSums_50 (by decide) (L' := [(6, .int v4), (0, .ref (b + 110)), (1, .ref a1), (2, .ref a2), (3, .int v3), (4, .int v4), (5, .int v5)]) rfl ?_
      refine x_aload_n d6_takeSums_52 1 rfl rfl ?_
      refine x_getR d6_takeSums_53 fl6_37 (fun _ _ => rfl) (hS.1 _ _ (sh_110 b)) (hS.2.1 _ _ _ (pt_110_7 b)) ?_
      refine x_aload_n d6_takeSums_56 3 rfl rfl ?_
      refine x_iload d6_takeSums_57 6 rfl ?_
      refine x_cSZ (Z := y6_findBound) (S := rm6_findBound) (As := [.ref (b + 127), .ref a2, .int v5]) (rest := []) d6_takeSums_59 ml6_82 k6_findBound rfl rfl (Nat.le_of_ble_eq_true rfl) ⟨⟨by decide, by decide⟩, by decide, by decide⟩ ⟨rfl, rfl⟩ h (fun r2 M1 h => ?_)
      obtain ⟨hS, h⟩ := h
      refine x_if_eq d6_takeSums_62 (t := 112) (by decide) (fun g => ?_) (fun g => ?_)
      · have h := h.1 g
        refine x_iinc d6_takeSums_112 6 rfl rfl (by decide) (L' := [(5, .int (v5 + Int32.ofInt (1))), (6, .int v4), (0, .ref (b + 110)), (1, .ref a1), (2, .ref a2), (3, .int v3), (4, .int v4)]) rfl ?_
        refine x_goto d6_takeSums_115 (t := 23) (by decide) ?_
        exact xm_X.sub [2, 3, 4, 5, 6, 0] rfl (h hS)
      · have h := h.2 g
        refine x_aload_n d6_takeSums_65 1 rfl rfl ?_
        refine x_getR d6_takeSums_66 fl6_40 (fun _ _ => rfl) (hS.1 _ _ (sh_110 b)) (hS.2.1 _ _ _ (pt_110_8 b)) ?_
        refine x_aload_n d6_takeSums_69 3 rfl rfl ?_
        refine x_iload d6_takeSums_70 0 rfl ?_
        refine x_cSZ (Z := y6_findBound) (S := rm6_findBound) (As := [.ref (b + 128), .ref a2, .int v4]) (rest := []) d6_takeSums_72 ml6_82 k6_findBound rfl rfl (Nat.le_of_ble_eq_true rfl) ⟨⟨by decide, by decide⟩, by decide, by decide⟩ ⟨rfl, rfl⟩ h (fun r4 M3 h => ?_)
        obtain ⟨hS, h⟩ := h
        refine x_if_eq d6_takeSums_75 (t := 112) (by decide) (fun g => ?_) (fun g => ?_)
        · have h := h.1 g
          refine x_iinc d6_takeSums_112 6 rfl rfl (by decide) (L' := [(5, .int (v5 + Int32.ofInt (1))), (6, .int v4), (0, .ref (b + 110)), (1, .ref a1), (2, .ref a2), (3, .int v3), (4, .int v4)]) rfl ?_
          refine x_goto d6_takeSums_115 (t := 23) (by decide) ?_
          exact xm_X.sub [2, 3, 4, 5, 6, 0] rfl (h hS)
        · have h := h.2 g
          refine x_aload_n d6_takeSums_78 1 rfl rfl ?_
          refine x_getR d6_takeSums_79 fl6_33 (fun _ _ => rfl) (hS.1 _ _ (sh_110 b)) (hS.2.1 _ _ _ (pt_110_6 b)) ?_
          refine x_aload_n d6_takeSums_82 2 rfl rfl ?_
          refine x_aload_n d6_takeSums_83 1 rfl rfl ?_
          refine x_getR d6_takeSums_84 fl6_37 (fun _ _ => rfl) (hS.1 _ _ (sh_110 b)) (hS.2.1 _ _ _ (pt_110_7 b)) ?_
          refine x_aload_n d6_takeSums_87 1 rfl rfl ?_
          refine x_getR d6_takeSums_88 fl6_40 (fun _ _ => rfl) (hS.1 _ _ (sh_110 b)) (hS.2.1 _ _ _ (pt_110_8 b)) ?_
          refine x_cVZ (Z := y7_becomeSum) (S := rm7_becomeSum) (As := [.ref a1, .ref (b + 127), .ref (b + 128)]) (rest := []) d6_takeSums_91 ml6_113 k7_becomeSum rfl (b := (b + 126)) (hS.1 _ _ (sh_126 b)) rfl rfl (Nat.le_of_ble_eq_true rfl) ⟨⟨by decide, by decide⟩, by decide, by decide⟩ ⟨rfl, rfl⟩ h (fun r6 M5 h => ?_)
          obtain ⟨hS, h⟩ := h
          refine x_if_eq d6_takeSums_94 (t := 112) (by decide) (fun g => ?_) (fun g => ?_)
          · have h := h.1 g
            refine x_iinc d6_takeSums_112 6 rfl rfl (by decide) (L' := [(5, .int (v5 + Int32.ofInt (1))), (6, .int v4), (0, .ref (b + 110)), (1, .ref a1), (2, .ref a2), (3, .int v3), (4, .int v4)]) rfl ?_
            refine x_goto d6_takeSums_115 (t := 23) (by decide) ?_
            exact xm_X.sub [2, 3, 4, 5, 6, 0] rfl (h hS)
          · have h := h.2 g
            refine x_aload_n d6_takeSums_97 1 rfl rfl ?_
            refine x_bipush d6_takeSums_98 qb_100 ?_
            refine x_bipush d6_takeSums_100 qb_100 ?_
            refine x_iload d6_takeSums_102 6 rfl ?_
            refine x_imul d6_takeSums_104 ?_
            refine x_iadd d6_takeSums_105 ?_
            refine x_iload d6_takeSums_106 0 rfl ?_
            refine x_iadd d6_takeSums_108 ?_
            refine x_cVN (Z := y6_append) (S := rm6_append) (As := [.int (((100 : Int32) + ((100 : Int32) * v5)) + v4)]) (rest := []) d6_takeSums_109 ml6_78 k6_append rfl (b := (b + 110)) (hS.1 _ _ (sh_110 b)) rfl rfl (Nat.le_of_ble_eq_true rfl) ⟨⟨by decide, by decide⟩, by decide, by decide⟩ ⟨rfl, rfl⟩ h (fun M7 h => ?_)
            obtain ⟨hS, h⟩ := h
            refine x_iinc d6_takeSums_112 6 rfl rfl (by decide) (L' := [(5, .int (v5 + Int32.ofInt (1))), (6, .int v4), (0, .ref (b + 110)), (1, .ref a1), (2, .ref a2), (3, .int v3), (4, .int v4)]) rfl ?_
            refine x_goto d6_takeSums_115 (t := 23) (by decide) ?_
            exact xm_X.sub [2, 3, 4, 5, 6, 0] rfl (h hS)
    · have h := h.2 g
      refine x_iload_n d6_takeSums_44 3 rfl rfl ?_
      refine x_goto d6_takeSums_45 (t := 50) (by decide) ?_
      refine x_istore d6_takeSums_50 (by decide) (L' := [(6, .int v3), (0, .ref (b + 110)), (1, .ref a1), (2, .ref a2), (3, .int v3), (4, .int v4), (5, .int v5)]) rfl ?_
      refine x_aload_n d6_takeSums_52 1 rfl rfl ?_
      refine x_getR d6_takeSums_53 fl6_37 (fun _ _ => rfl) (hS.1 _ _ (sh_110 b)) (hS.2.1 _ _ _ (pt_110_7 b)) ?_
      refine x_aload_n d6_takeSums_56 3 rfl rfl ?_
      refine x_iload d6_takeSums_57 6 rfl ?_
      refine x_cSZ (Z := y6_findBound) (S := rm6_findBound) (As := [.ref (b + 127), .ref a2, .int v5]) (rest := []) d6_takeSums_59 ml6_82 k6_findBound rfl rfl (Nat.le_of_ble_eq_true rfl) ⟨⟨by decide, by decide⟩, by decide, by decide⟩ ⟨rfl, rfl⟩ h (fun r10 M9 h => ?_)
      obtain ⟨hS, h⟩ := h
      refine x_if_eq d6_takeSums_62 (t := 112) (by decide) (fun g => ?_) (fun g => ?_)
      · have h := h.1 g
        refine x_iinc d6_takeSums_112 6 rfl rfl (by decide) (L' := [(5, .int (v5 + Int32.ofInt (1))), (6, .int v3), (0, .ref (b + 110)), (1, .ref a1), (2, .ref a2), (3, .int v3), (4, .int v4)]) rfl ?_
        refine x_goto d6_takeSums_115 (t := 23) (by decide) ?_
        exact xm_X.sub [2, 3, 4, 5, 6, 0] rfl (h hS)
      · have h := h.2 g
        refine x_aload_n d6_takeSums_65 1 rfl rfl ?_
        refine x_getR d6_takeSums_66 fl6_40 (fun _ _ => rfl) (hS.1 _ _ (sh_110 b)) (hS.2.1 _ _ _ (pt_110_8 b)) ?_
        refine x_aload_n d6_takeSums_69 3 rfl rfl ?_
        refine x_iload d6_takeSums_70 0 rfl ?_
        refine x_cSZ (Z := y6_findBound) (S := rm6_findBound) (As := [.ref (b + 128), .ref a2, .int v3]) (rest := []) d6_takeSums_72 ml6_82 k6_findBound rfl rfl (Nat.le_of_ble_eq_true rfl) ⟨⟨by decide, by decide⟩, by decide, by decide⟩ ⟨rfl, rfl⟩ h (fun r12 M11 h => ?_)
        obtain ⟨hS, h⟩ := h
        refine x_if_eq d6_takeSums_75 (t := 112) (by decide) (fun g => ?_) (fun g => ?_)
        · have h := h.1 g
          refine x_iinc d6_takeSums_112 6 rfl rfl (by decide) (L' := [(5, .int (v5 + Int32.ofInt (1))), (6, .int v3), (0, .ref (b + 110)), (1, .ref a1), (2, .ref a2), (3, .int v3), (4, .int v4)]) rfl ?_
          refine x_goto d6_takeSums_115 (t := 23) (by decide) ?_
          exact xm_X.sub [2, 3, 4, 5, 6, 0] rfl (h hS)
        · have h := h.2 g
          refine x_aload_n d6_takeSums_78 1 rfl rfl ?_
          refine x_getR d6_takeSums_79 fl6_33 (fun _ _ => rfl) (hS.1 _ _ (sh_110 b)) (hS.2.1 _ _ _ (pt_110_6 b)) ?_
          refine x_aload_n d6_takeSums_82 2 rfl rfl ?_
          refine x_aload_n d6_takeSums_83 1 rfl rfl ?_
          refine x_getR d6_takeSums_84 fl6_37 (fun _ _ => rfl) (hS.1 _ _ (sh_110 b)) (hS.2.1 _ _ _ (pt_110_7 b)) ?_
          refine x_aload_n d6_takeSums_87 1 rfl rfl ?_
          refine x_getR d6_takeSums_88 fl6_40 (fun _ _ => rfl) (hS.1 _ _ (sh_110 b)) (hS.2.1 _ _ _ (pt_110_8 b)) ?_
          refine x_cVZ (Z := y7_becomeSum) (S := rm7_becomeSum) (As := [.ref a1, .ref (b + 127), .ref (b + 128)]) (rest := []) d6_takeSums_91 ml6_113 k7_becomeSum rfl (b := (b + 126)) (hS.1 _ _ (sh_126 b)) rfl rfl (Nat.le_of_ble_eq_true rfl) ⟨⟨by decide, by decide⟩, by decide, by decide⟩ ⟨rfl, rfl⟩ h (fun r14 M13 h => ?_)
          obtain ⟨hS, h⟩ := h
          refine x_if_eq d6_takeSums_94 (t := 112) (by decide) (fun g => ?_) (fun g => ?_)
          · have h := h.1 g
            refine x_iinc d6_takeSums_112 6 rfl rfl (by decide) (L' := [(5, .int (v5 + Int32.ofInt (1))), (6, .int v3), (0, .ref (b + 110)), (1, .ref a1), (2, .ref a2), (3, .int v3), (4, .int v4)]) rfl ?_
            refine x_goto d6_takeSums_115 (t := 23) (by decide) ?_
            exact xm_X.sub [2, 3, 4, 5, 6, 0] rfl (h hS)
          · have h := h.2 g
            refine x_aload_n d6_takeSums_97 1 rfl rfl ?_
            refine x_bipush d6_takeSums_98 qb_100 ?_
            refine x_bipush d6_takeSums_100 qb_100 ?_
            refine x_iload d6_takeSums_102 6 rfl ?_
            refine x_imul d6_takeSums_104 ?_
            refine x_iadd d6_takeSums_105 ?_
            refine x_iload d6_takeSums_106 0 rfl ?_
            refine x_iadd d6_takeSums_108 ?_
            refine x_cVN (Z := y6_append) (S := rm6_append) (As := [.int (((100 : Int32) + ((100 : Int32) * v5)) + v3)]) (rest := []) d6_takeSums_109 ml6_78 k6_append rfl (b := (b + 110)) (hS.1 _ _ (sh_110 b)) rfl rfl (Nat.le_of_ble_eq_true rfl) ⟨⟨by decide, by decide⟩, by decide, by decide⟩ ⟨rfl, rfl⟩ h (fun M15 h => ?_)
            obtain ⟨hS, h⟩ := h
            refine x_iinc d6_takeSums_112 6 rfl rfl (by decide) (L' := [(5, .int (v5 + Int32.ofInt (1))), (6, .int v3), (0, .ref (b + 110)), (1, .ref a1), (2, .ref a2), (3, .int v3), (4, .int v4)]) rfl ?_
            refine x_goto d6_takeSums_115 (t := 23) (by decide) ?_
            exact xm_X.sub [2, 3, 4, 5, 6, 0] rfl (h hS)

set_option maxRecDepth 20000 in
theorem t6_takeFacts_0 {l : Launch} {E : xm_E} {b : Nat} {c p : Bool} {Q : Option Value → xm_M → Prop} (M : xm_M) (a1 : Nat) (ha1 : xS b a1 = some (.inl (100, .long))) (hS : xm_st b c p M)
  (h : xm_C l E y6_forget rm6_forget [.ref (b + 110)] M (fun r M1 => r = none ∧ xm_st b c p M1 ∧ (xm_st b c p M1 → xm_X l E y6_takeFacts rm6_takeFacts Q 6 [(0, .ref (b + 110)), (1, .ref a1), (2, .int (0 : Int32))] [] 0 0 M1))) :
  xm_X l E y6_takeFacts rm6_takeFacts Q 0 [(0, .ref (b + 110)), (1, .ref a1)] [] 0 0 M := by
  refine x_aload_n d6_takeFacts_0 0 rfl rfl ?_
  refine x_cVN (Z := y6_forget) (S := rm6_forget) (As := []) (rest := []) d6_takeFacts_1 ml6_71 k6_forget rfl (b := (b + 110)) (hS.1 _ _ (sh_110 b)) rfl rfl (Nat.le_of_ble_eq_true rfl) ⟨⟨by decide, by decide⟩, by decide, by decide⟩ ⟨rfl, rfl⟩ h (fun M1 h => ?_)
  obtain ⟨hS, h⟩ := h
  refine x_iconst d6_takeFacts_4 qi_0 ?_
  refine x_istore_n d6_takeFacts_5 rfl (by decide) (L' := [(2, .int (0 : Int32)), (0, .ref (b + 110)), (1, .ref a1)]) rfl ?_
  exact xm_X.sub [1, 2, 0] rfl (h hS)
set_option maxRecDepth 20000 in
theorem t6_takeFacts_6 {l : Launch} {E : xm_E} {b : Nat} {c p : Bool} {Q : Option Value → xm_M → Prop} (M : xm_M) (a1 : Nat) (v2 : Int32) (ha1 : xS b a1 = some (.inl (100, .long))) (hS : xm_st b c p M)
  (h : (((100 : Int32) ≤ v2 → (xm_st b c p M → Q none M)) ∧ (¬ (100 : Int32) ≤ v2 → xm_C l E y6_findBound rm6_findBound [.ref (b + 126), .ref a1, .int v2] M (fun r M1 => ∃ r2 : Bool, r = some (.int (xz r2)) ∧ xm_st b c p M1 ∧ (((xz r2) = 0 → (xm_st b c p M1 → xm_X l E y6_takeFacts rm6_takeFacts Q 6 [(0, .ref (b + 110)), (1, .ref a1), (2, .int (v2 + Int32.ofInt (1)))] [] 0 0 M1)) ∧ (¬ (xz r2) = 0 → xm_C l E y6_append rm6_append [.ref (b + 110), .int v2] M1 (fun r M3 => r = none ∧ xm_st b c p M3 ∧ (xm_st b c p M3 → xm_X l E y6_takeFacts rm6_takeFacts Q 6 [(0, .ref (b + 110)), (1, .ref a1), (2, .int (v2 + Int32.ofInt (1)))] [] 0 0 M3)))))))) :
  xm_X l E y6_takeFacts rm6_takeFacts Q 6 [(0, .ref (b + 110)), (1, .ref a1), (2, .int v2)] [] 0 0 M := by
  refine x_iload_n d6_takeFacts_6 2 rfl rfl ?_
  refine x_bipush d6_takeFacts_7 qb_100 ?_
  refine x_icmp_ge d6_takeFacts_9 (t := 35) (by decide) (fun g => ?_) (fun g => ?_)
  · have h := h.1 g
    exact x_ret (r := none) d6_takeFacts_35 xm_rN rfl ⟨Nat.le_refl _, Nat.le_refl _⟩ (h hS)
  · have h := h.2 g
    refine x_aload_n d6_takeFacts_12 0 rfl rfl ?_
    refine x_getR d6_takeFacts_13 fl6_33 (fun _ _ => rfl) (hS.1 _ _ (sh_110 b)) (hS.2.1 _ _ _ (pt_110_6 b)) ?_
    refine x_aload_n d6_takeFacts_16 1 rfl rfl ?_
    refine x_iload_n d6_takeFacts_17 2 rfl rfl ?_
    refine x_cSZ (Z := y6_findBound) (S := rm6_findBound) (As := [.ref (b + 126), .ref a1, .int v2]) (rest := []) d6_takeFacts_18 ml6_82 k6_findBound rfl rfl (Nat.le_of_ble_eq_true rfl) ⟨⟨by decide, by decide⟩, by decide, by decide⟩ ⟨rfl, rfl⟩ h (fun r2 M1 h => ?_)
    obtain ⟨hS, h⟩ := h
    refine x_if_eq d6_takeFacts_21 (t := 29) (by decide) (fun g => ?_) (fun g => ?_)
    · have h := h.1 g
      refine x_iinc d6_takeFacts_29 2 rfl rfl (by decide) (L' := [(2, .int (v2 + Int32.ofInt (1))), (0, .ref (b + 110)), (1, .ref a1)]) rfl ?_
      refine x_goto d6_takeFacts_32 (t := 6) (by decide) ?_
      exact xm_X.sub [1, 2, 0] rfl (h hS)
    · have h := h.2 g
      refine x_aload_n d6_takeFacts_24 0 rfl rfl ?_
      refine x_iload_n d6_takeFacts_25 2 rfl rfl ?_
      refine x_cVN (Z := y6_append) (S := rm6_append) (As := [.int v2]) (rest := []) d6_takeFacts_26 ml6_78 k6_append rfl (b := (b + 110)) (hS.1 _ _ (sh_110 b)) rfl rfl (Nat.le_of_ble_eq_true rfl) ⟨⟨by decide, by decide⟩, by decide, by decide⟩ ⟨rfl, rfl⟩ h (fun M3 h => ?_)
      obtain ⟨hS, h⟩ := h
      refine x_iinc d6_takeFacts_29 2 rfl rfl (by decide) (L' := [(2, .int (v2 + Int32.ofInt (1))), (0, .ref (b + 110)), (1, .ref a1)]) rfl ?_
      refine x_goto d6_takeFacts_32 (t := 6) (by decide) ?_
      exact xm_X.sub [1, 2, 0] rfl (h hS)
