set_option maxRecDepth 20000 in
theorem t11_findRound_0 {l : Launch} {E : xm_E} {b : Nat} {c p : Bool} {Q : Option Value → xm_M → Prop} (M : xm_M)  (hS : xm_st b c p M)
  (h : (xm_st b c p M → xm_X l E y11_findRound rm11_findRound Q 2 [(0, .ref (b + 154)), (1, .int (0 : Int32))] [] 0 0 M)) :
  xm_X l E y11_findRound rm11_findRound Q 0 [(0, .ref (b + 154))] [] 0 0 M := by
  refine x_iconst d11_findRound_0 qi_0 ?_
  refine x_istore_n d11_findRound_1 rfl (by decide) (L' := [(1, .int (0 : Int32)), (0, .ref (b + 154))]) rfl ?_
  exact xm_X.sub [1, 0] rfl (h hS)
set_option maxRecDepth 20000 in
theorem t11_findRound_2 {l : Launch} {E : xm_E} {b : Nat} {c p : Bool} {Q : Option Value → xm_M → Prop} (M : xm_M) (v1 : Int32) (hS : xm_st b c p M)
  (h : (((10 : Int32) ≤ v1 → (xm_st b c p M → Q (some (.int (-1 : Int32))) M)) ∧ (¬ (10 : Int32) ≤ v1 → xm_C l E y11_findReason rm11_findReason [.ref (b + 154), .int v1, .int v1, .long (-1 : Int64)] M (fun r M1 => ∃ r2 : Bool, r = some (.int (xz r2)) ∧ xm_st b c p M1 ∧ (((xz r2) = 0 → (xm_st b c p M1 → xm_X l E y11_findRound rm11_findRound Q 2 [(0, .ref (b + 154)), (1, .int (v1 + Int32.ofInt (1)))] [] 0 0 M1)) ∧ (¬ (xz r2) = 0 → (xm_st b c p M1 → Q (some (.int v1)) M1))))))) :
  xm_X l E y11_findRound rm11_findRound Q 2 [(0, .ref (b + 154)), (1, .int v1)] [] 0 0 M := by
  refine x_iload_n d11_findRound_2 1 rfl rfl ?_
  refine x_bipush d11_findRound_3 qb_10 ?_
  refine x_icmp_ge d11_findRound_5 (t := 28) (by decide) (fun g => ?_) (fun g => ?_)
  · have h := h.1 g
    refine x_iconst d11_findRound_28 qi_n1 ?_
    exact x_ret (r := (some (.int (-1 : Int32)))) d11_findRound_29 xm_rI rfl ⟨Nat.le_refl _, Nat.le_refl _⟩ (h hS)
  · have h := h.2 g
    refine x_aload_n d11_findRound_8 0 rfl rfl ?_
    refine x_iload_n d11_findRound_9 1 rfl rfl ?_
    refine x_iload_n d11_findRound_10 1 rfl rfl ?_
    refine x_ldc2 d11_findRound_11 lc11_119 ?_
    refine x_cVZ (Z := y11_findReason) (S := rm11_findReason) (As := [.int v1, .int v1, .long (-1 : Int64)]) (rest := []) d11_findRound_14 ml11_173 k11_findReason rfl (b := (b + 154)) (hS.1 _ _ (sh_154 b)) rfl rfl (Nat.le_of_ble_eq_true rfl) ⟨⟨by decide, by decide⟩, by decide, by decide⟩ ⟨rfl, rfl⟩ h (fun r2 M1 h => ?_)
    obtain ⟨hS, h⟩ := h
    refine x_if_eq d11_findRound_17 (t := 22) (by decide) (fun g => ?_) (fun g => ?_)
    · have h := h.1 g
      refine x_iinc d11_findRound_22 1 rfl rfl (by decide) (L' := [(1, .int (v1 + Int32.ofInt (1))), (0, .ref (b + 154))]) rfl ?_
      refine x_goto d11_findRound_25 (t := 2) (by decide) ?_
      exact xm_X.sub [1, 0] rfl (h hS)
    · have h := h.2 g
      refine x_iload_n d11_findRound_20 1 rfl rfl ?_
      exact x_ret (r := (some (.int v1))) d11_findRound_21 xm_rI rfl ⟨Nat.le_refl _, Nat.le_refl _⟩ (h hS)

set_option maxRecDepth 20000 in
theorem t11_factsAt_0 {l : Launch} {E : xm_E} {b : Nat} {c p : Bool} {Q : Option Value → xm_M → Prop} (M : xm_M) (v1 : Int32) (hS : xm_st b c p M)
  (h : (xm_st b c p M → xm_X l E y11_factsAt rm11_factsAt Q 4 [(0, .ref (b + 154)), (1, .int v1), (2, .int (0 : Int32)), (3, .int (0 : Int32))] [] 0 0 M)) :
  xm_X l E y11_factsAt rm11_factsAt Q 0 [(0, .ref (b + 154)), (1, .int v1)] [] 0 0 M := by
  refine x_iconst d11_factsAt_0 qi_0 ?_
  refine x_istore_n d11_factsAt_1 rfl (by decide) (L' := [(2, .int (0 : Int32)), (0, .ref (b + 154)), (1, .int v1)]) rfl ?_
  refine x_iconst d11_factsAt_2 qi_0 ?_
  refine x_istore_n d11_factsAt_3 rfl (by decide) (L' := [(3, .int (0 : Int32)), (2, .int (0 : Int32)), (0, .ref (b + 154)), (1, .int v1)]) rfl ?_
  exact xm_X.sub [2, 3, 1, 0] rfl (h hS)
set_option maxRecDepth 20000 in
theorem t11_factsAt_4 {l : Launch} {E : xm_E} {b : Nat} {c p : Bool} {Q : Option Value → xm_M → Prop} (M : xm_M) (v1 : Int32) (v2 : Int32) (v3 : Int32) (hS : xm_st b c p M)
  (h : (((100 : Int32) ≤ v3 → (xm_st b c p M → Q (some (.int v2)) M)) ∧ (¬ (100 : Int32) ≤ v3 → (vp_in (((100 : Int32) * v1) + v3) 4800 ∧ (((xm_gi M (b + 172) (Int32.toNatClampNeg (((100 : Int32) * v1) + v3))) = 0 → (xm_st b c p M → xm_X l E y11_factsAt rm11_factsAt Q 4 [(0, .ref (b + 154)), (1, .int v1), (2, .int (v2 + (0 : Int32))), (3, .int (v3 + Int32.ofInt (1)))] [] 0 0 M)) ∧ (¬ (xm_gi M (b + 172) (Int32.toNatClampNeg (((100 : Int32) * v1) + v3))) = 0 → (xm_st b c p M → xm_X l E y11_factsAt rm11_factsAt Q 4 [(0, .ref (b + 154)), (1, .int v1), (2, .int (v2 + (1 : Int32))), (3, .int (v3 + Int32.ofInt (1)))] [] 0 0 M))))))) :
  xm_X l E y11_factsAt rm11_factsAt Q 4 [(0, .ref (b + 154)), (1, .int v1), (2, .int v2), (3, .int v3)] [] 0 0 M := by
  refine x_iload_n d11_factsAt_4 3 rfl rfl ?_
  refine x_bipush d11_factsAt_5 qb_100 ?_
  refine x_icmp_ge d11_factsAt_7 (t := 38) (by decide) (fun g => ?_) (fun g => ?_)
  · have h := h.1 g
    refine x_iload_n d11_factsAt_38 2 rfl rfl ?_
    exact x_ret (r := (some (.int v2))) d11_factsAt_39 xm_rI rfl ⟨Nat.le_refl _, Nat.le_refl _⟩ (h hS)
  · have h := h.2 g
    refine x_iload_n d11_factsAt_10 2 rfl rfl ?_
    refine x_aload_n d11_factsAt_11 0 rfl rfl ?_
    refine x_getR d11_factsAt_12 fl11_68 (fun _ _ => rfl) (hS.1 _ _ (sh_154 b)) (hS.2.1 _ _ _ (pt_154_27 b)) ?_
    refine x_bipush d11_factsAt_15 qb_100 ?_
    refine x_iload_n d11_factsAt_17 1 rfl rfl ?_
    refine x_imul d11_factsAt_18 ?_
    refine x_iload_n d11_factsAt_19 3 rfl rfl ?_
    refine x_iadd d11_factsAt_20 ?_
    obtain ⟨g1, h⟩ := h
    refine x_zald d11_factsAt_21 (hS.1 _ _ (sh_172 b)) g1 ?_
    refine x_if_eq d11_factsAt_22 (t := 29) (by decide) (fun g => ?_) (fun g => ?_)
    · have h := h.1 g
      refine x_iconst d11_factsAt_29 qi_0 ?_
      refine x_iadd d11_factsAt_30 ?_
      refine x_istore_n d11_factsAt_31 rfl (by decide) (L' := [(2, .int (v2 + (0 : Int32))), (0, .ref (b + 154)), (1, .int v1), (3, .int v3)]) rfl ?_
      refine x_iinc d11_factsAt_32 3 rfl rfl (by decide) (L' := [(3, .int (v3 + Int32.ofInt (1))), (2, .int (v2 + (0 : Int32))), (0, .ref (b + 154)), (1, .int v1)]) rfl ?_
      refine x_goto d11_factsAt_35 (t := 4) (by decide) ?_
      exact xm_X.sub [2, 3, 1, 0] rfl (h hS)
    · have h := h.2 g
      refine x_iconst d11_factsAt_25 qi_1 ?_
      refine x_goto d11_factsAt_26 (t := 30) (by decide) ?_
      refine x_iadd d11_factsAt_30 ?_
      refine x_istore_n d11_factsAt_31 rfl (by decide) (L' := [(2, .int (v2 + (1 : Int32))), (0, .ref (b + 154)), (1, .int v1), (3, .int v3)]) rfl ?_
      refine x_iinc d11_factsAt_32 3 rfl rfl (by decide) (L' := [(3, .int (v3 + Int32.ofInt (1))), (2, .int (v2 + (1 : Int32))), (0, .ref (b + 154)), (1, .int v1)]) rfl ?_
      refine x_goto d11_factsAt_35 (t := 4) (by decide) ?_
      exact xm_X.sub [2, 3, 1, 0] rfl (h hS)

set_option maxRecDepth 20000 in
theorem t11_tellFacts_0 {l : Launch} {E : xm_E} {b : Nat} {c p : Bool} {Q : Option Value → xm_M → Prop} (M : xm_M)  (hS : xm_st b c p M)
  (h : (xm_st b c p M → xm_X l E y11_tellFacts rm11_tellFacts Q 2 [(0, .ref (b + 154)), (1, .int (0 : Int32))] [] 0 0 M)) :
  xm_X l E y11_tellFacts rm11_tellFacts Q 0 [(0, .ref (b + 154))] [] 0 0 M := by
  refine x_iconst d11_tellFacts_0 qi_0 ?_
  refine x_istore_n d11_tellFacts_1 rfl (by decide) (L' := [(1, .int (0 : Int32)), (0, .ref (b + 154))]) rfl ?_
  exact xm_X.sub [1, 0] rfl (h hS)
set_option maxRecDepth 20000 in
theorem t11_tellFacts_2 {l : Launch} {E : xm_E} {b : Nat} {c p : Bool} {Q : Option Value → xm_M → Prop} (M : xm_M) (v1 : Int32) (hS : xm_st b c p M)
  (h : (((xm_gi M (b + 154) 1) ≤ v1 → (xm_st b c p M → Q none M)) ∧ (¬ (xm_gi M (b + 154) 1) ≤ v1 → (vp_in v1 48 ∧ (((xm_gi M (b + 167) (Int32.toNatClampNeg v1)) = 0 → xm_C l E y11_tell rm11_tell [.ref (b + 154), .int (-1 : Int32)] M (fun r M2 => r = none ∧ xm_st b c p M2 ∧ (xm_st b c p M2 → xm_X l E y11_tellFacts rm11_tellFacts Q 34 [(0, .ref (b + 154)), (1, .int v1), (2, .int (0 : Int32))] [] 0 0 M2))) ∧ (¬ (xm_gi M (b + 167) (Int32.toNatClampNeg v1)) = 0 → xm_C l E y11_factsAt rm11_factsAt [.ref (b + 154), .int v1] M (fun r M4 => ∃ r5 : Int32, r = some (.int r5) ∧ xm_st b c p M4 ∧ xm_C l E y11_tell rm11_tell [.ref (b + 154), .int r5] M4 (fun r M6 => r = none ∧ xm_st b c p M6 ∧ (xm_st b c p M6 → xm_X l E y11_tellFacts rm11_tellFacts Q 34 [(0, .ref (b + 154)), (1, .int v1), (2, .int (0 : Int32))] [] 0 0 M6))))))))) :
  xm_X l E y11_tellFacts rm11_tellFacts Q 2 [(0, .ref (b + 154)), (1, .int v1)] [] 0 0 M := by
  refine x_iload_n d11_tellFacts_2 1 rfl rfl ?_
  refine x_aload_n d11_tellFacts_3 0 rfl rfl ?_
  refine x_getI d11_tellFacts_4 fl11_89 (fun _ _ => rfl) (hS.1 _ _ (sh_154 b)) ?_
  refine x_icmp_ge d11_tellFacts_7 (t := 110) (by decide) (fun g => ?_) (fun g => ?_)
  · have h := h.1 g
    exact x_ret (r := none) d11_tellFacts_110 xm_rN rfl ⟨Nat.le_refl _, Nat.le_refl _⟩ (h hS)
  · have h := h.2 g
    refine x_aload_n d11_tellFacts_10 0 rfl rfl ?_
    refine x_aload_n d11_tellFacts_11 0 rfl rfl ?_
    refine x_getR d11_tellFacts_12 fl11_52 (fun _ _ => rfl) (hS.1 _ _ (sh_154 b)) (hS.2.1 _ _ _ (pt_154_21 b)) ?_
    refine x_iload_n d11_tellFacts_15 1 rfl rfl ?_
    obtain ⟨g1, h⟩ := h
    refine x_zald d11_tellFacts_16 (hS.1 _ _ (sh_167 b)) g1 ?_
    refine x_if_eq d11_tellFacts_17 (t := 28) (by decide) (fun g => ?_) (fun g => ?_)
    · have h := h.1 g
      refine x_iconst d11_tellFacts_28 qi_n1 ?_
      refine x_cVN (Z := y11_tell) (S := rm11_tell) (As := [.int (-1 : Int32)]) (rest := []) d11_tellFacts_29 ml11_208 k11_tell rfl (b := (b + 154)) (hS.1 _ _ (sh_154 b)) rfl rfl (Nat.le_of_ble_eq_true rfl) ⟨⟨by decide, by decide⟩, by decide, by decide⟩ ⟨rfl, rfl⟩ h (fun M2 h => ?_)
      obtain ⟨hS, h⟩ := h
      refine x_iconst d11_tellFacts_32 qi_0 ?_
      refine x_istore_n d11_tellFacts_33 rfl (by decide) (L' := [(2, .int (0 : Int32)), (0, .ref (b + 154)), (1, .int v1)]) rfl ?_
      exact xm_X.sub [1, 2, 0] rfl (h hS)
    · have h := h.2 g
      refine x_aload_n d11_tellFacts_20 0 rfl rfl ?_
      refine x_iload_n d11_tellFacts_21 1 rfl rfl ?_
      refine x_cVI (Z := y11_factsAt) (S := rm11_factsAt) (As := [.int v1]) (rest := [.ref (b + 154)]) d11_tellFacts_22 ml11_203 k11_factsAt rfl (b := (b + 154)) (hS.1 _ _ (sh_154 b)) rfl rfl (Nat.le_of_ble_eq_true rfl) ⟨⟨by decide, by decide⟩, by decide, by decide⟩ ⟨rfl, rfl⟩ h (fun r5 M4 h => ?_)
      obtain ⟨hS, h⟩ := h
      refine x_goto d11_tellFacts_25 (t := 29) (by decide) ?_
      refine x_cVN (Z := y11_tell) (S := rm11_tell) (As := [.int r5]) (rest := []) d11_tellFacts_29 ml11_208 k11_tell rfl (b := (b + 154)) (hS.1 _ _ (sh_154 b)) rfl rfl (Nat.le_of_ble_eq_true rfl) ⟨⟨by decide, by decide⟩, by decide, by decide⟩ ⟨rfl, rfl⟩ h (fun M6 h => ?_)
      obtain ⟨hS, h⟩ := h
      refine x_iconst d11_tellFacts_32 qi_0 ?_
      refine x_istore_n d11_tellFacts_33 rfl (by decide) (L' := [(2, .int (0 : Int32)), (0, .ref (b + 154)), (1, .int v1)]) rfl ?_
      exact xm_X.sub [1, 2, 0] rfl (h hS)
set_option maxRecDepth 20000 in
theorem t11_tellFacts_34 {l : Launch} {E : xm_E} {b : Nat} {c p : Bool} {Q : Option Value → xm_M → Prop} (M : xm_M) (v1 : Int32) (v2 : Int32) (hS : xm_st b c p M)
  (h : (((100 : Int32) ≤ v2 → (xm_st b c p M → xm_X l E y11_tellFacts rm11_tellFacts Q 2 [(0, .ref (b + 154)), (1, .int (v1 + Int32.ofInt (1)))] [] 0 0 M)) ∧ (¬ (100 : Int32) ≤ v2 → (vp_in v1 48 ∧ (((xm_gi M (b + 167) (Int32.toNatClampNeg v1)) = 0 → (xm_st b c p M → xm_X l E y11_tellFacts rm11_tellFacts Q 2 [(0, .ref (b + 154)), (1, .int (v1 + Int32.ofInt (1)))] [] 0 0 M)) ∧ (¬ (xm_gi M (b + 167) (Int32.toNatClampNeg v1)) = 0 → (vp_in (((100 : Int32) * v1) + v2) 4800 ∧ ((¬ (xm_gi M (b + 172) (Int32.toNatClampNeg (((100 : Int32) * v1) + v2))) = 0 → xm_C l E y11_tell rm11_tell [.ref (b + 154), .int (v2 / (10 : Int32))] M (fun r M3 => r = none ∧ xm_st b c p M3 ∧ xm_C l E y11_tell rm11_tell [.ref (b + 154), .int (v2 - v2 / (10 : Int32) * (10 : Int32))] M3 (fun r M5 => r = none ∧ xm_st b c p M5 ∧ (vp_in (((100 : Int32) * v1) + v2) 4800 ∧ xm_C l E y11_tell rm11_tell [.ref (b + 154), .int (Int64.toInt32 (xm_gl M5 (b + 166) (Int32.toNatClampNeg (((100 : Int32) * v1) + v2))))] M5 (fun r M8 => r = none ∧ xm_st b c p M8 ∧ (xm_st b c p M8 → xm_X l E y11_tellFacts rm11_tellFacts Q 34 [(0, .ref (b + 154)), (1, .int v1), (2, .int (v2 + Int32.ofInt (1)))] [] 0 0 M8)))))) ∧ ((xm_gi M (b + 172) (Int32.toNatClampNeg (((100 : Int32) * v1) + v2))) = 0 → (xm_st b c p M → xm_X l E y11_tellFacts rm11_tellFacts Q 34 [(0, .ref (b + 154)), (1, .int v1), (2, .int (v2 + Int32.ofInt (1)))] [] 0 0 M)))))))))) :
  xm_X l E y11_tellFacts rm11_tellFacts Q 34 [(0, .ref (b + 154)), (1, .int v1), (2, .int v2)] [] 0 0 M := by
  refine x_iload_n d11_tellFacts_34 2 rfl rfl ?_
  refine x_bipush d11_tellFacts_35 qb_100 ?_
  refine x_icmp_ge d11_tellFacts_37 (t := 104) (by decide) (fun g => ?_) (fun g => ?_)
  · have h := h.1 g
    refine x_iinc d11_tellFacts_104 1 rfl rfl (by decide) (L' := [(1, .int (v1 + Int32.ofInt (1))), (0, .ref (b + 154)), (2, .int v2)]) rfl ?_
    refine x_goto d11_tellFacts_107 (t := 2) (by decide) ?_
    exact xm_X.sub [1, 0] rfl (h hS)
  · have h := h.2 g
    refine x_aload_n d11_tellFacts_40 0 rfl rfl ?_
    refine x_getR d11_tellFacts_41 fl11_52 (fun _ _ => rfl) (hS.1 _ _ (sh_154 b)) (hS.2.1 _ _ _ (pt_154_21 b)) ?_
    refine x_iload_n d11_tellFacts_44 1 rfl rfl ?_
    obtain ⟨g1, h⟩ := h
    refine x_zald d11_tellFacts_45 (hS.1 _ _ (sh_167 b)) g1 ?_
    refine x_if_eq d11_tellFacts_46 (t := 104) (by decide) (fun g => ?_) (fun g => ?_)
    · have h := h.1 g
      refine x_iinc d11_tellFacts_104 1 rfl rfl (by decide) (L' := [(1, .int (v1 + Int32.ofInt (1))), (0, .ref (b + 154)), (2, .int v2)]) rfl ?_
      refine x_goto d11_tellFacts_107 (t := 2) (by decide) ?_
      exact xm_X.sub [1, 0] rfl (h hS)
    · have h := h.2 g
      refine x_aload_n d11_tellFacts_49 0 rfl rfl ?_
      refine x_getR d11_tellFacts_50 fl11_68 (fun _ _ => rfl) (hS.1 _ _ (sh_154 b)) (hS.2.1 _ _ _ (pt_154_27 b)) ?_
      refine x_bipush d11_tellFacts_53 qb_100 ?_
      refine x_iload_n d11_tellFacts_55 1 rfl rfl ?_
      refine x_imul d11_tellFacts_56 ?_
      refine x_iload_n d11_tellFacts_57 2 rfl rfl ?_
      refine x_iadd d11_tellFacts_58 ?_
      obtain ⟨g2, h⟩ := h
      refine x_zald d11_tellFacts_59 (hS.1 _ _ (sh_172 b)) g2 ?_
      refine x_if_ne d11_tellFacts_60 (t := 66) (by decide) (fun g => ?_) (fun g => ?_)
      · have h := h.1 g
        refine x_aload_n d11_tellFacts_66 0 rfl rfl ?_
        refine x_iload_n d11_tellFacts_67 2 rfl rfl ?_
        refine x_bipush d11_tellFacts_68 qb_10 ?_
        refine x_idiv d11_tellFacts_70 (by decide) ?_
        refine x_cVN (Z := y11_tell) (S := rm11_tell) (As := [.int (v2 / (10 : Int32))]) (rest := []) d11_tellFacts_71 ml11_208 k11_tell rfl (b := (b + 154)) (hS.1 _ _ (sh_154 b)) rfl rfl (Nat.le_of_ble_eq_true rfl) ⟨⟨by decide, by decide⟩, by decide, by decide⟩ ⟨rfl, rfl⟩ h (fun M3 h => ?_)
        obtain ⟨hS, h⟩ := h
        refine x_aload_n d11_tellFacts_74 0 rfl rfl ?_
        refine x_iload_n d11_tellFacts_75 2 rfl rfl ?_
        refine x_bipush d11_tellFacts_76 qb_10 ?_
        refine x_irem d11_tellFacts_78 (by decide) ?_
        refine x_cVN (Z := y11_tell) (S := rm11_tell) (As := [.int (v2 - v2 / (10 : Int32) * (10 : Int32))]) (rest := []) d11_tellFacts_79 ml11_208 k11_tell rfl (b := (b + 154)) (hS.1 _ _ (sh_154 b)) rfl rfl (Nat.le_of_ble_eq_true rfl) ⟨⟨by decide, by decide⟩, by decide, by decide⟩ ⟨rfl, rfl⟩ h (fun M5 h => ?_)
        obtain ⟨hS, h⟩ := h
        refine x_aload_n d11_tellFacts_82 0 rfl rfl ?_
        refine x_aload_n d11_tellFacts_83 0 rfl rfl ?_
        refine x_getR d11_tellFacts_84 fl11_49 (fun _ _ => rfl) (hS.1 _ _ (sh_154 b)) (hS.2.1 _ _ _ (pt_154_20 b)) ?_
        refine x_bipush d11_tellFacts_87 qb_100 ?_
        refine x_iload_n d11_tellFacts_89 1 rfl rfl ?_
        refine x_imul d11_tellFacts_90 ?_
        refine x_iload_n d11_tellFacts_91 2 rfl rfl ?_
        refine x_iadd d11_tellFacts_92 ?_
        obtain ⟨g7, h⟩ := h
        refine x_lald d11_tellFacts_93 (hS.1 _ _ (sh_166 b)) g7 ?_
        refine x_l2i d11_tellFacts_94 ?_
        refine x_cVN (Z := y11_tell) (S := rm11_tell) (As := [.int (Int64.toInt32 (xm_gl M5 (b + 166) (Int32.toNatClampNeg (((100 : Int32) * v1) + v2))))]) (rest := []) d11_tellFacts_95 ml11_208 k11_tell rfl (b := (b + 154)) (hS.1 _ _ (sh_154 b)) rfl rfl (Nat.le_of_ble_eq_true rfl) ⟨⟨by decide, by decide⟩, by decide, by decide⟩ ⟨rfl, rfl⟩ h (fun M8 h => ?_)
        obtain ⟨hS, h⟩ := h
        refine x_iinc d11_tellFacts_98 2 rfl rfl (by decide) (L' := [(2, .int (v2 + Int32.ofInt (1))), (0, .ref (b + 154)), (1, .int v1)]) rfl ?_
        refine x_goto d11_tellFacts_101 (t := 34) (by decide) ?_
        exact xm_X.sub [1, 2, 0] rfl (h hS)
      · have h := h.2 g
        refine x_goto d11_tellFacts_63 (t := 98) (by decide) ?_
        refine x_iinc d11_tellFacts_98 2 rfl rfl (by decide) (L' := [(2, .int (v2 + Int32.ofInt (1))), (0, .ref (b + 154)), (1, .int v1)]) rfl ?_
        refine x_goto d11_tellFacts_101 (t := 34) (by decide) ?_
        exact xm_X.sub [1, 2, 0] rfl (h hS)

set_option maxRecDepth 20000 in
theorem t11_tell_0 {l : Launch} {E : xm_E} {b : Nat} {c p : Bool} {Q : Option Value → xm_M → Prop} (M : xm_M) (v1 : Int32) (hS : xm_st b c p M)
  (h : (((20000 : Int32) ≤ (xm_gi M (b + 154) 29) → (xm_st b c p (xm_pi M (b + 154) 29 ((xm_gi M (b + 154) 29) + (1 : Int32))) → Q none (xm_pi M (b + 154) 29 ((xm_gi M (b + 154) 29) + (1 : Int32))))) ∧ (¬ (20000 : Int32) ≤ (xm_gi M (b + 154) 29) → (vp_in (xm_gi M (b + 154) 29) 20000 ∧ (xm_st b c p (xm_pi (xm_pi M (b + 173) (Int32.toNatClampNeg (xm_gi M (b + 154) 29)) v1) (b + 154) 29 ((xm_gi (xm_pi M (b + 173) (Int32.toNatClampNeg (xm_gi M (b + 154) 29)) v1) (b + 154) 29) + (1 : Int32))) → Q none (xm_pi (xm_pi M (b + 173) (Int32.toNatClampNeg (xm_gi M (b + 154) 29)) v1) (b + 154) 29 ((xm_gi (xm_pi M (b + 173) (Int32.toNatClampNeg (xm_gi M (b + 154) 29)) v1) (b + 154) 29) + (1 : Int32)))))))) :
  xm_X l E y11_tell rm11_tell Q 0 [(0, .ref (b + 154)), (1, .int v1)] [] 0 0 M := by
  refine x_aload_n d11_tell_0 0 rfl rfl ?_
  refine x_getI d11_tell_1 fl11_205 (fun _ _ => rfl) (hS.1 _ _ (sh_154 b)) ?_
  refine x_sipush d11_tell_4 qs_20000 ?_
  refine x_icmp_ge d11_tell_7 (t := 20) (by decide) (fun g => ?_) (fun g => ?_)
  · have h := h.1 g
    refine x_aload_n d11_tell_20 0 rfl rfl ?_
    refine x_dup d11_tell_21 rfl ?_
    refine x_getI d11_tell_22 fl11_205 (fun _ _ => rfl) (hS.1 _ _ (sh_154 b)) ?_
    refine x_iconst d11_tell_25 qi_1 ?_
    refine x_iadd d11_tell_26 ?_
    refine x_putI d11_tell_27 fw11_205 (fun _ _ => rfl) rfl rfl (hS.1 _ _ (sh_154 b)) ?_
    exact x_ret (r := none) d11_tell_30 xm_rN rfl ⟨Nat.le_refl _, Nat.le_refl _⟩ (h hS.pi)
  · have h := h.2 g
    refine x_aload_n d11_tell_10 0 rfl rfl ?_
    refine x_getR d11_tell_11 fl11_71 (fun _ _ => rfl) (hS.1 _ _ (sh_154 b)) (hS.2.1 _ _ _ (pt_154_28 b)) ?_
    refine x_aload_n d11_tell_14 0 rfl rfl ?_
    refine x_getI d11_tell_15 fl11_205 (fun _ _ => rfl) (hS.1 _ _ (sh_154 b)) ?_
    refine x_iload_n d11_tell_18 1 rfl rfl ?_
    obtain ⟨g1, h⟩ := h
    refine x_iast d11_tell_19 (hS.1 _ _ (sh_173 b)) g1 ?_
    refine x_aload_n d11_tell_20 0 rfl rfl ?_
    refine x_dup d11_tell_21 rfl ?_
    refine x_getI d11_tell_22 fl11_205 (fun _ _ => rfl) (hS.pi.1 _ _ (sh_154 b)) ?_
    refine x_iconst d11_tell_25 qi_1 ?_
    refine x_iadd d11_tell_26 ?_
    refine x_putI d11_tell_27 fw11_205 (fun _ _ => rfl) rfl rfl (hS.pi.1 _ _ (sh_154 b)) ?_
    exact x_ret (r := none) d11_tell_30 xm_rN rfl ⟨Nat.le_refl _, Nat.le_refl _⟩ (h hS.pi.pi)

set_option maxRecDepth 20000 in
theorem t11_tellReason_0 {l : Launch} {E : xm_E} {b : Nat} {c p : Bool} {Q : Option Value → xm_M → Prop} (M : xm_M) (v1 : Int32) (hS : xm_st b c p M)
  (h : xm_C l E y11_tell rm11_tell [.ref (b + 154), .int (xm_gi M (b + 154) 26)] M (fun r M1 => r = none ∧ xm_st b c p M1 ∧ (xm_st b c p M1 → xm_X l E y11_tellReason rm11_tellReason Q 10 [(0, .ref (b + 154)), (1, .int v1), (2, .int (0 : Int32))] [] 0 0 M1))) :
  xm_X l E y11_tellReason rm11_tellReason Q 0 [(0, .ref (b + 154)), (1, .int v1)] [] 0 0 M := by
  refine x_aload_n d11_tellReason_0 0 rfl rfl ?_
  refine x_aload_n d11_tellReason_1 0 rfl rfl ?_
  refine x_getI d11_tellReason_2 fl11_170 (fun _ _ => rfl) (hS.1 _ _ (sh_154 b)) ?_
  refine x_cVN (Z := y11_tell) (S := rm11_tell) (As := [.int (xm_gi M (b + 154) 26)]) (rest := []) d11_tellReason_5 ml11_208 k11_tell rfl (b := (b + 154)) (hS.1 _ _ (sh_154 b)) rfl rfl (Nat.le_of_ble_eq_true rfl) ⟨⟨by decide, by decide⟩, by decide, by decide⟩ ⟨rfl, rfl⟩ h (fun M1 h => ?_)
  obtain ⟨hS, h⟩ := h
  refine x_iconst d11_tellReason_8 qi_0 ?_
  refine x_istore_n d11_tellReason_9 rfl (by decide) (L' := [(2, .int (0 : Int32)), (0, .ref (b + 154)), (1, .int v1)]) rfl ?_
  exact xm_X.sub [1, 2, 0] rfl (h hS)
set_option maxRecDepth 20000 in
theorem t11_tellReason_10 {l : Launch} {E : xm_E} {b : Nat} {c p : Bool} {Q : Option Value → xm_M → Prop} (M : xm_M) (v1 : Int32) (v2 : Int32) (hS : xm_st b c p M)
  (h : (((xm_gi M (b + 154) 26) ≤ v2 → (xm_st b c p M → Q none M)) ∧ (¬ (xm_gi M (b + 154) 26) ≤ v2 → (vp_in v2 12 ∧ (vp_in (xm_gi M (b + 171) (Int32.toNatClampNeg v2)) 1200 ∧ ((0 ≤ v1 → xm_C l E y11_factsAt rm11_factsAt [.ref (b + 154), .int v1] M (fun r M3 => ∃ r4 : Int32, r = some (.int r4) ∧ xm_st b c p M3 ∧ (((100 : Int32) ≤ (xm_gi M (b + 162) (Int32.toNatClampNeg (xm_gi M (b + 171) (Int32.toNatClampNeg v2)))) → (vp_in v1 48 ∧ ((¬ (xm_gi M3 (b + 155) (Int32.toNatClampNeg v1)) = (4 : Int32) → xm_C l E y11_tell rm11_tell [.ref (b + 154), .int ((r4 + (xm_gi M (b + 162) (Int32.toNatClampNeg (xm_gi M (b + 171) (Int32.toNatClampNeg v2))))) - (100 : Int32))] M3 (fun r M6 => r = none ∧ xm_st b c p M6 ∧ (xm_st b c p M6 → xm_X l E y11_tellReason rm11_tellReason Q 10 [(0, .ref (b + 154)), (1, .int v1), (2, .int (v2 + Int32.ofInt (1)))] [] 0 0 M6))) ∧ ((xm_gi M3 (b + 155) (Int32.toNatClampNeg v1)) = (4 : Int32) → xm_C l E y11_factNumber rm11_factNumber [.ref (b + 154), .int v1, .int (((xm_gi M (b + 162) (Int32.toNatClampNeg (xm_gi M (b + 171) (Int32.toNatClampNeg v2)))) - (100 : Int32)) / (100 : Int32))] M3 (fun r M8 => ∃ r9 : Int32, r = some (.int r9) ∧ xm_st b c p M8 ∧ xm_C l E y11_factNumber rm11_factNumber [.ref (b + 154), .int v1, .int (((xm_gi M (b + 162) (Int32.toNatClampNeg (xm_gi M (b + 171) (Int32.toNatClampNeg v2)))) - (100 : Int32)) - ((xm_gi M (b + 162) (Int32.toNatClampNeg (xm_gi M (b + 171) (Int32.toNatClampNeg v2)))) - (100 : Int32)) / (100 : Int32) * (100 : Int32))] M8 (fun r M10 => ∃ r11 : Int32, r = some (.int r11) ∧ xm_st b c p M10 ∧ xm_C l E y11_tell rm11_tell [.ref (b + 154), .int ((r4 + (r4 * r9)) + r11)] M10 (fun r M12 => r = none ∧ xm_st b c p M12 ∧ (xm_st b c p M12 → xm_X l E y11_tellReason rm11_tellReason Q 10 [(0, .ref (b + 154)), (1, .int v1), (2, .int (v2 + Int32.ofInt (1)))] [] 0 0 M12)))))))) ∧ (¬ (100 : Int32) ≤ (xm_gi M (b + 162) (Int32.toNatClampNeg (xm_gi M (b + 171) (Int32.toNatClampNeg v2)))) → xm_C l E y11_factNumber rm11_factNumber [.ref (b + 154), .int v1, .int (xm_gi M (b + 162) (Int32.toNatClampNeg (xm_gi M (b + 171) (Int32.toNatClampNeg v2))))] M3 (fun r M14 => ∃ r15 : Int32, r = some (.int r15) ∧ xm_st b c p M14 ∧ xm_C l E y11_tell rm11_tell [.ref (b + 154), .int r15] M14 (fun r M16 => r = none ∧ xm_st b c p M16 ∧ (xm_st b c p M16 → xm_X l E y11_tellReason rm11_tellReason Q 10 [(0, .ref (b + 154)), (1, .int v1), (2, .int (v2 + Int32.ofInt (1)))] [] 0 0 M16))))))) ∧ (¬ 0 ≤ v1 → xm_C l E y11_tell rm11_tell [.ref (b + 154), .int (xm_gi M (b + 162) (Int32.toNatClampNeg (xm_gi M (b + 171) (Int32.toNatClampNeg v2))))] M (fun r M18 => r = none ∧ xm_st b c p M18 ∧ (xm_st b c p M18 → xm_X l E y11_tellReason rm11_tellReason Q 10 [(0, .ref (b + 154)), (1, .int v1), (2, .int (v2 + Int32.ofInt (1)))] [] 0 0 M18))))))))) :
  xm_X l E y11_tellReason rm11_tellReason Q 10 [(0, .ref (b + 154)), (1, .int v1), (2, .int v2)] [] 0 0 M := by
  refine x_iload_n d11_tellReason_10 2 rfl rfl ?_
  refine x_aload_n d11_tellReason_11 0 rfl rfl ?_
  refine x_getI d11_tellReason_12 fl11_170 (fun _ _ => rfl) (hS.1 _ _ (sh_154 b)) ?_
  refine x_icmp_ge d11_tellReason_15 (t := 133) (by decide) (fun g => ?_) (fun g => ?_)
  · have h := h.1 g
    exact x_ret (r := none) d11_tellReason_133 xm_rN rfl ⟨Nat.le_refl _, Nat.le_refl _⟩ (h hS)
  · have h := h.2 g
    refine x_aload_n d11_tellReason_18 0 rfl rfl ?_
    refine x_getR d11_tellReason_19 fl11_36 (fun _ _ => rfl) (hS.1 _ _ (sh_154 b)) (hS.2.1 _ _ _ (pt_154_15 b)) ?_
    refine x_aload_n d11_tellReason_22 0 rfl rfl ?_
    refine x_getR d11_tellReason_23 fl11_65 (fun _ _ => rfl) (hS.1 _ _ (sh_154 b)) (hS.2.1 _ _ _ (pt_154_25 b)) ?_
    refine x_iload_n d11_tellReason_26 2 rfl rfl ?_
    obtain ⟨g1, h⟩ := h
    refine x_iald d11_tellReason_27 (hS.1 _ _ (sh_171 b)) g1 ?_
    obtain ⟨g2, h⟩ := h
    refine x_iald d11_tellReason_28 (hS.1 _ _ (sh_162 b)) g2 ?_
    refine x_istore_n d11_tellReason_29 rfl (by decide) (L' := [(3, .int (xm_gi M (b + 162) (Int32.toNatClampNeg (xm_gi M (b + 171) (Int32.toNatClampNeg v2))))), (0, .ref (b + 154)), (1, .int v1), (2, .int v2)]) rfl ?_
    refine x_iload_n d11_tellReason_30 2 rfl rfl ?_
    refine x_if_ge d11_tellReason_31 (t := 42) (by decide) (fun g => ?_) (fun g => ?_)
    · have h := h.1 g
      refine x_aload_n d11_tellReason_42 1 rfl rfl ?_
      refine x_iload_n d11_tellReason_43 2 rfl rfl ?_
      refine x_cVI (Z := y11_factsAt) (S := rm11_factsAt) (As := [.int v1]) (rest := []) d11_tellReason_44 ml11_203 k11_factsAt rfl (b := (b + 154)) (hS.1 _ _ (sh_154 b)) rfl rfl (Nat.le_of_ble_eq_true rfl) ⟨⟨by decide, by decide⟩, by decide, by decide⟩ ⟨rfl, rfl⟩ h (fun r4 M3 h => ?_)
      obtain ⟨hS, h⟩ := h
      refine x_istore d11_tellReason_47 (by decide) (L' := [(4, .int r4), (3, .int (xm_gi M (b + 162) (Int32.toNatClampNeg (xm_gi M (b + 171) (Int32.toNatClampNeg v2))))), (0, .ref (b + 154)), (1, .int v1), (2, .int v2)]) rfl ?_
      refine x_iload_n d11_tellReason_49 1 rfl rfl ?_
      refine x_bipush d11_tellReason_50 qb_100 ?_
      refine x_icmp_ge d11_tellReason_52 (t := 68) (by decide) (fun g => ?_) (fun g => ?_)
      · have h := h.1 g
        refine x_aload_n d11_tellReason_68 2 rfl rfl ?_
        refine x_getR d11_tellReason_69 fl11_7 (fun _ _ => rfl) (hS.1 _ _ (sh_154 b)) (hS.2.1 _ _ _ (pt_154_2 b)) ?_
        refine x_iload_n d11_tellReason_72 3 rfl rfl ?_
        obtain ⟨g5, h⟩ := h
        refine x_iald d11_tellReason_73 (hS.1 _ _ (sh_155 b)) g5 ?_
        refine x_iconst d11_tellReason_74 qi_4 ?_
        refine x_icmp_ne d11_tellReason_75 (t := 116) (by decide) (fun g => ?_) (fun g => ?_)
        · have h := h.1 g
          refine x_aload_n d11_tellReason_116 2 rfl rfl ?_
          refine x_iload d11_tellReason_117 0 rfl ?_
          refine x_iload_n d11_tellReason_119 1 rfl rfl ?_
          refine x_iadd d11_tellReason_120 ?_
          refine x_bipush d11_tellReason_121 qb_100 ?_
          refine x_isub d11_tellReason_123 ?_
          refine x_cVN (Z := y11_tell) (S := rm11_tell) (As := [.int ((r4 + (xm_gi M (b + 162) (Int32.toNatClampNeg (xm_gi M (b + 171) (Int32.toNatClampNeg v2))))) - (100 : Int32))]) (rest := []) d11_tellReason_124 ml11_208 k11_tell rfl (b := (b + 154)) (hS.1 _ _ (sh_154 b)) rfl rfl (Nat.le_of_ble_eq_true rfl) ⟨⟨by decide, by decide⟩, by decide, by decide⟩ ⟨rfl, rfl⟩ h (fun M6 h => ?_)
          obtain ⟨hS, h⟩ := h
          refine x_iinc d11_tellReason_127 4 rfl rfl (by decide) (L' := [(2, .int (v2 + Int32.ofInt (1))), (4, .int r4), (3, .int (xm_gi M (b + 162) (Int32.toNatClampNeg (xm_gi M (b + 171) (Int32.toNatClampNeg v2))))), (0, .ref (b + 154)), (1, .int v1)]) rfl ?_
          refine x_goto d11_tellReason_130 (t := 10) (by decide) ?_
          exact xm_X.sub [3, 4, 0] rfl (h hS)
        · have h := h.2 g
          refine x_aload_n d11_tellReason_78 2 rfl rfl ?_
          refine x_iload d11_tellReason_79 0 rfl ?_
          refine x_iload d11_tellReason_81 0 rfl ?_
          refine x_aload_n d11_tellReason_83 2 rfl rfl ?_
          refine x_iload_n d11_tellReason_84 3 rfl rfl ?_
          refine x_iload_n d11_tellReason_85 1 rfl rfl ?_
          refine x_bipush d11_tellReason_86 qb_100 ?_
          refine x_isub d11_tellReason_88 ?_
          refine x_bipush d11_tellReason_89 qb_100 ?_
          refine x_idiv d11_tellReason_91 (by decide) ?_
          refine x_cVI (Z := y11_factNumber) (S := rm11_factNumber) (As := [.int v1, .int (((xm_gi M (b + 162) (Int32.toNatClampNeg (xm_gi M (b + 171) (Int32.toNatClampNeg v2)))) - (100 : Int32)) / (100 : Int32))]) (rest := [.int r4, .int r4, .ref (b + 154)]) d11_tellReason_92 ml11_211 k11_factNumber rfl (b := (b + 154)) (hS.1 _ _ (sh_154 b)) rfl rfl (Nat.le_of_ble_eq_true rfl) ⟨⟨by decide, by decide⟩, by decide, by decide⟩ ⟨rfl, rfl⟩ h (fun r9 M8 h => ?_)
          obtain ⟨hS, h⟩ := h
          refine x_imul d11_tellReason_95 ?_
          refine x_iadd d11_tellReason_96 ?_
          refine x_aload_n d11_tellReason_97 2 rfl rfl ?_
          refine x_iload_n d11_tellReason_98 3 rfl rfl ?_
          refine x_iload_n d11_tellReason_99 1 rfl rfl ?_
          refine x_bipush d11_tellReason_100 qb_100 ?_
          refine x_isub d11_tellReason_102 ?_
          refine x_bipush d11_tellReason_103 qb_100 ?_
          refine x_irem d11_tellReason_105 (by decide) ?_
          refine x_cVI (Z := y11_factNumber) (S := rm11_factNumber) (As := [.int v1, .int (((xm_gi M (b + 162) (Int32.toNatClampNeg (xm_gi M (b + 171) (Int32.toNatClampNeg v2)))) - (100 : Int32)) - ((xm_gi M (b + 162) (Int32.toNatClampNeg (xm_gi M (b + 171) (Int32.toNatClampNeg v2)))) - (100 : Int32)) / (100 : Int32) * (100 : Int32))]) (rest := [.int (r4 + (r4 * r9)), .ref (b + 154)]) d11_tellReason_106 ml11_211 k11_factNumber rfl (b := (b + 154)) (hS.1 _ _ (sh_154 b)) rfl rfl (Nat.le_of_ble_eq_true rfl) ⟨⟨by decide, by decide⟩, by decide, by decide⟩ ⟨rfl, rfl⟩ h (fun r11 M10 h => ?_)
          obtain ⟨hS, h⟩ := h
          refine x_iadd d11_tellReason_109 ?_
          refine x_cVN (Z := y11_tell) (S := rm11_tell) (As := [.int ((r4 + (r4 * r9)) + r11)]) (rest := []) d11_tellReason_110 ml11_208 k11_tell rfl (b := (b + 154)) (hS.1 _ _ (sh_154 b)) rfl rfl (Nat.le_of_ble_eq_true rfl) ⟨⟨by decide, by decide⟩, by decide, by decide⟩ ⟨rfl, rfl⟩ h (fun M12 h => ?_)
          obtain ⟨hS, h⟩ := h
          refine x_goto d11_tellReason_113 (t := 127) (by decide) ?_
          refine x_iinc d11_tellReason_127 4 rfl rfl (by decide) (L' := [(2, .int (v2 + Int32.ofInt (1))), (4, .int r4), (3, .int (xm_gi M (b + 162) (Int32.toNatClampNeg (xm_gi M (b + 171) (Int32.toNatClampNeg v2))))), (0, .ref (b + 154)), (1, .int v1)]) rfl ?_
          refine x_goto d11_tellReason_130 (t := 10) (by decide) ?_
          exact xm_X.sub [3, 4, 0] rfl (h hS)
      · have h := h.2 g
        refine x_aload_n d11_tellReason_55 2 rfl rfl ?_
        refine x_aload_n d11_tellReason_56 2 rfl rfl ?_
        refine x_iload_n d11_tellReason_57 3 rfl rfl ?_
        refine x_iload_n d11_tellReason_58 1 rfl rfl ?_
        refine x_cVI (Z := y11_factNumber) (S := rm11_factNumber) (As := [.int v1, .int (xm_gi M (b + 162) (Int32.toNatClampNeg (xm_gi M (b + 171) (Int32.toNatClampNeg v2))))]) (rest := [.ref (b + 154)]) d11_tellReason_59 ml11_211 k11_factNumber rfl (b := (b + 154)) (hS.1 _ _ (sh_154 b)) rfl rfl (Nat.le_of_ble_eq_true rfl) ⟨⟨by decide, by decide⟩, by decide, by decide⟩ ⟨rfl, rfl⟩ h (fun r15 M14 h => ?_)
        obtain ⟨hS, h⟩ := h
        refine x_cVN (Z := y11_tell) (S := rm11_tell) (As := [.int r15]) (rest := []) d11_tellReason_62 ml11_208 k11_tell rfl (b := (b + 154)) (hS.1 _ _ (sh_154 b)) rfl rfl (Nat.le_of_ble_eq_true rfl) ⟨⟨by decide, by decide⟩, by decide, by decide⟩ ⟨rfl, rfl⟩ h (fun M16 h => ?_)
        obtain ⟨hS, h⟩ := h
        refine x_goto d11_tellReason_65 (t := 127) (by decide) ?_
        refine x_iinc d11_tellReason_127 4 rfl rfl (by decide) (L' := [(2, .int (v2 + Int32.ofInt (1))), (4, .int r4), (3, .int (xm_gi M (b + 162) (Int32.toNatClampNeg (xm_gi M (b + 171) (Int32.toNatClampNeg v2))))), (0, .ref (b + 154)), (1, .int v1)]) rfl ?_
        refine x_goto d11_tellReason_130 (t := 10) (by decide) ?_
        exact xm_X.sub [3, 4, 0] rfl (h hS)
    · have h := h.2 g
      refine x_aload_n d11_tellReason_34 1 rfl rfl ?_
      refine x_iload_n d11_tellReason_35 0 rfl rfl ?_
      refine x_cVN (Z := y11_tell) (S := rm11_tell) (As := [.int (xm_gi M (b + 162) (Int32.toNatClampNeg (xm_gi M (b + 171) (Int32.toNatClampNeg v2))))]) (rest := []) d11_tellReason_36 ml11_208 k11_tell rfl (b := (b + 154)) (hS.1 _ _ (sh_154 b)) rfl rfl (Nat.le_of_ble_eq_true rfl) ⟨⟨by decide, by decide⟩, by decide, by decide⟩ ⟨rfl, rfl⟩ h (fun M18 h => ?_)
      obtain ⟨hS, h⟩ := h
      refine x_goto d11_tellReason_39 (t := 127) (by decide) ?_
      refine x_iinc d11_tellReason_127 3 rfl rfl (by decide) (L' := [(2, .int (v2 + Int32.ofInt (1))), (3, .int (xm_gi M (b + 162) (Int32.toNatClampNeg (xm_gi M (b + 171) (Int32.toNatClampNeg v2))))), (0, .ref (b + 154)), (1, .int v1)]) rfl ?_
      refine x_goto d11_tellReason_130 (t := 10) (by decide) ?_
      exact xm_X.sub [2, 3, 0] rfl (h hS)

set_option maxRecDepth 20000 in
theorem t11_factNumber_0 {l : Launch} {E : xm_E} {b : Nat} {c p : Bool} {Q : Option Value → xm_M → Prop} (M : xm_M) (v1 : Int32) (v2 : Int32) (hS : xm_st b c p M)
  (h : (xm_st b c p M → xm_X l E y11_factNumber rm11_factNumber Q 5 [(0, .ref (b + 154)), (1, .int v1), (2, .int v2), (3, .int (0 : Int32)), (4, .int (0 : Int32))] [] 0 0 M)) :
  xm_X l E y11_factNumber rm11_factNumber Q 0 [(0, .ref (b + 154)), (1, .int v1), (2, .int v2)] [] 0 0 M := by
  refine x_iconst d11_factNumber_0 qi_0 ?_
  refine x_istore_n d11_factNumber_1 rfl (by decide) (L' := [(3, .int (0 : Int32)), (0, .ref (b + 154)), (1, .int v1), (2, .int v2)]) rfl ?_
  refine x_iconst d11_factNumber_2 qi_0 ?_
  refine x_istore d11_factNumber_3 (by decide) (L' := [(4, .int (0 : Int32)), (3, .int (0 : Int32)), (0, .ref (b + 154)), (1, .int v1), (2, .int v2)]) rfl ?_
  exact xm_X.sub [2, 3, 4, 1, 0] rfl (h hS)
set_option maxRecDepth 20000 in
theorem t11_factNumber_5 {l : Launch} {E : xm_E} {b : Nat} {c p : Bool} {Q : Option Value → xm_M → Prop} (M : xm_M) (v1 : Int32) (v2 : Int32) (v3 : Int32) (v4 : Int32) (hS : xm_st b c p M)
  (h : ((v2 ≤ v4 → (xm_st b c p M → Q (some (.int v3)) M)) ∧ (¬ v2 ≤ v4 → (vp_in (((100 : Int32) * v1) + v4) 4800 ∧ (((xm_gi M (b + 172) (Int32.toNatClampNeg (((100 : Int32) * v1) + v4))) = 0 → (xm_st b c p M → xm_X l E y11_factNumber rm11_factNumber Q 5 [(0, .ref (b + 154)), (1, .int v1), (2, .int v2), (3, .int (v3 + (0 : Int32))), (4, .int (v4 + Int32.ofInt (1)))] [] 0 0 M)) ∧ (¬ (xm_gi M (b + 172) (Int32.toNatClampNeg (((100 : Int32) * v1) + v4))) = 0 → (xm_st b c p M → xm_X l E y11_factNumber rm11_factNumber Q 5 [(0, .ref (b + 154)), (1, .int v1), (2, .int v2), (3, .int (v3 + (1 : Int32))), (4, .int (v4 + Int32.ofInt (1)))] [] 0 0 M))))))) :
  xm_X l E y11_factNumber rm11_factNumber Q 5 [(0, .ref (b + 154)), (1, .int v1), (2, .int v2), (3, .int v3), (4, .int v4)] [] 0 0 M := by
  refine x_iload d11_factNumber_5 4 rfl ?_
  refine x_iload_n d11_factNumber_7 2 rfl rfl ?_
  refine x_icmp_ge d11_factNumber_8 (t := 40) (by decide) (fun g => ?_) (fun g => ?_)
  · have h := h.1 g
    refine x_iload_n d11_factNumber_40 3 rfl rfl ?_
    exact x_ret (r := (some (.int v3))) d11_factNumber_41 xm_rI rfl ⟨Nat.le_refl _, Nat.le_refl _⟩ (h hS)
  · have h := h.2 g
    refine x_iload_n d11_factNumber_11 3 rfl rfl ?_
    refine x_aload_n d11_factNumber_12 0 rfl rfl ?_
    refine x_getR d11_factNumber_13 fl11_68 (fun _ _ => rfl) (hS.1 _ _ (sh_154 b)) (hS.2.1 _ _ _ (pt_154_27 b)) ?_
    refine x_bipush d11_factNumber_16 qb_100 ?_
    refine x_iload_n d11_factNumber_18 1 rfl rfl ?_
    refine x_imul d11_factNumber_19 ?_
    refine x_iload d11_factNumber_20 4 rfl ?_
    refine x_iadd d11_factNumber_22 ?_
    obtain ⟨g1, h⟩ := h
    refine x_zald d11_factNumber_23 (hS.1 _ _ (sh_172 b)) g1 ?_
    refine x_if_eq d11_factNumber_24 (t := 31) (by decide) (fun g => ?_) (fun g => ?_)
    · have h := h.1 g
      refine x_iconst d11_factNumber_31 qi_0 ?_
      refine x_iadd d11_factNumber_32 ?_
      refine x_istore_n d11_factNumber_33 rfl (by decide) (L' := [(3, .int (v3 + (0 : Int32))), (0, .ref (b + 154)), (1, .int v1), (2, .int v2), (4, .int v4)]) rfl ?_
      refine x_iinc d11_factNumber_34 4 rfl rfl (by decide) (L' := [(4, .int (v4 + Int32.ofInt (1))), (3, .int (v3 + (0 : Int32))), (0, .ref (b + 154)), (1, .int v1), (2, .int v2)]) rfl ?_
      refine x_goto d11_factNumber_37 (t := 5) (by decide) ?_
      exact xm_X.sub [2, 3, 4, 1, 0] rfl (h hS)
    · have h := h.2 g
      refine x_iconst d11_factNumber_27 qi_1 ?_
      refine x_goto d11_factNumber_28 (t := 32) (by decide) ?_
      refine x_iadd d11_factNumber_32 ?_
      refine x_istore_n d11_factNumber_33 rfl (by decide) (L' := [(3, .int (v3 + (1 : Int32))), (0, .ref (b + 154)), (1, .int v1), (2, .int v2), (4, .int v4)]) rfl ?_
      refine x_iinc d11_factNumber_34 4 rfl rfl (by decide) (L' := [(4, .int (v4 + Int32.ofInt (1))), (3, .int (v3 + (1 : Int32))), (0, .ref (b + 154)), (1, .int v1), (2, .int v2)]) rfl ?_
      refine x_goto d11_factNumber_37 (t := 5) (by decide) ?_
      exact xm_X.sub [2, 3, 4, 1, 0] rfl (h hS)

set_option maxRecDepth 20000 in
theorem t11_tellInstruction_0 {l : Launch} {E : xm_E} {b : Nat} {c p : Bool} {Q : Option Value → xm_M → Prop} (M : xm_M) (v1 : Int32) (hS : xm_st b c p M)
  (h : (xm_st b c p M → xm_X l E y11_tellInstruction rm11_tellInstruction Q 2 [(0, .ref (b + 154)), (1, .int v1), (2, .int (0 : Int32))] [] 0 0 M)) :
  xm_X l E y11_tellInstruction rm11_tellInstruction Q 0 [(0, .ref (b + 154)), (1, .int v1)] [] 0 0 M := by
  refine x_iconst d11_tellInstruction_0 qi_0 ?_
  refine x_istore_n d11_tellInstruction_1 rfl (by decide) (L' := [(2, .int (0 : Int32)), (0, .ref (b + 154)), (1, .int v1)]) rfl ?_
  exact xm_X.sub [1, 2, 0] rfl (h hS)
set_option maxRecDepth 20000 in
theorem t11_tellInstruction_2 {l : Launch} {E : xm_E} {b : Nat} {c p : Bool} {Q : Option Value → xm_M → Prop} (M : xm_M) (v1 : Int32) (v2 : Int32) (hS : xm_st b c p M)
  (h : (((2 : Int32) ≤ v2 → (xm_st b c p M → xm_X l E y11_tellInstruction rm11_tellInstruction Q 35 [(0, .ref (b + 154)), (1, .int v1), (2, .int (0 : Int32))] [] 0 0 M)) ∧ (¬ (2 : Int32) ≤ v2 → xm_C l E y11_isAccess rm11_isAccess [.ref (b + 154), .int v1] M (fun r M1 => ∃ r2 : Bool, r = some (.int (xz r2)) ∧ xm_st b c p M1 ∧ (((xz r2) = 0 → (xm_st b c p M1 → xm_X l E y11_tellInstruction rm11_tellInstruction Q 35 [(0, .ref (b + 154)), (1, .int v1), (2, .int (0 : Int32))] [] 0 0 M1)) ∧ (¬ (xz r2) = 0 → xm_C l E y11_findBound rm11_findBound [.ref (b + 154), .int v1, .int v2] M1 (fun r M3 => ∃ r4 : Bool, r = some (.int (xz r4)) ∧ xm_st b c p M3 ∧ xm_C l E y11_tellReason rm11_tellReason [.ref (b + 154), .int v1] M3 (fun r M5 => r = none ∧ xm_st b c p M5 ∧ (xm_st b c p M5 → xm_X l E y11_tellInstruction rm11_tellInstruction Q 2 [(0, .ref (b + 154)), (1, .int v1), (2, .int (v2 + Int32.ofInt (1)))] [] 0 0 M5))))))))) :
  xm_X l E y11_tellInstruction rm11_tellInstruction Q 2 [(0, .ref (b + 154)), (1, .int v1), (2, .int v2)] [] 0 0 M := by
  refine x_iload_n d11_tellInstruction_2 2 rfl rfl ?_
  refine x_iconst d11_tellInstruction_3 qi_2 ?_
  refine x_icmp_ge d11_tellInstruction_4 (t := 33) (by decide) (fun g => ?_) (fun g => ?_)
  · have h := h.1 g
    refine x_iconst d11_tellInstruction_33 qi_0 ?_
    refine x_istore_n d11_tellInstruction_34 rfl (by decide) (L' := [(2, .int (0 : Int32)), (0, .ref (b + 154)), (1, .int v1)]) rfl ?_
    exact xm_X.sub [1, 2, 0] rfl (h hS)
  · have h := h.2 g
    refine x_aload_n d11_tellInstruction_7 0 rfl rfl ?_
    refine x_iload_n d11_tellInstruction_8 1 rfl rfl ?_
    refine x_cVZ (Z := y11_isAccess) (S := rm11_isAccess) (As := [.int v1]) (rest := []) d11_tellInstruction_9 ml11_190 k11_isAccess rfl (b := (b + 154)) (hS.1 _ _ (sh_154 b)) rfl rfl (Nat.le_of_ble_eq_true rfl) ⟨⟨by decide, by decide⟩, by decide, by decide⟩ ⟨rfl, rfl⟩ h (fun r2 M1 h => ?_)
    obtain ⟨hS, h⟩ := h
    refine x_if_eq d11_tellInstruction_12 (t := 33) (by decide) (fun g => ?_) (fun g => ?_)
    · have h := h.1 g
      refine x_iconst d11_tellInstruction_33 qi_0 ?_
      refine x_istore_n d11_tellInstruction_34 rfl (by decide) (L' := [(2, .int (0 : Int32)), (0, .ref (b + 154)), (1, .int v1)]) rfl ?_
      exact xm_X.sub [1, 2, 0] rfl (h hS)
    · have h := h.2 g
      refine x_aload_n d11_tellInstruction_15 0 rfl rfl ?_
      refine x_iload_n d11_tellInstruction_16 1 rfl rfl ?_
      refine x_iload_n d11_tellInstruction_17 2 rfl rfl ?_
      refine x_cVZ (Z := y11_findBound) (S := rm11_findBound) (As := [.int v1, .int v2]) (rest := []) d11_tellInstruction_18 ml11_193 k11_findBound rfl (b := (b + 154)) (hS.1 _ _ (sh_154 b)) rfl rfl (Nat.le_of_ble_eq_true rfl) ⟨⟨by decide, by decide⟩, by decide, by decide⟩ ⟨rfl, rfl⟩ h (fun r4 M3 h => ?_)
      obtain ⟨hS, h⟩ := h
      refine x_pop d11_tellInstruction_21 rfl ?_
      refine x_aload_n d11_tellInstruction_22 0 rfl rfl ?_
      refine x_iload_n d11_tellInstruction_23 1 rfl rfl ?_
      refine x_cVN (Z := y11_tellReason) (S := rm11_tellReason) (As := [.int v1]) (rest := []) d11_tellInstruction_24 ml11_214 k11_tellReason rfl (b := (b + 154)) (hS.1 _ _ (sh_154 b)) rfl rfl (Nat.le_of_ble_eq_true rfl) ⟨⟨by decide, by decide⟩, by decide, by decide⟩ ⟨rfl, rfl⟩ h (fun M5 h => ?_)
      obtain ⟨hS, h⟩ := h
      refine x_iinc d11_tellInstruction_27 2 rfl rfl (by decide) (L' := [(2, .int (v2 + Int32.ofInt (1))), (0, .ref (b + 154)), (1, .int v1)]) rfl ?_
      refine x_goto d11_tellInstruction_30 (t := 2) (by decide) ?_
      exact xm_X.sub [1, 2, 0] rfl (h hS)
set_option maxRecDepth 20000 in
theorem t11_tellInstruction_35 {l : Launch} {E : xm_E} {b : Nat} {c p : Bool} {Q : Option Value → xm_M → Prop} (M : xm_M) (v1 : Int32) (v2 : Int32) (hS : xm_st b c p M)
  (h : (((2 : Int32) ≤ v2 → (xm_st b c p M → Q none M)) ∧ (¬ (2 : Int32) ≤ v2 → xm_C l E y11_end rm11_end [.ref (b + 154), .int v1, .int v2] M (fun r M1 => ∃ r2 : Int32, r = some (.int r2) ∧ xm_st b c p M1 ∧ ((0 ≤ r2 → xm_C l E y11_stepsOf rm11_stepsOf [.ref (b + 154), .int v1, .int v2] M1 (fun r M3 => r = none ∧ xm_st b c p M3 ∧ (vp_in (((2 : Int32) * v1) + v2) 96 ∧ (((xm_gi M3 (b + 168) (Int32.toNatClampNeg (((2 : Int32) * v1) + v2))) = 0 → xm_C l E y11_tell rm11_tell [.ref (b + 154), .int (0 : Int32)] M3 (fun r M6 => r = none ∧ xm_st b c p M6 ∧ (vp_in (((2 : Int32) * v1) + v2) 96 ∧ (((xm_gi M6 (b + 168) (Int32.toNatClampNeg (((2 : Int32) * v1) + v2))) = 0 → (xm_st b c p M6 → xm_X l E y11_tellInstruction rm11_tellInstruction Q 114 [(0, .ref (b + 154)), (1, .int v1), (2, .int v2), (3, .int r2), (4, .int (0 : Int32))] [] 0 0 M6)) ∧ (¬ (xm_gi M6 (b + 168) (Int32.toNatClampNeg (((2 : Int32) * v1) + v2))) = 0 → xm_C l E y11_findRound rm11_findRound [.ref (b + 154)] M6 (fun r M9 => ∃ r10 : Int32, r = some (.int r10) ∧ xm_st b c p M9 ∧ xm_C l E y11_tell rm11_tell [.ref (b + 154), .int r10] M9 (fun r M11 => r = none ∧ xm_st b c p M11 ∧ xm_C l E y11_tellReason rm11_tellReason [.ref (b + 154), .int v1] M11 (fun r M13 => r = none ∧ xm_st b c p M13 ∧ (xm_st b c p M13 → xm_X l E y11_tellInstruction rm11_tellInstruction Q 35 [(0, .ref (b + 154)), (1, .int v1), (2, .int (v2 + Int32.ofInt (1)))] [] 0 0 M13))))))))) ∧ (¬ (xm_gi M3 (b + 168) (Int32.toNatClampNeg (((2 : Int32) * v1) + v2))) = 0 → xm_C l E y11_tell rm11_tell [.ref (b + 154), .int (1 : Int32)] M3 (fun r M15 => r = none ∧ xm_st b c p M15 ∧ (vp_in (((2 : Int32) * v1) + v2) 96 ∧ (((xm_gi M15 (b + 168) (Int32.toNatClampNeg (((2 : Int32) * v1) + v2))) = 0 → (xm_st b c p M15 → xm_X l E y11_tellInstruction rm11_tellInstruction Q 114 [(0, .ref (b + 154)), (1, .int v1), (2, .int v2), (3, .int r2), (4, .int (0 : Int32))] [] 0 0 M15)) ∧ (¬ (xm_gi M15 (b + 168) (Int32.toNatClampNeg (((2 : Int32) * v1) + v2))) = 0 → xm_C l E y11_findRound rm11_findRound [.ref (b + 154)] M15 (fun r M18 => ∃ r19 : Int32, r = some (.int r19) ∧ xm_st b c p M18 ∧ xm_C l E y11_tell rm11_tell [.ref (b + 154), .int r19] M18 (fun r M20 => r = none ∧ xm_st b c p M20 ∧ xm_C l E y11_tellReason rm11_tellReason [.ref (b + 154), .int v1] M20 (fun r M22 => r = none ∧ xm_st b c p M22 ∧ (xm_st b c p M22 → xm_X l E y11_tellInstruction rm11_tellInstruction Q 35 [(0, .ref (b + 154)), (1, .int v1), (2, .int (v2 + Int32.ofInt (1)))] [] 0 0 M22))))))))))))) ∧ (¬ 0 ≤ r2 → (xm_st b c p M1 → xm_X l E y11_tellInstruction rm11_tellInstruction Q 35 [(0, .ref (b + 154)), (1, .int v1), (2, .int (v2 + Int32.ofInt (1)))] [] 0 0 M1))))))) :
  xm_X l E y11_tellInstruction rm11_tellInstruction Q 35 [(0, .ref (b + 154)), (1, .int v1), (2, .int v2)] [] 0 0 M := by
  refine x_iload_n d11_tellInstruction_35 2 rfl rfl ?_
  refine x_iconst d11_tellInstruction_36 qi_2 ?_
  refine x_icmp_ge d11_tellInstruction_37 (t := 183) (by decide) (fun g => ?_) (fun g => ?_)
  · have h := h.1 g
    exact x_ret (r := none) d11_tellInstruction_183 xm_rN rfl ⟨Nat.le_refl _, Nat.le_refl _⟩ (h hS)
  · have h := h.2 g
    refine x_aload_n d11_tellInstruction_40 0 rfl rfl ?_
    refine x_iload_n d11_tellInstruction_41 1 rfl rfl ?_
    refine x_iload_n d11_tellInstruction_42 2 rfl rfl ?_
    refine x_cVI (Z := y11_end) (S := rm11_end) (As := [.int v1, .int v2]) (rest := []) d11_tellInstruction_43 ml11_159 k11_end rfl (b := (b + 154)) (hS.1 _ _ (sh_154 b)) rfl rfl (Nat.le_of_ble_eq_true rfl) ⟨⟨by decide, by decide⟩, by decide, by decide⟩ ⟨rfl, rfl⟩ h (fun r2 M1 h => ?_)
    obtain ⟨hS, h⟩ := h
    refine x_istore_n d11_tellInstruction_46 rfl (by decide) (L' := [(3, .int r2), (0, .ref (b + 154)), (1, .int v1), (2, .int v2)]) rfl ?_
    refine x_iload_n d11_tellInstruction_47 0 rfl rfl ?_
    refine x_if_ge d11_tellInstruction_48 (t := 54) (by decide) (fun g => ?_) (fun g => ?_)
    · have h := h.1 g
      refine x_aload_n d11_tellInstruction_54 1 rfl rfl ?_
      refine x_iload_n d11_tellInstruction_55 2 rfl rfl ?_
      refine x_iload_n d11_tellInstruction_56 3 rfl rfl ?_
      refine x_cVN (Z := y11_stepsOf) (S := rm11_stepsOf) (As := [.int v1, .int v2]) (rest := []) d11_tellInstruction_57 ml11_163 k11_stepsOf rfl (b := (b + 154)) (hS.1 _ _ (sh_154 b)) rfl rfl (Nat.le_of_ble_eq_true rfl) ⟨⟨by decide, by decide⟩, by decide, by decide⟩ ⟨rfl, rfl⟩ h (fun M3 h => ?_)
      obtain ⟨hS, h⟩ := h
      refine x_aload_n d11_tellInstruction_60 1 rfl rfl ?_
      refine x_aload_n d11_tellInstruction_61 1 rfl rfl ?_
      refine x_getR d11_tellInstruction_62 fl11_56 (fun _ _ => rfl) (hS.1 _ _ (sh_154 b)) (hS.2.1 _ _ _ (pt_154_22 b)) ?_
      refine x_iconst d11_tellInstruction_65 qi_2 ?_
      refine x_iload_n d11_tellInstruction_66 2 rfl rfl ?_
      refine x_imul d11_tellInstruction_67 ?_
      refine x_iload_n d11_tellInstruction_68 3 rfl rfl ?_
      refine x_iadd d11_tellInstruction_69 ?_
      obtain ⟨g5, h⟩ := h
      refine x_zald d11_tellInstruction_70 (hS.1 _ _ (sh_168 b)) g5 ?_
      refine x_if_eq d11_tellInstruction_71 (t := 78) (by decide) (fun g => ?_) (fun g => ?_)
      · have h := h.1 g
        refine x_iconst d11_tellInstruction_78 qi_0 ?_
        refine x_cVN (Z := y11_tell) (S := rm11_tell) (As := [.int (0 : Int32)]) (rest := []) d11_tellInstruction_79 ml11_208 k11_tell rfl (b := (b + 154)) (hS.1 _ _ (sh_154 b)) rfl rfl (Nat.le_of_ble_eq_true rfl) ⟨⟨by decide, by decide⟩, by decide, by decide⟩ ⟨rfl, rfl⟩ h (fun M6 h => ?_)
        obtain ⟨hS, h⟩ := h
        refine x_aload_n d11_tellInstruction_82 1 rfl rfl ?_
        refine x_getR d11_tellInstruction_83 fl11_56 (fun _ _ => rfl) (hS.1 _ _ (sh_154 b)) (hS.2.1 _ _ _ (pt_154_22 b)) ?_
        refine x_iconst d11_tellInstruction_86 qi_2 ?_
        refine x_iload_n d11_tellInstruction_87 2 rfl rfl ?_
        refine x_imul d11_tellInstruction_88 ?_
        refine x_iload_n d11_tellInstruction_89 3 rfl rfl ?_
        refine x_iadd d11_tellInstruction_90 ?_
        obtain ⟨g8, h⟩ := h
        refine x_zald d11_tellInstruction_91 (hS.1 _ _ (sh_168 b)) g8 ?_
        refine x_if_eq d11_tellInstruction_92 (t := 111) (by decide) (fun g => ?_) (fun g => ?_)
        · have h := h.1 g
          refine x_iconst d11_tellInstruction_111 qi_0 ?_
          refine x_istore d11_tellInstruction_112 (by decide) (L' := [(4, .int (0 : Int32)), (3, .int r2), (0, .ref (b + 154)), (1, .int v1), (2, .int v2)]) rfl ?_
          exact xm_X.sub [2, 3, 4, 1, 0] rfl (h hS)
        · have h := h.2 g
          refine x_aload_n d11_tellInstruction_95 1 rfl rfl ?_
          refine x_aload_n d11_tellInstruction_96 1 rfl rfl ?_
          refine x_cVI (Z := y11_findRound) (S := rm11_findRound) (As := []) (rest := [.ref (b + 154)]) d11_tellInstruction_97 ml11_199 k11_findRound rfl (b := (b + 154)) (hS.1 _ _ (sh_154 b)) rfl rfl (Nat.le_of_ble_eq_true rfl) ⟨⟨by decide, by decide⟩, by decide, by decide⟩ ⟨rfl, rfl⟩ h (fun r10 M9 h => ?_)
          obtain ⟨hS, h⟩ := h
          refine x_cVN (Z := y11_tell) (S := rm11_tell) (As := [.int r10]) (rest := []) d11_tellInstruction_100 ml11_208 k11_tell rfl (b := (b + 154)) (hS.1 _ _ (sh_154 b)) rfl rfl (Nat.le_of_ble_eq_true rfl) ⟨⟨by decide, by decide⟩, by decide, by decide⟩ ⟨rfl, rfl⟩ h (fun M11 h => ?_)
          obtain ⟨hS, h⟩ := h
          refine x_aload_n d11_tellInstruction_103 1 rfl rfl ?_
          refine x_iload_n d11_tellInstruction_104 2 rfl rfl ?_
          refine x_cVN (Z := y11_tellReason) (S := rm11_tellReason) (As := [.int v1]) (rest := []) d11_tellInstruction_105 ml11_214 k11_tellReason rfl (b := (b + 154)) (hS.1 _ _ (sh_154 b)) rfl rfl (Nat.le_of_ble_eq_true rfl) ⟨⟨by decide, by decide⟩, by decide, by decide⟩ ⟨rfl, rfl⟩ h (fun M13 h => ?_)
          obtain ⟨hS, h⟩ := h
          refine x_goto d11_tellInstruction_108 (t := 177) (by decide) ?_
          refine x_iinc d11_tellInstruction_177 3 rfl rfl (by decide) (L' := [(2, .int (v2 + Int32.ofInt (1))), (3, .int r2), (0, .ref (b + 154)), (1, .int v1)]) rfl ?_
          refine x_goto d11_tellInstruction_180 (t := 35) (by decide) ?_
          exact xm_X.sub [2, 3, 0] rfl (h hS)
      · have h := h.2 g
        refine x_iconst d11_tellInstruction_74 qi_1 ?_
        refine x_goto d11_tellInstruction_75 (t := 79) (by decide) ?_
        refine x_cVN (Z := y11_tell) (S := rm11_tell) (As := [.int (1 : Int32)]) (rest := []) d11_tellInstruction_79 ml11_208 k11_tell rfl (b := (b + 154)) (hS.1 _ _ (sh_154 b)) rfl rfl (Nat.le_of_ble_eq_true rfl) ⟨⟨by decide, by decide⟩, by decide, by decide⟩ ⟨rfl, rfl⟩ h (fun M15 h => ?_)
        obtain ⟨hS, h⟩ := h
        refine x_aload_n d11_tellInstruction_82 1 rfl rfl ?_
        refine x_getR d11_tellInstruction_83 fl11_56 (fun _ _ => rfl) (hS.1 _ _ (sh_154 b)) (hS.2.1 _ _ _ (pt_154_22 b)) ?_
        refine x_iconst d11_tellInstruction_86 qi_2 ?_
        refine x_iload_n d11_tellInstruction_87 2 rfl rfl ?_
        refine x_imul d11_tellInstruction_88 ?_
        refine x_iload_n d11_tellInstruction_89 3 rfl rfl ?_
        refine x_iadd d11_tellInstruction_90 ?_
        obtain ⟨g17, h⟩ := h
        refine x_zald d11_tellInstruction_91 (hS.1 _ _ (sh_168 b)) g17 ?_
        refine x_if_eq d11_tellInstruction_92 (t := 111) (by decide) (fun g => ?_) (fun g => ?_)
        · have h := h.1 g
          refine x_iconst d11_tellInstruction_111 qi_0 ?_
          refine x_istore d11_tellInstruction_112 (by decide) (L' := [(4, .int (0 : Int32)), (3, .int r2), (0, .ref (b + 154)), (1, .int v1), (2, .int v2)]) rfl ?_
          exact xm_X.sub [2, 3, 4, 1, 0] rfl (h hS)
        · have h := h.2 g
          refine x_aload_n d11_tellInstruction_95 1 rfl rfl ?_
          refine x_aload_n d11_tellInstruction_96 1 rfl rfl ?_
          refine x_cVI (Z := y11_findRound) (S := rm11_findRound) (As := []) (rest := [.ref (b + 154)]) d11_tellInstruction_97 ml11_199 k11_findRound rfl (b := (b + 154)) (hS.1 _ _ (sh_154 b)) rfl rfl (Nat.le_of_ble_eq_true rfl) ⟨⟨by decide, by decide⟩, by decide, by decide⟩ ⟨rfl, rfl⟩ h (fun r19 M18 h => ?_)
          obtain ⟨hS, h⟩ := h
          refine x_cVN (Z := y11_tell) (S := rm11_tell) (As := [.int r19]) (rest := []) d11_tellInstruction_100 ml11_208 k11_tell rfl (b := (b + 154)) (hS.1 _ _ (sh_154 b)) rfl rfl (Nat.le_of_ble_eq_true rfl) ⟨⟨by decide, by decide⟩, by decide, by decide⟩ ⟨rfl, rfl⟩ h (fun M20 h => ?_)
          obtain ⟨hS, h⟩ := h
          refine x_aload_n d11_tellInstruction_103 1 rfl rfl ?_
          refine x_iload_n d11_tellInstruction_104 2 rfl rfl ?_
          refine x_cVN (Z := y11_tellReason) (S := rm11_tellReason) (As := [.int v1]) (rest := []) d11_tellInstruction_105 ml11_214 k11_tellReason rfl (b := (b + 154)) (hS.1 _ _ (sh_154 b)) rfl rfl (Nat.le_of_ble_eq_true rfl) ⟨⟨by decide, by decide⟩, by decide, by decide⟩ ⟨rfl, rfl⟩ h (fun M22 h => ?_)
          obtain ⟨hS, h⟩ := h
          refine x_goto d11_tellInstruction_108 (t := 177) (by decide) ?_
          refine x_iinc d11_tellInstruction_177 3 rfl rfl (by decide) (L' := [(2, .int (v2 + Int32.ofInt (1))), (3, .int r2), (0, .ref (b + 154)), (1, .int v1)]) rfl ?_
          refine x_goto d11_tellInstruction_180 (t := 35) (by decide) ?_
          exact xm_X.sub [2, 3, 0] rfl (h hS)
    · have h := h.2 g
      refine x_goto d11_tellInstruction_51 (t := 177) (by decide) ?_
      refine x_iinc d11_tellInstruction_177 3 rfl rfl (by decide) (L' := [(2, .int (v2 + Int32.ofInt (1))), (3, .int r2), (0, .ref (b + 154)), (1, .int v1)]) rfl ?_
      refine x_goto d11_tellInstruction_180 (t := 35) (by decide) ?_
      exact xm_X.sub [2, 3, 0] rfl (h hS)
set_option maxRecDepth 20000 in
theorem t11_tellInstruction_114 {l : Launch} {E : xm_E} {b : Nat} {c p : Bool} {Q : Option Value → xm_M → Prop} (M : xm_M) (v1 : Int32) (v2 : Int32) (v3 : Int32) (v4 : Int32) (hS : xm_st b c p M)
  (h : (((100 : Int32) ≤ v4 → (xm_st b c p M → xm_X l E y11_tellInstruction rm11_tellInstruction Q 35 [(0, .ref (b + 154)), (1, .int v1), (2, .int (v2 + Int32.ofInt (1)))] [] 0 0 M)) ∧ (¬ (100 : Int32) ≤ v4 → (vp_in (((100 : Int32) * v3) + v4) 4800 ∧ ((¬ (xm_gi M (b + 172) (Int32.toNatClampNeg (((100 : Int32) * v3) + v4))) = 0 → (vp_in (((100 : Int32) * v3) + v4) 4800 ∧ xm_C l E y11_findReason rm11_findReason [.ref (b + 154), .int (v4 / (10 : Int32)), .int (v4 - v4 / (10 : Int32) * (10 : Int32)), .long (xm_gl M (b + 166) (Int32.toNatClampNeg (((100 : Int32) * v3) + v4)))] M (fun r M3 => ∃ r4 : Bool, r = some (.int (xz r4)) ∧ xm_st b c p M3 ∧ xm_C l E y11_tellReason rm11_tellReason [.ref (b + 154), .int v1] M3 (fun r M5 => r = none ∧ xm_st b c p M5 ∧ (xm_st b c p M5 → xm_X l E y11_tellInstruction rm11_tellInstruction Q 114 [(0, .ref (b + 154)), (1, .int v1), (2, .int v2), (3, .int v3), (4, .int (v4 + Int32.ofInt (1)))] [] 0 0 M5))))) ∧ ((xm_gi M (b + 172) (Int32.toNatClampNeg (((100 : Int32) * v3) + v4))) = 0 → (xm_st b c p M → xm_X l E y11_tellInstruction rm11_tellInstruction Q 114 [(0, .ref (b + 154)), (1, .int v1), (2, .int v2), (3, .int v3), (4, .int (v4 + Int32.ofInt (1)))] [] 0 0 M))))))) :
  xm_X l E y11_tellInstruction rm11_tellInstruction Q 114 [(0, .ref (b + 154)), (1, .int v1), (2, .int v2), (3, .int v3), (4, .int v4)] [] 0 0 M := by
  refine x_iload d11_tellInstruction_114 4 rfl ?_
  refine x_bipush d11_tellInstruction_116 qb_100 ?_
  refine x_icmp_ge d11_tellInstruction_118 (t := 177) (by decide) (fun g => ?_) (fun g => ?_)
  · have h := h.1 g
    refine x_iinc d11_tellInstruction_177 2 rfl rfl (by decide) (L' := [(2, .int (v2 + Int32.ofInt (1))), (0, .ref (b + 154)), (1, .int v1), (3, .int v3), (4, .int v4)]) rfl ?_
    refine x_goto d11_tellInstruction_180 (t := 35) (by decide) ?_
    exact xm_X.sub [1, 2, 0] rfl (h hS)
  · have h := h.2 g
    refine x_aload_n d11_tellInstruction_121 0 rfl rfl ?_
    refine x_getR d11_tellInstruction_122 fl11_68 (fun _ _ => rfl) (hS.1 _ _ (sh_154 b)) (hS.2.1 _ _ _ (pt_154_27 b)) ?_
    refine x_bipush d11_tellInstruction_125 qb_100 ?_
    refine x_iload_n d11_tellInstruction_127 3 rfl rfl ?_
    refine x_imul d11_tellInstruction_128 ?_
    refine x_iload d11_tellInstruction_129 4 rfl ?_
    refine x_iadd d11_tellInstruction_131 ?_
    obtain ⟨g1, h⟩ := h
    refine x_zald d11_tellInstruction_132 (hS.1 _ _ (sh_172 b)) g1 ?_
    refine x_if_ne d11_tellInstruction_133 (t := 139) (by decide) (fun g => ?_) (fun g => ?_)
    · have h := h.1 g
      refine x_aload_n d11_tellInstruction_139 0 rfl rfl ?_
      refine x_iload d11_tellInstruction_140 4 rfl ?_
      refine x_bipush d11_tellInstruction_142 qb_10 ?_
      refine x_idiv d11_tellInstruction_144 (by decide) ?_
      refine x_iload d11_tellInstruction_145 4 rfl ?_
      refine x_bipush d11_tellInstruction_147 qb_10 ?_
      refine x_irem d11_tellInstruction_149 (by decide) ?_
      refine x_aload_n d11_tellInstruction_150 0 rfl rfl ?_
      refine x_getR d11_tellInstruction_151 fl11_49 (fun _ _ => rfl) (hS.1 _ _ (sh_154 b)) (hS.2.1 _ _ _ (pt_154_20 b)) ?_
      refine x_bipush d11_tellInstruction_154 qb_100 ?_
      refine x_iload_n d11_tellInstruction_156 3 rfl rfl ?_
      refine x_imul d11_tellInstruction_157 ?_
      refine x_iload d11_tellInstruction_158 4 rfl ?_
      refine x_iadd d11_tellInstruction_160 ?_
      obtain ⟨g2, h⟩ := h
      refine x_lald d11_tellInstruction_161 (hS.1 _ _ (sh_166 b)) g2 ?_
      refine x_cVZ (Z := y11_findReason) (S := rm11_findReason) (As := [.int (v4 / (10 : Int32)), .int (v4 - v4 / (10 : Int32) * (10 : Int32)), .long (xm_gl M (b + 166) (Int32.toNatClampNeg (((100 : Int32) * v3) + v4)))]) (rest := []) d11_tellInstruction_162 ml11_173 k11_findReason rfl (b := (b + 154)) (hS.1 _ _ (sh_154 b)) rfl rfl (Nat.le_of_ble_eq_true rfl) ⟨⟨by decide, by decide⟩, by decide, by decide⟩ ⟨rfl, rfl⟩ h (fun r4 M3 h => ?_)
      obtain ⟨hS, h⟩ := h
      refine x_pop d11_tellInstruction_165 rfl ?_
      refine x_aload_n d11_tellInstruction_166 0 rfl rfl ?_
      refine x_iload_n d11_tellInstruction_167 1 rfl rfl ?_
      refine x_cVN (Z := y11_tellReason) (S := rm11_tellReason) (As := [.int v1]) (rest := []) d11_tellInstruction_168 ml11_214 k11_tellReason rfl (b := (b + 154)) (hS.1 _ _ (sh_154 b)) rfl rfl (Nat.le_of_ble_eq_true rfl) ⟨⟨by decide, by decide⟩, by decide, by decide⟩ ⟨rfl, rfl⟩ h (fun M5 h => ?_)
      obtain ⟨hS, h⟩ := h
      refine x_iinc d11_tellInstruction_171 4 rfl rfl (by decide) (L' := [(4, .int (v4 + Int32.ofInt (1))), (0, .ref (b + 154)), (1, .int v1), (2, .int v2), (3, .int v3)]) rfl ?_
      refine x_goto d11_tellInstruction_174 (t := 114) (by decide) ?_
      exact xm_X.sub [1, 2, 3, 4, 0] rfl (h hS)
    · have h := h.2 g
      refine x_goto d11_tellInstruction_136 (t := 171) (by decide) ?_
      refine x_iinc d11_tellInstruction_171 4 rfl rfl (by decide) (L' := [(4, .int (v4 + Int32.ofInt (1))), (0, .ref (b + 154)), (1, .int v1), (2, .int v2), (3, .int v3)]) rfl ?_
      refine x_goto d11_tellInstruction_174 (t := 114) (by decide) ?_
      exact xm_X.sub [1, 2, 3, 4, 0] rfl (h hS)

set_option maxRecDepth 20000 in
theorem t11_say_0 {l : Launch} {E : xm_E} {b : Nat} {c p : Bool} {Q : Option Value → xm_M → Prop} (M : xm_M) (v1 : Int32) (hS : xm_st b c p M)
  (h : ((¬ (xm_gi M (b + 154) 8) = (20000 : Int32) → (vp_in (xm_gi M (b + 154) 8) 20000 ∧ (xm_st b c p (xm_pi (xm_pi M (b + 160) (Int32.toNatClampNeg (xm_gi M (b + 154) 8)) v1) (b + 154) 8 ((xm_gi (xm_pi M (b + 160) (Int32.toNatClampNeg (xm_gi M (b + 154) 8)) v1) (b + 154) 8) + (1 : Int32))) → Q (some (.int (xm_gi (xm_pi (xm_pi M (b + 160) (Int32.toNatClampNeg (xm_gi M (b + 154) 8)) v1) (b + 154) 8 ((xm_gi (xm_pi M (b + 160) (Int32.toNatClampNeg (xm_gi M (b + 154) 8)) v1) (b + 154) 8) + (1 : Int32))) (b + 154) 8))) (xm_pi (xm_pi M (b + 160) (Int32.toNatClampNeg (xm_gi M (b + 154) 8)) v1) (b + 154) 8 ((xm_gi (xm_pi M (b + 160) (Int32.toNatClampNeg (xm_gi M (b + 154) 8)) v1) (b + 154) 8) + (1 : Int32)))))) ∧ ((xm_gi M (b + 154) 8) = (20000 : Int32) → (xm_st b c p M → Q (some (.int (-3 : Int32))) M)))) :
  xm_X l E y11_say rm11_say Q 0 [(0, .ref (b + 154)), (1, .int v1)] [] 0 0 M := by
  refine x_aload_n d11_say_0 0 rfl rfl ?_
  refine x_getI d11_say_1 fl11_217 (fun _ _ => rfl) (hS.1 _ _ (sh_154 b)) ?_
  refine x_sipush d11_say_4 qs_20000 ?_
  refine x_icmp_ne d11_say_7 (t := 13) (by decide) (fun g => ?_) (fun g => ?_)
  · have h := h.1 g
    refine x_aload_n d11_say_13 0 rfl rfl ?_
    refine x_getR d11_say_14 fl11_25 (fun _ _ => rfl) (hS.1 _ _ (sh_154 b)) (hS.2.1 _ _ _ (pt_154_7 b)) ?_
    refine x_aload_n d11_say_17 0 rfl rfl ?_
    refine x_getI d11_say_18 fl11_217 (fun _ _ => rfl) (hS.1 _ _ (sh_154 b)) ?_
    refine x_iload_n d11_say_21 1 rfl rfl ?_
    obtain ⟨g1, h⟩ := h
    refine x_iast d11_say_22 (hS.1 _ _ (sh_160 b)) g1 ?_
    refine x_aload_n d11_say_23 0 rfl rfl ?_
    refine x_dup d11_say_24 rfl ?_
    refine x_getI d11_say_25 fl11_217 (fun _ _ => rfl) (hS.pi.1 _ _ (sh_154 b)) ?_
    refine x_iconst d11_say_28 qi_1 ?_
    refine x_iadd d11_say_29 ?_
    refine x_putI d11_say_30 fw11_217 (fun _ _ => rfl) rfl rfl (hS.pi.1 _ _ (sh_154 b)) ?_
    refine x_aload_n d11_say_33 0 rfl rfl ?_
    refine x_getI d11_say_34 fl11_217 (fun _ _ => rfl) (hS.pi.pi.1 _ _ (sh_154 b)) ?_
    exact x_ret (r := (some (.int (xm_gi (xm_pi (xm_pi M (b + 160) (Int32.toNatClampNeg (xm_gi M (b + 154) 8)) v1) (b + 154) 8 ((xm_gi (xm_pi M (b + 160) (Int32.toNatClampNeg (xm_gi M (b + 154) 8)) v1) (b + 154) 8) + (1 : Int32))) (b + 154) 8)))) d11_say_37 xm_rI rfl ⟨Nat.le_refl _, Nat.le_refl _⟩ (h hS.pi.pi)
  · have h := h.2 g
    refine x_bipush d11_say_10 qb_n3 ?_
    exact x_ret (r := (some (.int (-3 : Int32)))) d11_say_12 xm_rI rfl ⟨Nat.le_refl _, Nat.le_refl _⟩ (h hS)

set_option maxRecDepth 20000 in
theorem t11_cut_0 {l : Launch} {E : xm_E} {b : Nat} {c p : Bool} {Q : Option Value → xm_M → Prop} (M : xm_M) (v1 : Int32) (hS : xm_st b c p M)
  (h : ((v1 < 0 → (xm_st b c p M → Q (some (.int (0 : Int32))) M)) ∧ (¬ v1 < 0 → ((v1 ≤ (xm_gi M (b + 154) 8) → (xm_st b c p (xm_pi M (b + 154) 8 v1) → Q (some (.int (1 : Int32))) (xm_pi M (b + 154) 8 v1))) ∧ (¬ v1 ≤ (xm_gi M (b + 154) 8) → (xm_st b c p M → Q (some (.int (0 : Int32))) M)))))) :
  xm_X l E y11_cut rm11_cut Q 0 [(0, .ref (b + 154)), (1, .int v1)] [] 0 0 M := by
  refine x_iload_n d11_cut_0 1 rfl rfl ?_
  refine x_if_lt d11_cut_1 (t := 12) (by decide) (fun g => ?_) (fun g => ?_)
  · have h := h.1 g
    refine x_iconst d11_cut_12 qi_0 ?_
    exact x_ret (r := (some (.int (0 : Int32)))) d11_cut_13 (xm_rZ (Or.inl rfl)) rfl ⟨Nat.le_refl _, Nat.le_refl _⟩ (h hS)
  · have h := h.2 g
    refine x_iload_n d11_cut_4 1 rfl rfl ?_
    refine x_aload_n d11_cut_5 0 rfl rfl ?_
    refine x_getI d11_cut_6 fl11_217 (fun _ _ => rfl) (hS.1 _ _ (sh_154 b)) ?_
    refine x_icmp_le d11_cut_9 (t := 14) (by decide) (fun g => ?_) (fun g => ?_)
    · have h := h.1 g
      refine x_aload_n d11_cut_14 0 rfl rfl ?_
      refine x_iload_n d11_cut_15 1 rfl rfl ?_
      refine x_putI d11_cut_16 fw11_217 (fun _ _ => rfl) rfl rfl (hS.1 _ _ (sh_154 b)) ?_
      refine x_iconst d11_cut_19 qi_1 ?_
      exact x_ret (r := (some (.int (1 : Int32)))) d11_cut_20 (xm_rZ (Or.inr rfl)) rfl ⟨Nat.le_refl _, Nat.le_refl _⟩ (h hS.pi)
    · have h := h.2 g
      refine x_iconst d11_cut_12 qi_0 ?_
      exact x_ret (r := (some (.int (0 : Int32)))) d11_cut_13 (xm_rZ (Or.inl rfl)) rfl ⟨Nat.le_refl _, Nat.le_refl _⟩ (h hS)

set_option maxRecDepth 20000 in
theorem t11_change_0 {l : Launch} {E : xm_E} {b : Nat} {c p : Bool} {Q : Option Value → xm_M → Prop} (M : xm_M) (v1 : Int32) (v2 : Int32) (hS : xm_st b c p M)
  (h : ((v1 < 0 → (xm_st b c p M → Q (some (.int (0 : Int32))) M)) ∧ (¬ v1 < 0 → ((v1 < (xm_gi M (b + 154) 8) → (vp_in v1 20000 ∧ (xm_st b c p (xm_pi M (b + 160) (Int32.toNatClampNeg v1) v2) → Q (some (.int (1 : Int32))) (xm_pi M (b + 160) (Int32.toNatClampNeg v1) v2)))) ∧ (¬ v1 < (xm_gi M (b + 154) 8) → (xm_st b c p M → Q (some (.int (0 : Int32))) M)))))) :
  xm_X l E y11_change rm11_change Q 0 [(0, .ref (b + 154)), (1, .int v1), (2, .int v2)] [] 0 0 M := by
  refine x_iload_n d11_change_0 1 rfl rfl ?_
  refine x_if_lt d11_change_1 (t := 12) (by decide) (fun g => ?_) (fun g => ?_)
  · have h := h.1 g
    refine x_iconst d11_change_12 qi_0 ?_
    exact x_ret (r := (some (.int (0 : Int32)))) d11_change_13 (xm_rZ (Or.inl rfl)) rfl ⟨Nat.le_refl _, Nat.le_refl _⟩ (h hS)
  · have h := h.2 g
    refine x_iload_n d11_change_4 1 rfl rfl ?_
    refine x_aload_n d11_change_5 0 rfl rfl ?_
    refine x_getI d11_change_6 fl11_217 (fun _ _ => rfl) (hS.1 _ _ (sh_154 b)) ?_
    refine x_icmp_lt d11_change_9 (t := 14) (by decide) (fun g => ?_) (fun g => ?_)
    · have h := h.1 g
      refine x_aload_n d11_change_14 0 rfl rfl ?_
      refine x_getR d11_change_15 fl11_25 (fun _ _ => rfl) (hS.1 _ _ (sh_154 b)) (hS.2.1 _ _ _ (pt_154_7 b)) ?_
      refine x_iload_n d11_change_18 1 rfl rfl ?_
      refine x_iload_n d11_change_19 2 rfl rfl ?_
      obtain ⟨g1, h⟩ := h
      refine x_iast d11_change_20 (hS.1 _ _ (sh_160 b)) g1 ?_
      refine x_iconst d11_change_21 qi_1 ?_
      exact x_ret (r := (some (.int (1 : Int32)))) d11_change_22 (xm_rZ (Or.inr rfl)) rfl ⟨Nat.le_refl _, Nat.le_refl _⟩ (h hS.pi)
    · have h := h.2 g
      refine x_iconst d11_change_12 qi_0 ?_
      exact x_ret (r := (some (.int (0 : Int32)))) d11_change_13 (xm_rZ (Or.inl rfl)) rfl ⟨Nat.le_refl _, Nat.le_refl _⟩ (h hS)

set_option maxRecDepth 20000 in
theorem t11_length_0 {l : Launch} {E : xm_E} {b : Nat} {c p : Bool} {Q : Option Value → xm_M → Prop} (M : xm_M)  (hS : xm_st b c p M)
  (h : (xm_st b c p M → Q (some (.int (xm_gi M (b + 154) 8))) M)) :
  xm_X l E y11_length rm11_length Q 0 [(0, .ref (b + 154))] [] 0 0 M := by
  refine x_aload_n d11_length_0 0 rfl rfl ?_
  refine x_getI d11_length_1 fl11_217 (fun _ _ => rfl) (hS.1 _ _ (sh_154 b)) ?_
  exact x_ret (r := (some (.int (xm_gi M (b + 154) 8)))) d11_length_4 xm_rI rfl ⟨Nat.le_refl _, Nat.le_refl _⟩ (h hS)

set_option maxRecDepth 20000 in
theorem t11_at_0 {l : Launch} {E : xm_E} {b : Nat} {c p : Bool} {Q : Option Value → xm_M → Prop} (M : xm_M) (v1 : Int32) (hS : xm_st b c p M)
  (h : ((v1 < 0 → (xm_st b c p M → Q (some (.int (0 : Int32))) M)) ∧ (¬ v1 < 0 → (((xm_gi M (b + 154) 8) ≤ v1 → (xm_st b c p M → Q (some (.int (0 : Int32))) M)) ∧ (¬ (xm_gi M (b + 154) 8) ≤ v1 → (vp_in v1 20000 ∧ (xm_st b c p M → Q (some (.int (xm_gi M (b + 160) (Int32.toNatClampNeg v1)))) M))))))) :
  xm_X l E y11_at rm11_at Q 0 [(0, .ref (b + 154)), (1, .int v1)] [] 0 0 M := by
  refine x_iload_n d11_at_0 1 rfl rfl ?_
  refine x_if_lt d11_at_1 (t := 21) (by decide) (fun g => ?_) (fun g => ?_)
  · have h := h.1 g
    refine x_iconst d11_at_21 qi_0 ?_
    exact x_ret (r := (some (.int (0 : Int32)))) d11_at_22 xm_rI rfl ⟨Nat.le_refl _, Nat.le_refl _⟩ (h hS)
  · have h := h.2 g
    refine x_iload_n d11_at_4 1 rfl rfl ?_
    refine x_aload_n d11_at_5 0 rfl rfl ?_
    refine x_getI d11_at_6 fl11_217 (fun _ _ => rfl) (hS.1 _ _ (sh_154 b)) ?_
    refine x_icmp_ge d11_at_9 (t := 21) (by decide) (fun g => ?_) (fun g => ?_)
    · have h := h.1 g
      refine x_iconst d11_at_21 qi_0 ?_
      exact x_ret (r := (some (.int (0 : Int32)))) d11_at_22 xm_rI rfl ⟨Nat.le_refl _, Nat.le_refl _⟩ (h hS)
    · have h := h.2 g
      refine x_aload_n d11_at_12 0 rfl rfl ?_
      refine x_getR d11_at_13 fl11_25 (fun _ _ => rfl) (hS.1 _ _ (sh_154 b)) (hS.2.1 _ _ _ (pt_154_7 b)) ?_
      refine x_iload_n d11_at_16 1 rfl rfl ?_
      obtain ⟨g1, h⟩ := h
      refine x_iald d11_at_17 (hS.1 _ _ (sh_160 b)) g1 ?_
      refine x_goto d11_at_18 (t := 22) (by decide) ?_
      exact x_ret (r := (some (.int (xm_gi M (b + 160) (Int32.toNatClampNeg v1))))) d11_at_22 xm_rI rfl ⟨Nat.le_refl _, Nat.le_refl _⟩ (h hS)

set_option maxRecDepth 20000 in
theorem t11_check_0 {l : Launch} {E : xm_E} {b : Nat} {c p : Bool} {Q : Option Value → xm_M → Prop} (M : xm_M)  (hS : xm_st b c p M)
  (h : xm_C l E y11_wrong rm11_wrong [.ref (b + 154)] M (fun r M1 => ∃ r2 : Int32, r = some (.int r2) ∧ xm_st b c p M1 ∧ (((xm_gi (xm_pi M1 (b + 154) 9 r2) (b + 154) 9) < 0 → (xm_st b c p (xm_pi (xm_pi (xm_pi (xm_pi M1 (b + 154) 9 r2) (b + 154) 9 (-2 : Int32)) (b + 154) 31 (0 : Int32)) (b + 154) 30 (0 : Int32)) → xm_X l E y11_check rm11_check Q 35 [(0, .ref (b + 154)), (1, .int (0 : Int32))] [] 0 0 (xm_pi (xm_pi (xm_pi (xm_pi M1 (b + 154) 9 r2) (b + 154) 9 (-2 : Int32)) (b + 154) 31 (0 : Int32)) (b + 154) 30 (0 : Int32)))) ∧ (¬ (xm_gi (xm_pi M1 (b + 154) 9 r2) (b + 154) 9) < 0 → (xm_st b c p (xm_pi M1 (b + 154) 9 r2) → Q (some (.int (-1 : Int32))) (xm_pi M1 (b + 154) 9 r2)))))) :
  xm_X l E y11_check rm11_check Q 0 [(0, .ref (b + 154))] [] 0 0 M := by
  refine x_aload_n d11_check_0 0 rfl rfl ?_
  refine x_aload_n d11_check_1 0 rfl rfl ?_
  refine x_cVI (Z := y11_wrong) (S := rm11_wrong) (As := []) (rest := [.ref (b + 154)]) d11_check_2 ml11_220 k11_wrong rfl (b := (b + 154)) (hS.1 _ _ (sh_154 b)) rfl rfl (Nat.le_of_ble_eq_true rfl) ⟨⟨by decide, by decide⟩, by decide, by decide⟩ ⟨rfl, rfl⟩ h (fun r2 M1 h => ?_)
  obtain ⟨hS, h⟩ := h
  refine x_putI d11_check_5 fw11_28 (fun _ _ => rfl) rfl rfl (hS.1 _ _ (sh_154 b)) ?_
  refine x_aload_n d11_check_8 0 rfl rfl ?_
  refine x_getI d11_check_9 fl11_28 (fun _ _ => rfl) (hS.pi.1 _ _ (sh_154 b)) ?_
  refine x_if_lt d11_check_12 (t := 17) (by decide) (fun g => ?_) (fun g => ?_)
  · have h := h.1 g
    refine x_aload_n d11_check_17 0 rfl rfl ?_
    refine x_bipush d11_check_18 qb_n2 ?_
    refine x_putI d11_check_20 fw11_28 (fun _ _ => rfl) rfl rfl (hS.pi.1 _ _ (sh_154 b)) ?_
    refine x_aload_n d11_check_23 0 rfl rfl ?_
    refine x_iconst d11_check_24 qi_0 ?_
    refine x_putI d11_check_25 fw11_235 (fun _ _ => rfl) rfl rfl (hS.pi.pi.1 _ _ (sh_154 b)) ?_
    refine x_aload_n d11_check_28 0 rfl rfl ?_
    refine x_iconst d11_check_29 qi_0 ?_
    refine x_putI d11_check_30 fw11_238 (fun _ _ => rfl) rfl rfl (hS.pi.pi.pi.1 _ _ (sh_154 b)) ?_
    refine x_iconst d11_check_33 qi_0 ?_
    refine x_istore_n d11_check_34 rfl (by decide) (L' := [(1, .int (0 : Int32)), (0, .ref (b + 154))]) rfl ?_
    exact xm_X.sub [1, 0] rfl (h hS.pi.pi.pi.pi)
  · have h := h.2 g
    refine x_iconst d11_check_15 qi_n1 ?_
    exact x_ret (r := (some (.int (-1 : Int32)))) d11_check_16 xm_rI rfl ⟨Nat.le_refl _, Nat.le_refl _⟩ (h hS.pi)
set_option maxRecDepth 20000 in
theorem t11_check_35 {l : Launch} {E : xm_E} {b : Nat} {c p : Bool} {Q : Option Value → xm_M → Prop} (M : xm_M) (v1 : Int32) (hS : xm_st b c p M)
  (h : (((xm_gi M (b + 154) 1) ≤ v1 → ((¬ (xm_gi M (b + 154) 31) = 0 → xm_C l E y11_beginning rm11_beginning [.ref (b + 154)] M (fun r M1 => r = none ∧ xm_st b c p M1 ∧ (xm_st b c p M1 → xm_X l E y11_check rm11_check Q 90 [(0, .ref (b + 154)), (1, .int (0 : Int32))] [] 0 0 M1))) ∧ ((xm_gi M (b + 154) 31) = 0 → ((0 ≤ (xm_gi M (b + 175) (Int32.toNatClampNeg (0 : Int32))) → xm_C l E y11_beginning rm11_beginning [.ref (b + 154)] M (fun r M3 => r = none ∧ xm_st b c p M3 ∧ (xm_st b c p M3 → xm_X l E y11_check rm11_check Q 90 [(0, .ref (b + 154)), (1, .int (0 : Int32))] [] 0 0 M3))) ∧ (¬ 0 ≤ (xm_gi M (b + 175) (Int32.toNatClampNeg (0 : Int32))) → xm_C l E y11_fail rm11_fail [.ref (b + 154), .int (7 : Int32), .int (0 : Int32)] M (fun r M5 => r = none ∧ xm_st b c p M5 ∧ xm_C l E y11_beginning rm11_beginning [.ref (b + 154)] M5 (fun r M7 => r = none ∧ xm_st b c p M7 ∧ (xm_st b c p M7 → xm_X l E y11_check rm11_check Q 90 [(0, .ref (b + 154)), (1, .int (0 : Int32))] [] 0 0 M7)))))))) ∧ (¬ (xm_gi M (b + 154) 1) ≤ v1 → ((¬ (xm_gi M (b + 154) 31) = 0 → ((¬ (xm_gi M (b + 154) 31) = 0 → xm_C l E y11_beginning rm11_beginning [.ref (b + 154)] M (fun r M9 => r = none ∧ xm_st b c p M9 ∧ (xm_st b c p M9 → xm_X l E y11_check rm11_check Q 90 [(0, .ref (b + 154)), (1, .int (0 : Int32))] [] 0 0 M9))) ∧ ((xm_gi M (b + 154) 31) = 0 → ((0 ≤ (xm_gi M (b + 175) (Int32.toNatClampNeg (0 : Int32))) → xm_C l E y11_beginning rm11_beginning [.ref (b + 154)] M (fun r M11 => r = none ∧ xm_st b c p M11 ∧ (xm_st b c p M11 → xm_X l E y11_check rm11_check Q 90 [(0, .ref (b + 154)), (1, .int (0 : Int32))] [] 0 0 M11))) ∧ (¬ 0 ≤ (xm_gi M (b + 175) (Int32.toNatClampNeg (0 : Int32))) → xm_C l E y11_fail rm11_fail [.ref (b + 154), .int (7 : Int32), .int (0 : Int32)] M (fun r M13 => r = none ∧ xm_st b c p M13 ∧ xm_C l E y11_beginning rm11_beginning [.ref (b + 154)] M13 (fun r M15 => r = none ∧ xm_st b c p M15 ∧ (xm_st b c p M15 → xm_X l E y11_check rm11_check Q 90 [(0, .ref (b + 154)), (1, .int (0 : Int32))] [] 0 0 M15)))))))) ∧ ((xm_gi M (b + 154) 31) = 0 → xm_C l E y11_readFacts rm11_readFacts [.ref (b + 154), .int v1] M (fun r M17 => r = none ∧ xm_st b c p M17 ∧ (xm_st b c p M17 → xm_X l E y11_check rm11_check Q 35 [(0, .ref (b + 154)), (1, .int (v1 + Int32.ofInt (1)))] [] 0 0 M17))))))) :
  xm_X l E y11_check rm11_check Q 35 [(0, .ref (b + 154)), (1, .int v1)] [] 0 0 M := by
  refine x_iload_n d11_check_35 1 rfl rfl ?_
  refine x_aload_n d11_check_36 0 rfl rfl ?_
  refine x_getI d11_check_37 fl11_89 (fun _ _ => rfl) (hS.1 _ _ (sh_154 b)) ?_
  refine x_icmp_ge d11_check_40 (t := 61) (by decide) (fun g => ?_) (fun g => ?_)
  · have h := h.1 g
    refine x_aload_n d11_check_61 0 rfl rfl ?_
    refine x_getI d11_check_62 fl11_235 (fun _ _ => rfl) (hS.1 _ _ (sh_154 b)) ?_
    refine x_if_ne d11_check_65 (t := 84) (by decide) (fun g => ?_) (fun g => ?_)
    · have h := h.1 g
      refine x_aload_n d11_check_84 0 rfl rfl ?_
      refine x_cVN (Z := y11_beginning) (S := rm11_beginning) (As := []) (rest := []) d11_check_85 ml11_148 k11_beginning rfl (b := (b + 154)) (hS.1 _ _ (sh_154 b)) rfl rfl (Nat.le_of_ble_eq_true rfl) ⟨⟨by decide, by decide⟩, by decide, by decide⟩ ⟨rfl, rfl⟩ h (fun M1 h => ?_)
      obtain ⟨hS, h⟩ := h
      refine x_iconst d11_check_88 qi_0 ?_
      refine x_istore_n d11_check_89 rfl (by decide) (L' := [(1, .int (0 : Int32)), (0, .ref (b + 154))]) rfl ?_
      exact xm_X.sub [1, 0] rfl (h hS)
    · have h := h.2 g
      refine x_aload_n d11_check_68 0 rfl rfl ?_
      refine x_getR d11_check_69 fl11_77 (fun _ _ => rfl) (hS.1 _ _ (sh_154 b)) (hS.2.1 _ _ _ (pt_154_33 b)) ?_
      refine x_iconst d11_check_72 qi_0 ?_
      refine x_iald d11_check_73 (hS.1 _ _ (sh_175 b)) (xm_vl (by decide)) ?_
      refine x_if_ge d11_check_74 (t := 84) (by decide) (fun g => ?_) (fun g => ?_)
      · have h := h.1 g
        refine x_aload_n d11_check_84 0 rfl rfl ?_
        refine x_cVN (Z := y11_beginning) (S := rm11_beginning) (As := []) (rest := []) d11_check_85 ml11_148 k11_beginning rfl (b := (b + 154)) (hS.1 _ _ (sh_154 b)) rfl rfl (Nat.le_of_ble_eq_true rfl) ⟨⟨by decide, by decide⟩, by decide, by decide⟩ ⟨rfl, rfl⟩ h (fun M3 h => ?_)
        obtain ⟨hS, h⟩ := h
        refine x_iconst d11_check_88 qi_0 ?_
        refine x_istore_n d11_check_89 rfl (by decide) (L' := [(1, .int (0 : Int32)), (0, .ref (b + 154))]) rfl ?_
        exact xm_X.sub [1, 0] rfl (h hS)
      · have h := h.2 g
        refine x_aload_n d11_check_77 0 rfl rfl ?_
        refine x_bipush d11_check_78 qb_7 ?_
        refine x_iconst d11_check_80 qi_0 ?_
        refine x_cVN (Z := y11_fail) (S := rm11_fail) (As := [.int (7 : Int32), .int (0 : Int32)]) (rest := []) d11_check_81 ml11_241 k11_fail rfl (b := (b + 154)) (hS.1 _ _ (sh_154 b)) rfl rfl (Nat.le_of_ble_eq_true rfl) ⟨⟨by decide, by decide⟩, by decide, by decide⟩ ⟨rfl, rfl⟩ h (fun M5 h => ?_)
        obtain ⟨hS, h⟩ := h
        refine x_aload_n d11_check_84 0 rfl rfl ?_
        refine x_cVN (Z := y11_beginning) (S := rm11_beginning) (As := []) (rest := []) d11_check_85 ml11_148 k11_beginning rfl (b := (b + 154)) (hS.1 _ _ (sh_154 b)) rfl rfl (Nat.le_of_ble_eq_true rfl) ⟨⟨by decide, by decide⟩, by decide, by decide⟩ ⟨rfl, rfl⟩ h (fun M7 h => ?_)
        obtain ⟨hS, h⟩ := h
        refine x_iconst d11_check_88 qi_0 ?_
        refine x_istore_n d11_check_89 rfl (by decide) (L' := [(1, .int (0 : Int32)), (0, .ref (b + 154))]) rfl ?_
        exact xm_X.sub [1, 0] rfl (h hS)
  · have h := h.2 g
    refine x_aload_n d11_check_43 0 rfl rfl ?_
    refine x_getI d11_check_44 fl11_235 (fun _ _ => rfl) (hS.1 _ _ (sh_154 b)) ?_
    refine x_if_ne d11_check_47 (t := 61) (by decide) (fun g => ?_) (fun g => ?_)
    · have h := h.1 g
      refine x_aload_n d11_check_61 0 rfl rfl ?_
      refine x_getI d11_check_62 fl11_235 (fun _ _ => rfl) (hS.1 _ _ (sh_154 b)) ?_
      refine x_if_ne d11_check_65 (t := 84) (by decide) (fun g => ?_) (fun g => ?_)
      · have h := h.1 g
        refine x_aload_n d11_check_84 0 rfl rfl ?_
        refine x_cVN (Z := y11_beginning) (S := rm11_beginning) (As := []) (rest := []) d11_check_85 ml11_148 k11_beginning rfl (b := (b + 154)) (hS.1 _ _ (sh_154 b)) rfl rfl (Nat.le_of_ble_eq_true rfl) ⟨⟨by decide, by decide⟩, by decide, by decide⟩ ⟨rfl, rfl⟩ h (fun M9 h => ?_)
        obtain ⟨hS, h⟩ := h
        refine x_iconst d11_check_88 qi_0 ?_
        refine x_istore_n d11_check_89 rfl (by decide) (L' := [(1, .int (0 : Int32)), (0, .ref (b + 154))]) rfl ?_
        exact xm_X.sub [1, 0] rfl (h hS)
      · have h := h.2 g
        refine x_aload_n d11_check_68 0 rfl rfl ?_
        refine x_getR d11_check_69 fl11_77 (fun _ _ => rfl) (hS.1 _ _ (sh_154 b)) (hS.2.1 _ _ _ (pt_154_33 b)) ?_
        refine x_iconst d11_check_72 qi_0 ?_
        refine x_iald d11_check_73 (hS.1 _ _ (sh_175 b)) (xm_vl (by decide)) ?_
        refine x_if_ge d11_check_74 (t := 84) (by decide) (fun g => ?_) (fun g => ?_)
        · have h := h.1 g
          refine x_aload_n d11_check_84 0 rfl rfl ?_
          refine x_cVN (Z := y11_beginning) (S := rm11_beginning) (As := []) (rest := []) d11_check_85 ml11_148 k11_beginning rfl (b := (b + 154)) (hS.1 _ _ (sh_154 b)) rfl rfl (Nat.le_of_ble_eq_true rfl) ⟨⟨by decide, by decide⟩, by decide, by decide⟩ ⟨rfl, rfl⟩ h (fun M11 h => ?_)
          obtain ⟨hS, h⟩ := h
          refine x_iconst d11_check_88 qi_0 ?_
          refine x_istore_n d11_check_89 rfl (by decide) (L' := [(1, .int (0 : Int32)), (0, .ref (b + 154))]) rfl ?_
          exact xm_X.sub [1, 0] rfl (h hS)
        · have h := h.2 g
          refine x_aload_n d11_check_77 0 rfl rfl ?_
          refine x_bipush d11_check_78 qb_7 ?_
          refine x_iconst d11_check_80 qi_0 ?_
          refine x_cVN (Z := y11_fail) (S := rm11_fail) (As := [.int (7 : Int32), .int (0 : Int32)]) (rest := []) d11_check_81 ml11_241 k11_fail rfl (b := (b + 154)) (hS.1 _ _ (sh_154 b)) rfl rfl (Nat.le_of_ble_eq_true rfl) ⟨⟨by decide, by decide⟩, by decide, by decide⟩ ⟨rfl, rfl⟩ h (fun M13 h => ?_)
          obtain ⟨hS, h⟩ := h
          refine x_aload_n d11_check_84 0 rfl rfl ?_
          refine x_cVN (Z := y11_beginning) (S := rm11_beginning) (As := []) (rest := []) d11_check_85 ml11_148 k11_beginning rfl (b := (b + 154)) (hS.1 _ _ (sh_154 b)) rfl rfl (Nat.le_of_ble_eq_true rfl) ⟨⟨by decide, by decide⟩, by decide, by decide⟩ ⟨rfl, rfl⟩ h (fun M15 h => ?_)
          obtain ⟨hS, h⟩ := h
          refine x_iconst d11_check_88 qi_0 ?_
          refine x_istore_n d11_check_89 rfl (by decide) (L' := [(1, .int (0 : Int32)), (0, .ref (b + 154))]) rfl ?_
          exact xm_X.sub [1, 0] rfl (h hS)
    · have h := h.2 g
      refine x_aload_n d11_check_50 0 rfl rfl ?_
      refine x_iload_n d11_check_51 1 rfl rfl ?_
      refine x_cVN (Z := y11_readFacts) (S := rm11_readFacts) (As := [.int v1]) (rest := []) d11_check_52 ml11_263 k11_readFacts rfl (b := (b + 154)) (hS.1 _ _ (sh_154 b)) rfl rfl (Nat.le_of_ble_eq_true rfl) ⟨⟨by decide, by decide⟩, by decide, by decide⟩ ⟨rfl, rfl⟩ h (fun M17 h => ?_)
      obtain ⟨hS, h⟩ := h
      refine x_iinc d11_check_55 1 rfl rfl (by decide) (L' := [(1, .int (v1 + Int32.ofInt (1))), (0, .ref (b + 154))]) rfl ?_
      refine x_goto d11_check_58 (t := 35) (by decide) ?_
      exact xm_X.sub [1, 0] rfl (h hS)
set_option maxRecDepth 20000 in
theorem t11_check_90 {l : Launch} {E : xm_E} {b : Nat} {c p : Bool} {Q : Option Value → xm_M → Prop} (M : xm_M) (v1 : Int32) (hS : xm_st b c p M)
  (h : ((¬ (xm_gi M (b + 154) 31) = 0 → (xm_st b c p M → xm_X l E y11_check rm11_check Q 153 [(0, .ref (b + 154)), (1, .int (0 : Int32))] [] 0 0 M)) ∧ ((xm_gi M (b + 154) 31) = 0 → (((xm_gi M (b + 175) (Int32.toNatClampNeg (0 : Int32))) ≤ v1 → (xm_st b c p M → xm_X l E y11_check rm11_check Q 153 [(0, .ref (b + 154)), (1, .int (0 : Int32))] [] 0 0 M)) ∧ (¬ (xm_gi M (b + 175) (Int32.toNatClampNeg (0 : Int32))) ≤ v1 → (vp_in ((xm_gi M (b + 174) (Int32.toNatClampNeg (0 : Int32))) + ((3 : Int32) * v1)) 20000 ∧ (vp_in (((xm_gi M (b + 174) (Int32.toNatClampNeg (0 : Int32))) + ((3 : Int32) * v1)) + (1 : Int32)) 20000 ∧ (vp_in (((xm_gi M (b + 174) (Int32.toNatClampNeg (0 : Int32))) + ((3 : Int32) * v1)) + (2 : Int32)) 20000 ∧ xm_C l E y11_readReason rm11_readReason [.ref (b + 154), .int (xm_gi M (b + 160) (Int32.toNatClampNeg ((xm_gi M (b + 174) (Int32.toNatClampNeg (0 : Int32))) + ((3 : Int32) * v1)))), .int (xm_gi M (b + 160) (Int32.toNatClampNeg (((xm_gi M (b + 174) (Int32.toNatClampNeg (0 : Int32))) + ((3 : Int32) * v1)) + (1 : Int32)))), .long (Int32.toInt64 (xm_gi M (b + 160) (Int32.toNatClampNeg (((xm_gi M (b + 174) (Int32.toNatClampNeg (0 : Int32))) + ((3 : Int32) * v1)) + (2 : Int32)))))] M (fun r M4 => r = none ∧ xm_st b c p M4 ∧ (xm_st b c p M4 → xm_X l E y11_check rm11_check Q 90 [(0, .ref (b + 154)), (1, .int (v1 + Int32.ofInt (1)))] [] 0 0 M4)))))))))) :
  xm_X l E y11_check rm11_check Q 90 [(0, .ref (b + 154)), (1, .int v1)] [] 0 0 M := by
  refine x_aload_n d11_check_90 0 rfl rfl ?_
  refine x_getI d11_check_91 fl11_235 (fun _ _ => rfl) (hS.1 _ _ (sh_154 b)) ?_
  refine x_if_ne d11_check_94 (t := 151) (by decide) (fun g => ?_) (fun g => ?_)
  · have h := h.1 g
    refine x_iconst d11_check_151 qi_0 ?_
    refine x_istore_n d11_check_152 rfl (by decide) (L' := [(1, .int (0 : Int32)), (0, .ref (b + 154))]) rfl ?_
    exact xm_X.sub [1, 0] rfl (h hS)
  · have h := h.2 g
    refine x_iload_n d11_check_97 1 rfl rfl ?_
    refine x_aload_n d11_check_98 0 rfl rfl ?_
    refine x_getR d11_check_99 fl11_77 (fun _ _ => rfl) (hS.1 _ _ (sh_154 b)) (hS.2.1 _ _ _ (pt_154_33 b)) ?_
    refine x_iconst d11_check_102 qi_0 ?_
    refine x_iald d11_check_103 (hS.1 _ _ (sh_175 b)) (xm_vl (by decide)) ?_
    refine x_icmp_ge d11_check_104 (t := 151) (by decide) (fun g => ?_) (fun g => ?_)
    · have h := h.1 g
      refine x_iconst d11_check_151 qi_0 ?_
      refine x_istore_n d11_check_152 rfl (by decide) (L' := [(1, .int (0 : Int32)), (0, .ref (b + 154))]) rfl ?_
      exact xm_X.sub [1, 0] rfl (h hS)
    · have h := h.2 g
      refine x_aload_n d11_check_107 0 rfl rfl ?_
      refine x_getR d11_check_108 fl11_74 (fun _ _ => rfl) (hS.1 _ _ (sh_154 b)) (hS.2.1 _ _ _ (pt_154_32 b)) ?_
      refine x_iconst d11_check_111 qi_0 ?_
      refine x_iald d11_check_112 (hS.1 _ _ (sh_174 b)) (xm_vl (by decide)) ?_
      refine x_iconst d11_check_113 qi_3 ?_
      refine x_iload_n d11_check_114 1 rfl rfl ?_
      refine x_imul d11_check_115 ?_
      refine x_iadd d11_check_116 ?_
      refine x_istore_n d11_check_117 rfl (by decide) (L' := [(2, .int ((xm_gi M (b + 174) (Int32.toNatClampNeg (0 : Int32))) + ((3 : Int32) * v1))), (0, .ref (b + 154)), (1, .int v1)]) rfl ?_
      refine x_aload_n d11_check_118 1 rfl rfl ?_
      refine x_aload_n d11_check_119 1 rfl rfl ?_
      refine x_getR d11_check_120 fl11_25 (fun _ _ => rfl) (hS.1 _ _ (sh_154 b)) (hS.2.1 _ _ _ (pt_154_7 b)) ?_
      refine x_iload_n d11_check_123 0 rfl rfl ?_
      obtain ⟨g1, h⟩ := h
      refine x_iald d11_check_124 (hS.1 _ _ (sh_160 b)) g1 ?_
      refine x_aload_n d11_check_125 1 rfl rfl ?_
      refine x_getR d11_check_126 fl11_25 (fun _ _ => rfl) (hS.1 _ _ (sh_154 b)) (hS.2.1 _ _ _ (pt_154_7 b)) ?_
      refine x_iload_n d11_check_129 0 rfl rfl ?_
      refine x_iconst d11_check_130 qi_1 ?_
      refine x_iadd d11_check_131 ?_
      obtain ⟨g2, h⟩ := h
      refine x_iald d11_check_132 (hS.1 _ _ (sh_160 b)) g2 ?_
      refine x_aload_n d11_check_133 1 rfl rfl ?_
      refine x_getR d11_check_134 fl11_25 (fun _ _ => rfl) (hS.1 _ _ (sh_154 b)) (hS.2.1 _ _ _ (pt_154_7 b)) ?_
      refine x_iload_n d11_check_137 0 rfl rfl ?_
      refine x_iconst d11_check_138 qi_2 ?_
      refine x_iadd d11_check_139 ?_
      obtain ⟨g3, h⟩ := h
      refine x_iald d11_check_140 (hS.1 _ _ (sh_160 b)) g3 ?_
      refine x_i2l d11_check_141 ?_
      refine x_cVN (Z := y11_readReason) (S := rm11_readReason) (As := [.int (xm_gi M (b + 160) (Int32.toNatClampNeg ((xm_gi M (b + 174) (Int32.toNatClampNeg (0 : Int32))) + ((3 : Int32) * v1)))), .int (xm_gi M (b + 160) (Int32.toNatClampNeg (((xm_gi M (b + 174) (Int32.toNatClampNeg (0 : Int32))) + ((3 : Int32) * v1)) + (1 : Int32)))), .long (Int32.toInt64 (xm_gi M (b + 160) (Int32.toNatClampNeg (((xm_gi M (b + 174) (Int32.toNatClampNeg (0 : Int32))) + ((3 : Int32) * v1)) + (2 : Int32)))))]) (rest := []) d11_check_142 ml11_253 k11_readReason rfl (b := (b + 154)) (hS.1 _ _ (sh_154 b)) rfl rfl (Nat.le_of_ble_eq_true rfl) ⟨⟨by decide, by decide⟩, by decide, by decide⟩ ⟨rfl, rfl⟩ h (fun M4 h => ?_)
      obtain ⟨hS, h⟩ := h
      refine x_iinc d11_check_145 2 rfl rfl (by decide) (L' := [(1, .int (v1 + Int32.ofInt (1))), (2, .int ((xm_gi M (b + 174) (Int32.toNatClampNeg (0 : Int32))) + ((3 : Int32) * v1))), (0, .ref (b + 154))]) rfl ?_
      refine x_goto d11_check_148 (t := 90) (by decide) ?_
      exact xm_X.sub [2, 0] rfl (h hS)
set_option maxRecDepth 20000 in
theorem t11_check_153 {l : Launch} {E : xm_E} {b : Nat} {c p : Bool} {Q : Option Value → xm_M → Prop} (M : xm_M) (v1 : Int32) (hS : xm_st b c p M)
  (h : (((xm_gi M (b + 154) 1) ≤ v1 → ((¬ (xm_gi M (b + 154) 31) = 0 → (xm_st b c p M → Q (some (.int (-(xm_gi M (b + 154) 31)))) M)) ∧ ((xm_gi M (b + 154) 31) = 0 → (((xm_gi M (b + 154) 8) ≤ (xm_gi M (b + 154) 30) → (xm_st b c p M → Q (some (.int (-(xm_gi M (b + 154) 31)))) M)) ∧ (¬ (xm_gi M (b + 154) 8) ≤ (xm_gi M (b + 154) 30) → xm_C l E y11_fail rm11_fail [.ref (b + 154), .int (8 : Int32), .int (xm_gi M (b + 154) 30)] M (fun r M1 => r = none ∧ xm_st b c p M1 ∧ (xm_st b c p M1 → Q (some (.int (-(xm_gi M1 (b + 154) 31)))) M1))))))) ∧ (¬ (xm_gi M (b + 154) 1) ≤ v1 → ((¬ (xm_gi M (b + 154) 31) = 0 → ((¬ (xm_gi M (b + 154) 31) = 0 → (xm_st b c p M → Q (some (.int (-(xm_gi M (b + 154) 31)))) M)) ∧ ((xm_gi M (b + 154) 31) = 0 → (((xm_gi M (b + 154) 8) ≤ (xm_gi M (b + 154) 30) → (xm_st b c p M → Q (some (.int (-(xm_gi M (b + 154) 31)))) M)) ∧ (¬ (xm_gi M (b + 154) 8) ≤ (xm_gi M (b + 154) 30) → xm_C l E y11_fail rm11_fail [.ref (b + 154), .int (8 : Int32), .int (xm_gi M (b + 154) 30)] M (fun r M3 => r = none ∧ xm_st b c p M3 ∧ (xm_st b c p M3 → Q (some (.int (-(xm_gi M3 (b + 154) 31)))) M3))))))) ∧ ((xm_gi M (b + 154) 31) = 0 → (vp_in v1 48 ∧ (((xm_gi M (b + 175) (Int32.toNatClampNeg v1)) < 0 → (xm_st b c p M → xm_X l E y11_check rm11_check Q 153 [(0, .ref (b + 154)), (1, .int (v1 + Int32.ofInt (1)))] [] 0 0 M)) ∧ (¬ (xm_gi M (b + 175) (Int32.toNatClampNeg v1)) < 0 → xm_C l E y11_readInstruction rm11_readInstruction [.ref (b + 154), .int v1] M (fun r M6 => r = none ∧ xm_st b c p M6 ∧ (xm_st b c p M6 → xm_X l E y11_check rm11_check Q 153 [(0, .ref (b + 154)), (1, .int (v1 + Int32.ofInt (1)))] [] 0 0 M6)))))))))) :
  xm_X l E y11_check rm11_check Q 153 [(0, .ref (b + 154)), (1, .int v1)] [] 0 0 M := by
  refine x_iload_n d11_check_153 1 rfl rfl ?_
  refine x_aload_n d11_check_154 0 rfl rfl ?_
  refine x_getI d11_check_155 fl11_89 (fun _ _ => rfl) (hS.1 _ _ (sh_154 b)) ?_
  refine x_icmp_ge d11_check_158 (t := 188) (by decide) (fun g => ?_) (fun g => ?_)
  · have h := h.1 g
    refine x_aload_n d11_check_188 0 rfl rfl ?_
    refine x_getI d11_check_189 fl11_235 (fun _ _ => rfl) (hS.1 _ _ (sh_154 b)) ?_
    refine x_if_ne d11_check_192 (t := 216) (by decide) (fun g => ?_) (fun g => ?_)
    · have h := h.1 g
      refine x_aload_n d11_check_216 0 rfl rfl ?_
      refine x_getI d11_check_217 fl11_235 (fun _ _ => rfl) (hS.1 _ _ (sh_154 b)) ?_
      refine x_ineg d11_check_220 ?_
      exact x_ret (r := (some (.int (-(xm_gi M (b + 154) 31))))) d11_check_221 xm_rI rfl ⟨Nat.le_refl _, Nat.le_refl _⟩ (h hS)
    · have h := h.2 g
      refine x_aload_n d11_check_195 0 rfl rfl ?_
      refine x_getI d11_check_196 fl11_238 (fun _ _ => rfl) (hS.1 _ _ (sh_154 b)) ?_
      refine x_aload_n d11_check_199 0 rfl rfl ?_
      refine x_getI d11_check_200 fl11_217 (fun _ _ => rfl) (hS.1 _ _ (sh_154 b)) ?_
      refine x_icmp_ge d11_check_203 (t := 216) (by decide) (fun g => ?_) (fun g => ?_)
      · have h := h.1 g
        refine x_aload_n d11_check_216 0 rfl rfl ?_
        refine x_getI d11_check_217 fl11_235 (fun _ _ => rfl) (hS.1 _ _ (sh_154 b)) ?_
        refine x_ineg d11_check_220 ?_
        exact x_ret (r := (some (.int (-(xm_gi M (b + 154) 31))))) d11_check_221 xm_rI rfl ⟨Nat.le_refl _, Nat.le_refl _⟩ (h hS)
      · have h := h.2 g
        refine x_aload_n d11_check_206 0 rfl rfl ?_
        refine x_bipush d11_check_207 qb_8 ?_
        refine x_aload_n d11_check_209 0 rfl rfl ?_
        refine x_getI d11_check_210 fl11_238 (fun _ _ => rfl) (hS.1 _ _ (sh_154 b)) ?_
        refine x_cVN (Z := y11_fail) (S := rm11_fail) (As := [.int (8 : Int32), .int (xm_gi M (b + 154) 30)]) (rest := []) d11_check_213 ml11_241 k11_fail rfl (b := (b + 154)) (hS.1 _ _ (sh_154 b)) rfl rfl (Nat.le_of_ble_eq_true rfl) ⟨⟨by decide, by decide⟩, by decide, by decide⟩ ⟨rfl, rfl⟩ h (fun M1 h => ?_)
        obtain ⟨hS, h⟩ := h
        refine x_aload_n d11_check_216 0 rfl rfl ?_
        refine x_getI d11_check_217 fl11_235 (fun _ _ => rfl) (hS.1 _ _ (sh_154 b)) ?_
        refine x_ineg d11_check_220 ?_
        exact x_ret (r := (some (.int (-(xm_gi M1 (b + 154) 31))))) d11_check_221 xm_rI rfl ⟨Nat.le_refl _, Nat.le_refl _⟩ (h hS)
  · have h := h.2 g
    refine x_aload_n d11_check_161 0 rfl rfl ?_
    refine x_getI d11_check_162 fl11_235 (fun _ _ => rfl) (hS.1 _ _ (sh_154 b)) ?_
    refine x_if_ne d11_check_165 (t := 188) (by decide) (fun g => ?_) (fun g => ?_)
    · have h := h.1 g
      refine x_aload_n d11_check_188 0 rfl rfl ?_
      refine x_getI d11_check_189 fl11_235 (fun _ _ => rfl) (hS.1 _ _ (sh_154 b)) ?_
      refine x_if_ne d11_check_192 (t := 216) (by decide) (fun g => ?_) (fun g => ?_)
      · have h := h.1 g
        refine x_aload_n d11_check_216 0 rfl rfl ?_
        refine x_getI d11_check_217 fl11_235 (fun _ _ => rfl) (hS.1 _ _ (sh_154 b)) ?_
        refine x_ineg d11_check_220 ?_
        exact x_ret (r := (some (.int (-(xm_gi M (b + 154) 31))))) d11_check_221 xm_rI rfl ⟨Nat.le_refl _, Nat.le_refl _⟩ (h hS)
      · have h := h.2 g
        refine x_aload_n d11_check_195 0 rfl rfl ?_
        refine x_getI d11_check_196 fl11_238 (fun _ _ => rfl) (hS.1 _ _ (sh_154 b)) ?_
        refine x_aload_n d11_check_199 0 rfl rfl ?_
        refine x_getI d11_check_200 fl11_217 (fun _ _ => rfl) (hS.1 _ _ (sh_154 b)) ?_
        refine x_icmp_ge d11_check_203 (t := 216) (by decide) (fun g => ?_) (fun g => ?_)
        · have h := h.1 g
          refine x_aload_n d11_check_216 0 rfl rfl ?_
          refine x_getI d11_check_217 fl11_235 (fun _ _ => rfl) (hS.1 _ _ (sh_154 b)) ?_
          refine x_ineg d11_check_220 ?_
          exact x_ret (r := (some (.int (-(xm_gi M (b + 154) 31))))) d11_check_221 xm_rI rfl ⟨Nat.le_refl _, Nat.le_refl _⟩ (h hS)
        · have h := h.2 g
          refine x_aload_n d11_check_206 0 rfl rfl ?_
          refine x_bipush d11_check_207 qb_8 ?_
          refine x_aload_n d11_check_209 0 rfl rfl ?_
          refine x_getI d11_check_210 fl11_238 (fun _ _ => rfl) (hS.1 _ _ (sh_154 b)) ?_
          refine x_cVN (Z := y11_fail) (S := rm11_fail) (As := [.int (8 : Int32), .int (xm_gi M (b + 154) 30)]) (rest := []) d11_check_213 ml11_241 k11_fail rfl (b := (b + 154)) (hS.1 _ _ (sh_154 b)) rfl rfl (Nat.le_of_ble_eq_true rfl) ⟨⟨by decide, by decide⟩, by decide, by decide⟩ ⟨rfl, rfl⟩ h (fun M3 h => ?_)
          obtain ⟨hS, h⟩ := h
          refine x_aload_n d11_check_216 0 rfl rfl ?_
          refine x_getI d11_check_217 fl11_235 (fun _ _ => rfl) (hS.1 _ _ (sh_154 b)) ?_
          refine x_ineg d11_check_220 ?_
          exact x_ret (r := (some (.int (-(xm_gi M3 (b + 154) 31))))) d11_check_221 xm_rI rfl ⟨Nat.le_refl _, Nat.le_refl _⟩ (h hS)
    · have h := h.2 g
      refine x_aload_n d11_check_168 0 rfl rfl ?_
      refine x_getR d11_check_169 fl11_77 (fun _ _ => rfl) (hS.1 _ _ (sh_154 b)) (hS.2.1 _ _ _ (pt_154_33 b)) ?_
      refine x_iload_n d11_check_172 1 rfl rfl ?_
      obtain ⟨g5, h⟩ := h
      refine x_iald d11_check_173 (hS.1 _ _ (sh_175 b)) g5 ?_
      refine x_if_lt d11_check_174 (t := 182) (by decide) (fun g => ?_) (fun g => ?_)
      · have h := h.1 g
        refine x_iinc d11_check_182 1 rfl rfl (by decide) (L' := [(1, .int (v1 + Int32.ofInt (1))), (0, .ref (b + 154))]) rfl ?_
        refine x_goto d11_check_185 (t := 153) (by decide) ?_
        exact xm_X.sub [1, 0] rfl (h hS)
      · have h := h.2 g
        refine x_aload_n d11_check_177 0 rfl rfl ?_
        refine x_iload_n d11_check_178 1 rfl rfl ?_
        refine x_cVN (Z := y11_readInstruction) (S := rm11_readInstruction) (As := [.int v1]) (rest := []) d11_check_179 ml11_266 k11_readInstruction rfl (b := (b + 154)) (hS.1 _ _ (sh_154 b)) rfl rfl (Nat.le_of_ble_eq_true rfl) ⟨⟨by decide, by decide⟩, by decide, by decide⟩ ⟨rfl, rfl⟩ h (fun M6 h => ?_)
        obtain ⟨hS, h⟩ := h
        refine x_iinc d11_check_182 1 rfl rfl (by decide) (L' := [(1, .int (v1 + Int32.ofInt (1))), (0, .ref (b + 154))]) rfl ?_
        refine x_goto d11_check_185 (t := 153) (by decide) ?_
        exact xm_X.sub [1, 0] rfl (h hS)

set_option maxRecDepth 20000 in
theorem t11_readFacts_0 {l : Launch} {E : xm_E} {b : Nat} {c p : Bool} {Q : Option Value → xm_M → Prop} (M : xm_M) (v1 : Int32) (hS : xm_st b c p M)
  (h : xm_C l E y11_readIn rm11_readIn [.ref (b + 154), .int (-1 : Int32), .int (24 : Int32)] M (fun r M1 => ∃ r2 : Int32, r = some (.int r2) ∧ xm_st b c p M1 ∧ (vp_in v1 48 ∧ (vp_in v1 48 ∧ (xm_st b c p (xm_pi (xm_pi M1 (b + 175) (Int32.toNatClampNeg v1) r2) (b + 174) (Int32.toNatClampNeg v1) (xm_gi (xm_pi M1 (b + 175) (Int32.toNatClampNeg v1) r2) (b + 154) 30)) → xm_X l E y11_readFacts rm11_readFacts Q 27 [(0, .ref (b + 154)), (2, .int r2), (3, .int (0 : Int32))] [] 0 0 (xm_pi (xm_pi M1 (b + 175) (Int32.toNatClampNeg v1) r2) (b + 174) (Int32.toNatClampNeg v1) (xm_gi (xm_pi M1 (b + 175) (Int32.toNatClampNeg v1) r2) (b + 154) 30))))))) :
  xm_X l E y11_readFacts rm11_readFacts Q 0 [(0, .ref (b + 154)), (1, .int v1)] [] 0 0 M := by
  refine x_aload_n d11_readFacts_0 0 rfl rfl ?_
  refine x_iconst d11_readFacts_1 qi_n1 ?_
  refine x_bipush d11_readFacts_2 qb_24 ?_
  refine x_cVI (Z := y11_readIn) (S := rm11_readIn) (As := [.int (-1 : Int32), .int (24 : Int32)]) (rest := []) d11_readFacts_4 ml11_247 k11_readIn rfl (b := (b + 154)) (hS.1 _ _ (sh_154 b)) rfl rfl (Nat.le_of_ble_eq_true rfl) ⟨⟨by decide, by decide⟩, by decide, by decide⟩ ⟨rfl, rfl⟩ h (fun r2 M1 h => ?_)
  obtain ⟨hS, h⟩ := h
  refine x_istore_n d11_readFacts_7 rfl (by decide) (L' := [(2, .int r2), (0, .ref (b + 154)), (1, .int v1)]) rfl ?_
  refine x_aload_n d11_readFacts_8 1 rfl rfl ?_
  refine x_getR d11_readFacts_9 fl11_77 (fun _ _ => rfl) (hS.1 _ _ (sh_154 b)) (hS.2.1 _ _ _ (pt_154_33 b)) ?_
  refine x_iload_n d11_readFacts_12 2 rfl rfl ?_
  refine x_iload_n d11_readFacts_13 0 rfl rfl ?_
  obtain ⟨g3, h⟩ := h
  refine x_iast d11_readFacts_14 (hS.1 _ _ (sh_175 b)) g3 ?_
  refine x_aload_n d11_readFacts_15 1 rfl rfl ?_
  refine x_getR d11_readFacts_16 fl11_74 (fun _ _ => rfl) (hS.pi.1 _ _ (sh_154 b)) (hS.pi.2.1 _ _ _ (pt_154_32 b)) ?_
  refine x_iload_n d11_readFacts_19 2 rfl rfl ?_
  refine x_aload_n d11_readFacts_20 1 rfl rfl ?_
  refine x_getI d11_readFacts_21 fl11_238 (fun _ _ => rfl) (hS.pi.1 _ _ (sh_154 b)) ?_
  obtain ⟨g4, h⟩ := h
  refine x_iast d11_readFacts_24 (hS.pi.1 _ _ (sh_174 b)) g4 ?_
  refine x_iconst d11_readFacts_25 qi_0 ?_
  refine x_istore_n d11_readFacts_26 rfl (by decide) (L' := [(3, .int (0 : Int32)), (2, .int r2), (0, .ref (b + 154)), (1, .int v1)]) rfl ?_
  exact xm_X.sub [2, 1, 0] rfl (h hS.pi.pi)
set_option maxRecDepth 20000 in
theorem t11_readFacts_27 {l : Launch} {E : xm_E} {b : Nat} {c p : Bool} {Q : Option Value → xm_M → Prop} (M : xm_M) (v2 : Int32) (v3 : Int32) (hS : xm_st b c p M)
  (h : ((v2 ≤ v3 → (xm_st b c p M → Q none M)) ∧ (¬ v2 ≤ v3 → ((¬ (xm_gi M (b + 154) 31) = 0 → (xm_st b c p M → Q none M)) ∧ ((xm_gi M (b + 154) 31) = 0 → xm_C l E y11_readIn rm11_readIn [.ref (b + 154), .int (0 : Int32), .int (9 : Int32)] M (fun r M1 => ∃ r2 : Int32, r = some (.int r2) ∧ xm_st b c p M1 ∧ xm_C l E y11_readIn rm11_readIn [.ref (b + 154), .int (0 : Int32), .int (9 : Int32)] M1 (fun r M3 => ∃ r4 : Int32, r = some (.int r4) ∧ xm_st b c p M3 ∧ ((¬ (xm_gi M3 (b + 154) 31) = 0 → xm_C l E y11_read rm11_read [.ref (b + 154)] M3 (fun r M5 => ∃ r6 : Int32, r = some (.int r6) ∧ xm_st b c p M5 ∧ (xm_st b c p M5 → xm_X l E y11_readFacts rm11_readFacts Q 27 [(0, .ref (b + 154)), (2, .int v2), (3, .int (v3 + Int32.ofInt (1)))] [] 0 0 M5))) ∧ ((xm_gi M3 (b + 154) 31) = 0 → ((¬ r2 = r4 → xm_C l E y11_read rm11_read [.ref (b + 154)] M3 (fun r M7 => ∃ r8 : Int32, r = some (.int r8) ∧ xm_st b c p M7 ∧ (xm_st b c p M7 → xm_X l E y11_readFacts rm11_readFacts Q 27 [(0, .ref (b + 154)), (2, .int v2), (3, .int (v3 + Int32.ofInt (1)))] [] 0 0 M7))) ∧ (r2 = r4 → xm_C l E y11_fail rm11_fail [.ref (b + 154), .int (3 : Int32), .int ((xm_gi M3 (b + 154) 30) - (1 : Int32))] M3 (fun r M9 => r = none ∧ xm_st b c p M9 ∧ xm_C l E y11_read rm11_read [.ref (b + 154)] M9 (fun r M11 => ∃ r12 : Int32, r = some (.int r12) ∧ xm_st b c p M11 ∧ (xm_st b c p M11 → xm_X l E y11_readFacts rm11_readFacts Q 27 [(0, .ref (b + 154)), (2, .int v2), (3, .int (v3 + Int32.ofInt (1)))] [] 0 0 M11)))))))))))))) :
  xm_X l E y11_readFacts rm11_readFacts Q 27 [(0, .ref (b + 154)), (2, .int v2), (3, .int v3)] [] 0 0 M := by
  refine x_iload_n d11_readFacts_27 2 rfl rfl ?_
  refine x_iload_n d11_readFacts_28 1 rfl rfl ?_
  refine x_icmp_ge d11_readFacts_29 (t := 93) (by decide) (fun g => ?_) (fun g => ?_)
  · have h := h.1 g
    exact x_ret (r := none) d11_readFacts_93 xm_rN rfl ⟨Nat.le_refl _, Nat.le_refl _⟩ (h hS)
  · have h := h.2 g
    refine x_aload_n d11_readFacts_32 0 rfl rfl ?_
    refine x_getI d11_readFacts_33 fl11_235 (fun _ _ => rfl) (hS.1 _ _ (sh_154 b)) ?_
    refine x_if_ne d11_readFacts_36 (t := 93) (by decide) (fun g => ?_) (fun g => ?_)
    · have h := h.1 g
      exact x_ret (r := none) d11_readFacts_93 xm_rN rfl ⟨Nat.le_refl _, Nat.le_refl _⟩ (h hS)
    · have h := h.2 g
      refine x_aload_n d11_readFacts_39 0 rfl rfl ?_
      refine x_iconst d11_readFacts_40 qi_0 ?_
      refine x_bipush d11_readFacts_41 qb_9 ?_
      refine x_cVI (Z := y11_readIn) (S := rm11_readIn) (As := [.int (0 : Int32), .int (9 : Int32)]) (rest := []) d11_readFacts_43 ml11_247 k11_readIn rfl (b := (b + 154)) (hS.1 _ _ (sh_154 b)) rfl rfl (Nat.le_of_ble_eq_true rfl) ⟨⟨by decide, by decide⟩, by decide, by decide⟩ ⟨rfl, rfl⟩ h (fun r2 M1 h => ?_)
      obtain ⟨hS, h⟩ := h
      refine x_istore d11_readFacts_46 (by decide) (L' := [(4, .int r2), (0, .ref (b + 154)), (2, .int v2), (3, .int v3)]) rfl ?_
      refine x_aload_n d11_readFacts_48 1 rfl rfl ?_
      refine x_iconst d11_readFacts_49 qi_0 ?_
      refine x_bipush d11_readFacts_50 qb_9 ?_
      refine x_cVI (Z := y11_readIn) (S := rm11_readIn) (As := [.int (0 : Int32), .int (9 : Int32)]) (rest := []) d11_readFacts_52 ml11_247 k11_readIn rfl (b := (b + 154)) (hS.1 _ _ (sh_154 b)) rfl rfl (Nat.le_of_ble_eq_true rfl) ⟨⟨by decide, by decide⟩, by decide, by decide⟩ ⟨rfl, rfl⟩ h (fun r4 M3 h => ?_)
      obtain ⟨hS, h⟩ := h
      refine x_istore d11_readFacts_55 (by decide) (L' := [(5, .int r4), (4, .int r2), (0, .ref (b + 154)), (2, .int v2), (3, .int v3)]) rfl ?_
      refine x_aload_n d11_readFacts_57 2 rfl rfl ?_
      refine x_getI d11_readFacts_58 fl11_235 (fun _ _ => rfl) (hS.1 _ _ (sh_154 b)) ?_
      refine x_if_ne d11_readFacts_61 (t := 82) (by decide) (fun g => ?_) (fun g => ?_)
      · have h := h.1 g
        refine x_aload_n d11_readFacts_82 2 rfl rfl ?_
        refine x_cVI (Z := y11_read) (S := rm11_read) (As := []) (rest := []) d11_readFacts_83 ml11_244 k11_read rfl (b := (b + 154)) (hS.1 _ _ (sh_154 b)) rfl rfl (Nat.le_of_ble_eq_true rfl) ⟨⟨by decide, by decide⟩, by decide, by decide⟩ ⟨rfl, rfl⟩ h (fun r6 M5 h => ?_)
        obtain ⟨hS, h⟩ := h
        refine x_pop d11_readFacts_86 rfl ?_
        refine x_iinc d11_readFacts_87 4 rfl rfl (by decide) (L' := [(3, .int (v3 + Int32.ofInt (1))), (5, .int r4), (4, .int r2), (0, .ref (b + 154)), (2, .int v2)]) rfl ?_
        refine x_goto d11_readFacts_90 (t := 27) (by decide) ?_
        exact xm_X.sub [3, 4, 0] rfl (h hS)
      · have h := h.2 g
        refine x_iload d11_readFacts_64 1 rfl ?_
        refine x_iload d11_readFacts_66 0 rfl ?_
        refine x_icmp_ne d11_readFacts_68 (t := 82) (by decide) (fun g => ?_) (fun g => ?_)
        · have h := h.1 g
          refine x_aload_n d11_readFacts_82 2 rfl rfl ?_
          refine x_cVI (Z := y11_read) (S := rm11_read) (As := []) (rest := []) d11_readFacts_83 ml11_244 k11_read rfl (b := (b + 154)) (hS.1 _ _ (sh_154 b)) rfl rfl (Nat.le_of_ble_eq_true rfl) ⟨⟨by decide, by decide⟩, by decide, by decide⟩ ⟨rfl, rfl⟩ h (fun r8 M7 h => ?_)
          obtain ⟨hS, h⟩ := h
          refine x_pop d11_readFacts_86 rfl ?_
          refine x_iinc d11_readFacts_87 4 rfl rfl (by decide) (L' := [(3, .int (v3 + Int32.ofInt (1))), (5, .int r4), (4, .int r2), (0, .ref (b + 154)), (2, .int v2)]) rfl ?_
          refine x_goto d11_readFacts_90 (t := 27) (by decide) ?_
          exact xm_X.sub [3, 4, 0] rfl (h hS)
        · have h := h.2 g
          refine x_aload_n d11_readFacts_71 2 rfl rfl ?_
          refine x_iconst d11_readFacts_72 qi_3 ?_
          refine x_aload_n d11_readFacts_73 2 rfl rfl ?_
          refine x_getI d11_readFacts_74 fl11_238 (fun _ _ => rfl) (hS.1 _ _ (sh_154 b)) ?_
          refine x_iconst d11_readFacts_77 qi_1 ?_
          refine x_isub d11_readFacts_78 ?_
          refine x_cVN (Z := y11_fail) (S := rm11_fail) (As := [.int (3 : Int32), .int ((xm_gi M3 (b + 154) 30) - (1 : Int32))]) (rest := []) d11_readFacts_79 ml11_241 k11_fail rfl (b := (b + 154)) (hS.1 _ _ (sh_154 b)) rfl rfl (Nat.le_of_ble_eq_true rfl) ⟨⟨by decide, by decide⟩, by decide, by decide⟩ ⟨rfl, rfl⟩ h (fun M9 h => ?_)
          obtain ⟨hS, h⟩ := h
          refine x_aload_n d11_readFacts_82 2 rfl rfl ?_
          refine x_cVI (Z := y11_read) (S := rm11_read) (As := []) (rest := []) d11_readFacts_83 ml11_244 k11_read rfl (b := (b + 154)) (hS.1 _ _ (sh_154 b)) rfl rfl (Nat.le_of_ble_eq_true rfl) ⟨⟨by decide, by decide⟩, by decide, by decide⟩ ⟨rfl, rfl⟩ h (fun r12 M11 h => ?_)
          obtain ⟨hS, h⟩ := h
          refine x_pop d11_readFacts_86 rfl ?_
          refine x_iinc d11_readFacts_87 4 rfl rfl (by decide) (L' := [(3, .int (v3 + Int32.ofInt (1))), (5, .int r4), (4, .int r2), (0, .ref (b + 154)), (2, .int v2)]) rfl ?_
          refine x_goto d11_readFacts_90 (t := 27) (by decide) ?_
          exact xm_X.sub [3, 4, 0] rfl (h hS)

set_option maxRecDepth 20000 in
theorem t11_readIn_0 {l : Launch} {E : xm_E} {b : Nat} {c p : Bool} {Q : Option Value → xm_M → Prop} (M : xm_M) (v1 : Int32) (v2 : Int32) (hS : xm_st b c p M)
  (h : xm_C l E y11_read rm11_read [.ref (b + 154)] M (fun r M1 => ∃ r2 : Int32, r = some (.int r2) ∧ xm_st b c p M1 ∧ ((¬ (xm_gi M1 (b + 154) 31) = 0 → (xm_st b c p M1 → Q (some (.int r2)) M1)) ∧ ((xm_gi M1 (b + 154) 31) = 0 → ((r2 < v1 → xm_C l E y11_fail rm11_fail [.ref (b + 154), .int (3 : Int32), .int ((xm_gi M1 (b + 154) 30) - (1 : Int32))] M1 (fun r M3 => r = none ∧ xm_st b c p M3 ∧ (xm_st b c p M3 → Q (some (.int r2)) M3))) ∧ (¬ r2 < v1 → ((r2 ≤ v2 → (xm_st b c p M1 → Q (some (.int r2)) M1)) ∧ (¬ r2 ≤ v2 → xm_C l E y11_fail rm11_fail [.ref (b + 154), .int (3 : Int32), .int ((xm_gi M1 (b + 154) 30) - (1 : Int32))] M1 (fun r M5 => r = none ∧ xm_st b c p M5 ∧ (xm_st b c p M5 → Q (some (.int r2)) M5)))))))))) :
  xm_X l E y11_readIn rm11_readIn Q 0 [(0, .ref (b + 154)), (1, .int v1), (2, .int v2)] [] 0 0 M := by
  refine x_aload_n d11_readIn_0 0 rfl rfl ?_
  refine x_cVI (Z := y11_read) (S := rm11_read) (As := []) (rest := []) d11_readIn_1 ml11_244 k11_read rfl (b := (b + 154)) (hS.1 _ _ (sh_154 b)) rfl rfl (Nat.le_of_ble_eq_true rfl) ⟨⟨by decide, by decide⟩, by decide, by decide⟩ ⟨rfl, rfl⟩ h (fun r2 M1 h => ?_)
  obtain ⟨hS, h⟩ := h
  refine x_istore_n d11_readIn_4 rfl (by decide) (L' := [(3, .int r2), (0, .ref (b + 154)), (1, .int v1), (2, .int v2)]) rfl ?_
  refine x_aload_n d11_readIn_5 1 rfl rfl ?_
  refine x_getI d11_readIn_6 fl11_235 (fun _ _ => rfl) (hS.1 _ _ (sh_154 b)) ?_
  refine x_if_ne d11_readIn_9 (t := 33) (by decide) (fun g => ?_) (fun g => ?_)
  · have h := h.1 g
    refine x_iload_n d11_readIn_33 0 rfl rfl ?_
    exact x_ret (r := (some (.int r2))) d11_readIn_34 xm_rI rfl ⟨Nat.le_refl _, Nat.le_refl _⟩ (h hS)
  · have h := h.2 g
    refine x_iload_n d11_readIn_12 0 rfl rfl ?_
    refine x_iload_n d11_readIn_13 2 rfl rfl ?_
    refine x_icmp_lt d11_readIn_14 (t := 22) (by decide) (fun g => ?_) (fun g => ?_)
    · have h := h.1 g
      refine x_aload_n d11_readIn_22 1 rfl rfl ?_
      refine x_iconst d11_readIn_23 qi_3 ?_
      refine x_aload_n d11_readIn_24 1 rfl rfl ?_
      refine x_getI d11_readIn_25 fl11_238 (fun _ _ => rfl) (hS.1 _ _ (sh_154 b)) ?_
      refine x_iconst d11_readIn_28 qi_1 ?_
      refine x_isub d11_readIn_29 ?_
      refine x_cVN (Z := y11_fail) (S := rm11_fail) (As := [.int (3 : Int32), .int ((xm_gi M1 (b + 154) 30) - (1 : Int32))]) (rest := []) d11_readIn_30 ml11_241 k11_fail rfl (b := (b + 154)) (hS.1 _ _ (sh_154 b)) rfl rfl (Nat.le_of_ble_eq_true rfl) ⟨⟨by decide, by decide⟩, by decide, by decide⟩ ⟨rfl, rfl⟩ h (fun M3 h => ?_)
      obtain ⟨hS, h⟩ := h
      refine x_iload_n d11_readIn_33 0 rfl rfl ?_
      exact x_ret (r := (some (.int r2))) d11_readIn_34 xm_rI rfl ⟨Nat.le_refl _, Nat.le_refl _⟩ (h hS)
    · have h := h.2 g
      refine x_iload_n d11_readIn_17 0 rfl rfl ?_
      refine x_iload_n d11_readIn_18 3 rfl rfl ?_
      refine x_icmp_le d11_readIn_19 (t := 33) (by decide) (fun g => ?_) (fun g => ?_)
      · have h := h.1 g
        refine x_iload_n d11_readIn_33 0 rfl rfl ?_
        exact x_ret (r := (some (.int r2))) d11_readIn_34 xm_rI rfl ⟨Nat.le_refl _, Nat.le_refl _⟩ (h hS)
      · have h := h.2 g
        refine x_aload_n d11_readIn_22 1 rfl rfl ?_
        refine x_iconst d11_readIn_23 qi_3 ?_
        refine x_aload_n d11_readIn_24 1 rfl rfl ?_
        refine x_getI d11_readIn_25 fl11_238 (fun _ _ => rfl) (hS.1 _ _ (sh_154 b)) ?_
        refine x_iconst d11_readIn_28 qi_1 ?_
        refine x_isub d11_readIn_29 ?_
        refine x_cVN (Z := y11_fail) (S := rm11_fail) (As := [.int (3 : Int32), .int ((xm_gi M1 (b + 154) 30) - (1 : Int32))]) (rest := []) d11_readIn_30 ml11_241 k11_fail rfl (b := (b + 154)) (hS.1 _ _ (sh_154 b)) rfl rfl (Nat.le_of_ble_eq_true rfl) ⟨⟨by decide, by decide⟩, by decide, by decide⟩ ⟨rfl, rfl⟩ h (fun M5 h => ?_)
        obtain ⟨hS, h⟩ := h
        refine x_iload_n d11_readIn_33 0 rfl rfl ?_
        exact x_ret (r := (some (.int r2))) d11_readIn_34 xm_rI rfl ⟨Nat.le_refl _, Nat.le_refl _⟩ (h hS)

set_option maxRecDepth 20000 in
theorem t11_read_0 {l : Launch} {E : xm_E} {b : Nat} {c p : Bool} {Q : Option Value → xm_M → Prop} (M : xm_M)  (hS : xm_st b c p M)
  (h : (((xm_gi M (b + 154) 31) = 0 → ((¬ (xm_gi M (b + 154) 30) = (xm_gi M (b + 154) 8) → (vp_in ((xm_gi (xm_pi M (b + 154) 30 ((xm_gi M (b + 154) 30) + (1 : Int32))) (b + 154) 30) - (1 : Int32)) 20000 ∧ (xm_st b c p (xm_pi M (b + 154) 30 ((xm_gi M (b + 154) 30) + (1 : Int32))) → Q (some (.int (xm_gi (xm_pi M (b + 154) 30 ((xm_gi M (b + 154) 30) + (1 : Int32))) (b + 160) (Int32.toNatClampNeg ((xm_gi (xm_pi M (b + 154) 30 ((xm_gi M (b + 154) 30) + (1 : Int32))) (b + 154) 30) - (1 : Int32)))))) (xm_pi M (b + 154) 30 ((xm_gi M (b + 154) 30) + (1 : Int32)))))) ∧ ((xm_gi M (b + 154) 30) = (xm_gi M (b + 154) 8) → xm_C l E y11_fail rm11_fail [.ref (b + 154), .int (2 : Int32), .int (xm_gi M (b + 154) 8)] M (fun r M2 => r = none ∧ xm_st b c p M2 ∧ (xm_st b c p M2 → Q (some (.int (0 : Int32))) M2))))) ∧ (¬ (xm_gi M (b + 154) 31) = 0 → (xm_st b c p M → Q (some (.int (0 : Int32))) M)))) :
  xm_X l E y11_read rm11_read Q 0 [(0, .ref (b + 154))] [] 0 0 M := by
  refine x_aload_n d11_read_0 0 rfl rfl ?_
  refine x_getI d11_read_1 fl11_235 (fun _ _ => rfl) (hS.1 _ _ (sh_154 b)) ?_
  refine x_if_eq d11_read_4 (t := 9) (by decide) (fun g => ?_) (fun g => ?_)
  · have h := h.1 g
    refine x_aload_n d11_read_9 0 rfl rfl ?_
    refine x_getI d11_read_10 fl11_238 (fun _ _ => rfl) (hS.1 _ _ (sh_154 b)) ?_
    refine x_aload_n d11_read_13 0 rfl rfl ?_
    refine x_getI d11_read_14 fl11_217 (fun _ _ => rfl) (hS.1 _ _ (sh_154 b)) ?_
    refine x_icmp_ne d11_read_17 (t := 31) (by decide) (fun g => ?_) (fun g => ?_)
    · have h := h.1 g
      refine x_aload_n d11_read_31 0 rfl rfl ?_
      refine x_dup d11_read_32 rfl ?_
      refine x_getI d11_read_33 fl11_238 (fun _ _ => rfl) (hS.1 _ _ (sh_154 b)) ?_
      refine x_iconst d11_read_36 qi_1 ?_
      refine x_iadd d11_read_37 ?_
      refine x_putI d11_read_38 fw11_238 (fun _ _ => rfl) rfl rfl (hS.1 _ _ (sh_154 b)) ?_
      refine x_aload_n d11_read_41 0 rfl rfl ?_
      refine x_getR d11_read_42 fl11_25 (fun _ _ => rfl) (hS.pi.1 _ _ (sh_154 b)) (hS.pi.2.1 _ _ _ (pt_154_7 b)) ?_
      refine x_aload_n d11_read_45 0 rfl rfl ?_
      refine x_getI d11_read_46 fl11_238 (fun _ _ => rfl) (hS.pi.1 _ _ (sh_154 b)) ?_
      refine x_iconst d11_read_49 qi_1 ?_
      refine x_isub d11_read_50 ?_
      obtain ⟨g1, h⟩ := h
      refine x_iald d11_read_51 (hS.pi.1 _ _ (sh_160 b)) g1 ?_
      exact x_ret (r := (some (.int (xm_gi (xm_pi M (b + 154) 30 ((xm_gi M (b + 154) 30) + (1 : Int32))) (b + 160) (Int32.toNatClampNeg ((xm_gi (xm_pi M (b + 154) 30 ((xm_gi M (b + 154) 30) + (1 : Int32))) (b + 154) 30) - (1 : Int32))))))) d11_read_52 xm_rI rfl ⟨Nat.le_refl _, Nat.le_refl _⟩ (h hS.pi)
    · have h := h.2 g
      refine x_aload_n d11_read_20 0 rfl rfl ?_
      refine x_iconst d11_read_21 qi_2 ?_
      refine x_aload_n d11_read_22 0 rfl rfl ?_
      refine x_getI d11_read_23 fl11_217 (fun _ _ => rfl) (hS.1 _ _ (sh_154 b)) ?_
      refine x_cVN (Z := y11_fail) (S := rm11_fail) (As := [.int (2 : Int32), .int (xm_gi M (b + 154) 8)]) (rest := []) d11_read_26 ml11_241 k11_fail rfl (b := (b + 154)) (hS.1 _ _ (sh_154 b)) rfl rfl (Nat.le_of_ble_eq_true rfl) ⟨⟨by decide, by decide⟩, by decide, by decide⟩ ⟨rfl, rfl⟩ h (fun M2 h => ?_)
      obtain ⟨hS, h⟩ := h
      refine x_iconst d11_read_29 qi_0 ?_
      exact x_ret (r := (some (.int (0 : Int32)))) d11_read_30 xm_rI rfl ⟨Nat.le_refl _, Nat.le_refl _⟩ (h hS)
  · have h := h.2 g
    refine x_iconst d11_read_7 qi_0 ?_
    exact x_ret (r := (some (.int (0 : Int32)))) d11_read_8 xm_rI rfl ⟨Nat.le_refl _, Nat.le_refl _⟩ (h hS)

set_option maxRecDepth 20000 in
theorem t11_fail_0 {l : Launch} {E : xm_E} {b : Nat} {c p : Bool} {Q : Option Value → xm_M → Prop} (M : xm_M) (v1 : Int32) (v2 : Int32) (hS : xm_st b c p M)
  (h : (((xm_gi M (b + 154) 31) = 0 → (xm_st b c p (xm_pi (xm_pi M (b + 154) 31 v1) (b + 154) 9 v2) → Q none (xm_pi (xm_pi M (b + 154) 31 v1) (b + 154) 9 v2))) ∧ (¬ (xm_gi M (b + 154) 31) = 0 → (xm_st b c p M → Q none M)))) :
  xm_X l E y11_fail rm11_fail Q 0 [(0, .ref (b + 154)), (1, .int v1), (2, .int v2)] [] 0 0 M := by
  refine x_aload_n d11_fail_0 0 rfl rfl ?_
  refine x_getI d11_fail_1 fl11_235 (fun _ _ => rfl) (hS.1 _ _ (sh_154 b)) ?_
  refine x_if_eq d11_fail_4 (t := 8) (by decide) (fun g => ?_) (fun g => ?_)
  · have h := h.1 g
    refine x_aload_n d11_fail_8 0 rfl rfl ?_
    refine x_iload_n d11_fail_9 1 rfl rfl ?_
    refine x_putI d11_fail_10 fw11_235 (fun _ _ => rfl) rfl rfl (hS.1 _ _ (sh_154 b)) ?_
    refine x_aload_n d11_fail_13 0 rfl rfl ?_
    refine x_iload_n d11_fail_14 2 rfl rfl ?_
    refine x_putI d11_fail_15 fw11_28 (fun _ _ => rfl) rfl rfl (hS.pi.1 _ _ (sh_154 b)) ?_
    exact x_ret (r := none) d11_fail_18 xm_rN rfl ⟨Nat.le_refl _, Nat.le_refl _⟩ (h hS.pi.pi)
  · have h := h.2 g
    exact x_ret (r := none) d11_fail_7 xm_rN rfl ⟨Nat.le_refl _, Nat.le_refl _⟩ (h hS)

set_option maxRecDepth 20000 in
theorem t11_readReason_0 {l : Launch} {E : xm_E} {b : Nat} {c p : Bool} {Q : Option Value → xm_M → Prop} (M : xm_M) (v1 : Int32) (v2 : Int32) (w3 : Int64) (hS : xm_st b c p M)
  (h : xm_C l E y11_readIn rm11_readIn [.ref (b + 154), .int (1 : Int32), .int (12 : Int32)] M (fun r M1 => ∃ r2 : Int32, r = some (.int r2) ∧ xm_st b c p M1 ∧ (xm_st b c p M1 → xm_X l E y11_readReason rm11_readReason Q 26 [(0, .ref (b + 154)), (2, .int v2), (3, .long w3), (5, .int r2), (6, .int ((xm_gi M1 (b + 154) 30) - (1 : Int32))), (7, .int v1), (8, .long (0 : Int64)), (10, .int (0 : Int32))] [] 0 0 M1))) :
  xm_X l E y11_readReason rm11_readReason Q 0 [(0, .ref (b + 154)), (1, .int v1), (2, .int v2), (3, .long w3)] [] 0 0 M := by
  refine x_aload_n d11_readReason_0 0 rfl rfl ?_
  refine x_iconst d11_readReason_1 qi_1 ?_
  refine x_bipush d11_readReason_2 qb_12 ?_
  refine x_cVI (Z := y11_readIn) (S := rm11_readIn) (As := [.int (1 : Int32), .int (12 : Int32)]) (rest := []) d11_readReason_4 ml11_247 k11_readIn rfl (b := (b + 154)) (hS.1 _ _ (sh_154 b)) rfl rfl (Nat.le_of_ble_eq_true rfl) ⟨⟨by decide, by decide⟩, by decide, by decide⟩ ⟨rfl, rfl⟩ h (fun r2 M1 h => ?_)
  obtain ⟨hS, h⟩ := h
  refine x_istore d11_readReason_7 (by decide) (L' := [(5, .int r2), (0, .ref (b + 154)), (1, .int v1), (2, .int v2), (3, .long w3)]) rfl ?_
  refine x_aload_n d11_readReason_9 1 rfl rfl ?_
  refine x_getI d11_readReason_10 fl11_238 (fun _ _ => rfl) (hS.1 _ _ (sh_154 b)) ?_
  refine x_iconst d11_readReason_13 qi_1 ?_
  refine x_isub d11_readReason_14 ?_
  refine x_istore d11_readReason_15 (by decide) (L' := [(6, .int ((xm_gi M1 (b + 154) 30) - (1 : Int32))), (5, .int r2), (0, .ref (b + 154)), (1, .int v1), (2, .int v2), (3, .long w3)]) rfl ?_
  refine x_iload_n d11_readReason_17 3 rfl rfl ?_
  refine x_istore d11_readReason_18 (by decide) (L' := [(7, .int v1), (6, .int ((xm_gi M1 (b + 154) 30) - (1 : Int32))), (5, .int r2), (0, .ref (b + 154)), (1, .int v1), (2, .int v2), (3, .long w3)]) rfl ?_
  refine x_lconst d11_readReason_20 ql_0 ?_
  refine x_lstore d11_readReason_21 (by decide) (L' := [(8, .long (0 : Int64)), (7, .int v1), (6, .int ((xm_gi M1 (b + 154) 30) - (1 : Int32))), (5, .int r2), (0, .ref (b + 154)), (1, .int v1), (2, .int v2), (3, .long w3)]) rfl ?_
  refine x_iconst d11_readReason_23 qi_0 ?_
  refine x_istore d11_readReason_24 (by decide) (L' := [(10, .int (0 : Int32)), (8, .long (0 : Int64)), (7, .int v1), (6, .int ((xm_gi M1 (b + 154) 30) - (1 : Int32))), (5, .int r2), (0, .ref (b + 154)), (1, .int v1), (2, .int v2), (3, .long w3)]) rfl ?_
  exact xm_X.sub [5, 7, 8, 4, 3, 2, 1, 0] rfl (h hS)
set_option maxRecDepth 20000 in
theorem t11_readReason_26 {l : Launch} {E : xm_E} {b : Nat} {c p : Bool} {Q : Option Value → xm_M → Prop} (M : xm_M) (v2 : Int32) (w3 : Int64) (v5 : Int32) (v6 : Int32) (v7 : Int32) (w8 : Int64) (v10 : Int32) (hS : xm_st b c p M)
  (h : ((v5 ≤ v10 → ((¬ (xm_gi M (b + 154) 31) = 0 → (xm_st b c p M → Q none M)) ∧ ((xm_gi M (b + 154) 31) = 0 → ((w8 ≤ w3 → (xm_st b c p M → Q none M)) ∧ (¬ w8 ≤ w3 → xm_C l E y11_fail rm11_fail [.ref (b + 154), .int (6 : Int32), .int v6] M (fun r M1 => r = none ∧ xm_st b c p M1 ∧ (xm_st b c p M1 → Q none M1))))))) ∧ (¬ v5 ≤ v10 → ((¬ (xm_gi M (b + 154) 31) = 0 → ((¬ (xm_gi M (b + 154) 31) = 0 → (xm_st b c p M → Q none M)) ∧ ((xm_gi M (b + 154) 31) = 0 → ((w8 ≤ w3 → (xm_st b c p M → Q none M)) ∧ (¬ w8 ≤ w3 → xm_C l E y11_fail rm11_fail [.ref (b + 154), .int (6 : Int32), .int v6] M (fun r M3 => r = none ∧ xm_st b c p M3 ∧ (xm_st b c p M3 → Q none M3))))))) ∧ ((xm_gi M (b + 154) 31) = 0 → xm_C l E y11_read rm11_read [.ref (b + 154)] M (fun r M5 => ∃ r6 : Int32, r = some (.int r6) ∧ xm_st b c p M5 ∧ (((xm_gi M5 (b + 154) 31) = 0 → (xm_st b c p M5 → xm_X l E y11_readReason rm11_readReason Q 57 [(0, .ref (b + 154)), (2, .int v2), (3, .long w3), (5, .int v5), (6, .int v6), (7, .int v7), (8, .long w8), (10, .int v10), (11, .int r6), (12, .int (0 : Int32))] [] 0 0 M5)) ∧ (¬ (xm_gi M5 (b + 154) 31) = 0 → (xm_st b c p M5 → Q none M5))))))))) :
  xm_X l E y11_readReason rm11_readReason Q 26 [(0, .ref (b + 154)), (2, .int v2), (3, .long w3), (5, .int v5), (6, .int v6), (7, .int v7), (8, .long w8), (10, .int v10)] [] 0 0 M := by
  refine x_iload d11_readReason_26 7 rfl ?_
  refine x_iload d11_readReason_28 3 rfl ?_
  refine x_icmp_ge d11_readReason_30 (t := 175) (by decide) (fun g => ?_) (fun g => ?_)
  · have h := h.1 g
    refine x_aload_n d11_readReason_175 0 rfl rfl ?_
    refine x_getI d11_readReason_176 fl11_235 (fun _ _ => rfl) (hS.1 _ _ (sh_154 b)) ?_
    refine x_if_ne d11_readReason_179 (t := 197) (by decide) (fun g => ?_) (fun g => ?_)
    · have h := h.1 g
      exact x_ret (r := none) d11_readReason_197 xm_rN rfl ⟨Nat.le_refl _, Nat.le_refl _⟩ (h hS)
    · have h := h.2 g
      refine x_lload d11_readReason_182 6 rfl ?_
      refine x_lload_n d11_readReason_184 2 rfl rfl ?_
      refine x_lc_le d11_readReason_185 d11_readReason_186 rfl rfl (t := 197) (by decide) (fun g => ?_) (fun g => ?_)
      · have h := h.1 g
        exact x_ret (r := none) d11_readReason_197 xm_rN rfl ⟨Nat.le_refl _, Nat.le_refl _⟩ (h hS)
      · have h := h.2 g
        refine x_aload_n d11_readReason_189 0 rfl rfl ?_
        refine x_bipush d11_readReason_190 qb_6 ?_
        refine x_iload d11_readReason_192 4 rfl ?_
        refine x_cVN (Z := y11_fail) (S := rm11_fail) (As := [.int (6 : Int32), .int v6]) (rest := []) d11_readReason_194 ml11_241 k11_fail rfl (b := (b + 154)) (hS.1 _ _ (sh_154 b)) rfl rfl (Nat.le_of_ble_eq_true rfl) ⟨⟨by decide, by decide⟩, by decide, by decide⟩ ⟨rfl, rfl⟩ h (fun M1 h => ?_)
        obtain ⟨hS, h⟩ := h
        exact x_ret (r := none) d11_readReason_197 xm_rN rfl ⟨Nat.le_refl _, Nat.le_refl _⟩ (h hS)
  · have h := h.2 g
    refine x_aload_n d11_readReason_33 0 rfl rfl ?_
    refine x_getI d11_readReason_34 fl11_235 (fun _ _ => rfl) (hS.1 _ _ (sh_154 b)) ?_
    refine x_if_ne d11_readReason_37 (t := 175) (by decide) (fun g => ?_) (fun g => ?_)
    · have h := h.1 g
      refine x_aload_n d11_readReason_175 0 rfl rfl ?_
      refine x_getI d11_readReason_176 fl11_235 (fun _ _ => rfl) (hS.1 _ _ (sh_154 b)) ?_
      refine x_if_ne d11_readReason_179 (t := 197) (by decide) (fun g => ?_) (fun g => ?_)
      · have h := h.1 g
        exact x_ret (r := none) d11_readReason_197 xm_rN rfl ⟨Nat.le_refl _, Nat.le_refl _⟩ (h hS)
      · have h := h.2 g
        refine x_lload d11_readReason_182 6 rfl ?_
        refine x_lload_n d11_readReason_184 2 rfl rfl ?_
        refine x_lc_le d11_readReason_185 d11_readReason_186 rfl rfl (t := 197) (by decide) (fun g => ?_) (fun g => ?_)
        · have h := h.1 g
          exact x_ret (r := none) d11_readReason_197 xm_rN rfl ⟨Nat.le_refl _, Nat.le_refl _⟩ (h hS)
        · have h := h.2 g
          refine x_aload_n d11_readReason_189 0 rfl rfl ?_
          refine x_bipush d11_readReason_190 qb_6 ?_
          refine x_iload d11_readReason_192 4 rfl ?_
          refine x_cVN (Z := y11_fail) (S := rm11_fail) (As := [.int (6 : Int32), .int v6]) (rest := []) d11_readReason_194 ml11_241 k11_fail rfl (b := (b + 154)) (hS.1 _ _ (sh_154 b)) rfl rfl (Nat.le_of_ble_eq_true rfl) ⟨⟨by decide, by decide⟩, by decide, by decide⟩ ⟨rfl, rfl⟩ h (fun M3 h => ?_)
          obtain ⟨hS, h⟩ := h
          exact x_ret (r := none) d11_readReason_197 xm_rN rfl ⟨Nat.le_refl _, Nat.le_refl _⟩ (h hS)
    · have h := h.2 g
      refine x_aload_n d11_readReason_40 0 rfl rfl ?_
      refine x_cVI (Z := y11_read) (S := rm11_read) (As := []) (rest := []) d11_readReason_41 ml11_244 k11_read rfl (b := (b + 154)) (hS.1 _ _ (sh_154 b)) rfl rfl (Nat.le_of_ble_eq_true rfl) ⟨⟨by decide, by decide⟩, by decide, by decide⟩ ⟨rfl, rfl⟩ h (fun r6 M5 h => ?_)
      obtain ⟨hS, h⟩ := h
      refine x_istore d11_readReason_44 (by decide) (L' := [(11, .int r6), (0, .ref (b + 154)), (2, .int v2), (3, .long w3), (5, .int v5), (6, .int v6), (7, .int v7), (8, .long w8), (10, .int v10)]) rfl ?_
      refine x_aload_n d11_readReason_46 1 rfl rfl ?_
      refine x_getI d11_readReason_47 fl11_235 (fun _ _ => rfl) (hS.1 _ _ (sh_154 b)) ?_
      refine x_if_eq d11_readReason_50 (t := 54) (by decide) (fun g => ?_) (fun g => ?_)
      · have h := h.1 g
        refine x_iconst d11_readReason_54 qi_0 ?_
        refine x_istore d11_readReason_55 (by decide) (L' := [(12, .int (0 : Int32)), (11, .int r6), (0, .ref (b + 154)), (2, .int v2), (3, .long w3), (5, .int v5), (6, .int v6), (7, .int v7), (8, .long w8), (10, .int v10)]) rfl ?_
        exact xm_X.sub [2, 3, 4, 5, 6, 7, 8, 9, 1, 0] rfl (h hS)
      · have h := h.2 g
        exact x_ret (r := none) d11_readReason_53 xm_rN rfl ⟨Nat.le_refl _, Nat.le_refl _⟩ (h hS)
set_option maxRecDepth 20000 in
theorem t11_readReason_57 {l : Launch} {E : xm_E} {b : Nat} {c p : Bool} {Q : Option Value → xm_M → Prop} (M : xm_M) (v2 : Int32) (w3 : Int64) (v5 : Int32) (v6 : Int32) (v7 : Int32) (w8 : Int64) (v10 : Int32) (v11 : Int32) (v12 : Int32) (hS : xm_st b c p M)
  (h : (((xm_gi M (b + 154) 14) ≤ v12 → ((¬ v12 = (xm_gi M (b + 154) 14) → (vp_in v12 1200 ∧ ((¬ (xm_gi M (b + 163) (Int32.toNatClampNeg v12)) = v7 → xm_C l E y11_fail rm11_fail [.ref (b + 154), .int (5 : Int32), .int ((xm_gi M (b + 154) 30) - (1 : Int32))] M (fun r M2 => r = none ∧ xm_st b c p M2 ∧ (vp_in v12 1200 ∧ (vp_in v12 1200 ∧ (xm_st b c p M2 → xm_X l E y11_readReason rm11_readReason Q 26 [(0, .ref (b + 154)), (2, .int v2), (3, .long w3), (5, .int v5), (6, .int v6), (7, .int (xm_gi M2 (b + 164) (Int32.toNatClampNeg v12))), (8, .long (w8 + (xm_gl M2 (b + 165) (Int32.toNatClampNeg v12)))), (10, .int (v10 + Int32.ofInt (1)))] [] 0 0 M2))))) ∧ ((xm_gi M (b + 163) (Int32.toNatClampNeg v12)) = v7 → ((¬ v10 = (v5 - (1 : Int32)) → (vp_in v12 1200 ∧ (vp_in v12 1200 ∧ (xm_st b c p M → xm_X l E y11_readReason rm11_readReason Q 26 [(0, .ref (b + 154)), (2, .int v2), (3, .long w3), (5, .int v5), (6, .int v6), (7, .int (xm_gi M (b + 164) (Int32.toNatClampNeg v12))), (8, .long (w8 + (xm_gl M (b + 165) (Int32.toNatClampNeg v12)))), (10, .int (v10 + Int32.ofInt (1)))] [] 0 0 M)))) ∧ (v10 = (v5 - (1 : Int32)) → (vp_in v12 1200 ∧ (((xm_gi M (b + 164) (Int32.toNatClampNeg v12)) = v2 → (vp_in v12 1200 ∧ (vp_in v12 1200 ∧ (xm_st b c p M → xm_X l E y11_readReason rm11_readReason Q 26 [(0, .ref (b + 154)), (2, .int v2), (3, .long w3), (5, .int v5), (6, .int v6), (7, .int (xm_gi M (b + 164) (Int32.toNatClampNeg v12))), (8, .long (w8 + (xm_gl M (b + 165) (Int32.toNatClampNeg v12)))), (10, .int (v10 + Int32.ofInt (1)))] [] 0 0 M)))) ∧ (¬ (xm_gi M (b + 164) (Int32.toNatClampNeg v12)) = v2 → xm_C l E y11_fail rm11_fail [.ref (b + 154), .int (5 : Int32), .int ((xm_gi M (b + 154) 30) - (1 : Int32))] M (fun r M11 => r = none ∧ xm_st b c p M11 ∧ (vp_in v12 1200 ∧ (vp_in v12 1200 ∧ (xm_st b c p M11 → xm_X l E y11_readReason rm11_readReason Q 26 [(0, .ref (b + 154)), (2, .int v2), (3, .long w3), (5, .int v5), (6, .int v6), (7, .int (xm_gi M11 (b + 164) (Int32.toNatClampNeg v12))), (8, .long (w8 + (xm_gl M11 (b + 165) (Int32.toNatClampNeg v12)))), (10, .int (v10 + Int32.ofInt (1)))] [] 0 0 M11))))))))))))) ∧ (v12 = (xm_gi M (b + 154) 14) → xm_C l E y11_fail rm11_fail [.ref (b + 154), .int (4 : Int32), .int ((xm_gi M (b + 154) 30) - (1 : Int32))] M (fun r M15 => r = none ∧ xm_st b c p M15 ∧ (xm_st b c p M15 → Q none M15))))) ∧ (¬ (xm_gi M (b + 154) 14) ≤ v12 → (vp_in v12 1200 ∧ (((xm_gi M (b + 162) (Int32.toNatClampNeg v12)) = v11 → ((¬ v12 = (xm_gi M (b + 154) 14) → (vp_in v12 1200 ∧ ((¬ (xm_gi M (b + 163) (Int32.toNatClampNeg v12)) = v7 → xm_C l E y11_fail rm11_fail [.ref (b + 154), .int (5 : Int32), .int ((xm_gi M (b + 154) 30) - (1 : Int32))] M (fun r M19 => r = none ∧ xm_st b c p M19 ∧ (vp_in v12 1200 ∧ (vp_in v12 1200 ∧ (xm_st b c p M19 → xm_X l E y11_readReason rm11_readReason Q 26 [(0, .ref (b + 154)), (2, .int v2), (3, .long w3), (5, .int v5), (6, .int v6), (7, .int (xm_gi M19 (b + 164) (Int32.toNatClampNeg v12))), (8, .long (w8 + (xm_gl M19 (b + 165) (Int32.toNatClampNeg v12)))), (10, .int (v10 + Int32.ofInt (1)))] [] 0 0 M19))))) ∧ ((xm_gi M (b + 163) (Int32.toNatClampNeg v12)) = v7 → ((¬ v10 = (v5 - (1 : Int32)) → (vp_in v12 1200 ∧ (vp_in v12 1200 ∧ (xm_st b c p M → xm_X l E y11_readReason rm11_readReason Q 26 [(0, .ref (b + 154)), (2, .int v2), (3, .long w3), (5, .int v5), (6, .int v6), (7, .int (xm_gi M (b + 164) (Int32.toNatClampNeg v12))), (8, .long (w8 + (xm_gl M (b + 165) (Int32.toNatClampNeg v12)))), (10, .int (v10 + Int32.ofInt (1)))] [] 0 0 M)))) ∧ (v10 = (v5 - (1 : Int32)) → (vp_in v12 1200 ∧ (((xm_gi M (b + 164) (Int32.toNatClampNeg v12)) = v2 → (vp_in v12 1200 ∧ (vp_in v12 1200 ∧ (xm_st b c p M → xm_X l E y11_readReason rm11_readReason Q 26 [(0, .ref (b + 154)), (2, .int v2), (3, .long w3), (5, .int v5), (6, .int v6), (7, .int (xm_gi M (b + 164) (Int32.toNatClampNeg v12))), (8, .long (w8 + (xm_gl M (b + 165) (Int32.toNatClampNeg v12)))), (10, .int (v10 + Int32.ofInt (1)))] [] 0 0 M)))) ∧ (¬ (xm_gi M (b + 164) (Int32.toNatClampNeg v12)) = v2 → xm_C l E y11_fail rm11_fail [.ref (b + 154), .int (5 : Int32), .int ((xm_gi M (b + 154) 30) - (1 : Int32))] M (fun r M28 => r = none ∧ xm_st b c p M28 ∧ (vp_in v12 1200 ∧ (vp_in v12 1200 ∧ (xm_st b c p M28 → xm_X l E y11_readReason rm11_readReason Q 26 [(0, .ref (b + 154)), (2, .int v2), (3, .long w3), (5, .int v5), (6, .int v6), (7, .int (xm_gi M28 (b + 164) (Int32.toNatClampNeg v12))), (8, .long (w8 + (xm_gl M28 (b + 165) (Int32.toNatClampNeg v12)))), (10, .int (v10 + Int32.ofInt (1)))] [] 0 0 M28))))))))))))) ∧ (v12 = (xm_gi M (b + 154) 14) → xm_C l E y11_fail rm11_fail [.ref (b + 154), .int (4 : Int32), .int ((xm_gi M (b + 154) 30) - (1 : Int32))] M (fun r M32 => r = none ∧ xm_st b c p M32 ∧ (xm_st b c p M32 → Q none M32))))) ∧ (¬ (xm_gi M (b + 162) (Int32.toNatClampNeg v12)) = v11 → (xm_st b c p M → xm_X l E y11_readReason rm11_readReason Q 57 [(0, .ref (b + 154)), (2, .int v2), (3, .long w3), (5, .int v5), (6, .int v6), (7, .int v7), (8, .long w8), (10, .int v10), (11, .int v11), (12, .int (v12 + Int32.ofInt (1)))] [] 0 0 M))))))) :
  xm_X l E y11_readReason rm11_readReason Q 57 [(0, .ref (b + 154)), (2, .int v2), (3, .long w3), (5, .int v5), (6, .int v6), (7, .int v7), (8, .long w8), (10, .int v10), (11, .int v11), (12, .int v12)] [] 0 0 M := by
  refine x_iload d11_readReason_57 9 rfl ?_
  refine x_aload_n d11_readReason_59 0 rfl rfl ?_
  refine x_getI d11_readReason_60 fl11_100 (fun _ _ => rfl) (hS.1 _ _ (sh_154 b)) ?_
  refine x_icmp_ge d11_readReason_63 (t := 84) (by decide) (fun g => ?_) (fun g => ?_)
  · have h := h.1 g
    refine x_iload d11_readReason_84 9 rfl ?_
    refine x_aload_n d11_readReason_86 0 rfl rfl ?_
    refine x_getI d11_readReason_87 fl11_100 (fun _ _ => rfl) (hS.1 _ _ (sh_154 b)) ?_
    refine x_icmp_ne d11_readReason_90 (t := 105) (by decide) (fun g => ?_) (fun g => ?_)
    · have h := h.1 g
      refine x_aload_n d11_readReason_105 0 rfl rfl ?_
      refine x_getR d11_readReason_106 fl11_39 (fun _ _ => rfl) (hS.1 _ _ (sh_154 b)) (hS.2.1 _ _ _ (pt_154_16 b)) ?_
      refine x_iload d11_readReason_109 9 rfl ?_
      obtain ⟨g1, h⟩ := h
      refine x_iald d11_readReason_111 (hS.1 _ _ (sh_163 b)) g1 ?_
      refine x_iload d11_readReason_112 5 rfl ?_
      refine x_icmp_ne d11_readReason_114 (t := 137) (by decide) (fun g => ?_) (fun g => ?_)
      · have h := h.1 g
        refine x_aload_n d11_readReason_137 0 rfl rfl ?_
        refine x_iconst d11_readReason_138 qi_5 ?_
        refine x_aload_n d11_readReason_139 0 rfl rfl ?_
        refine x_getI d11_readReason_140 fl11_238 (fun _ _ => rfl) (hS.1 _ _ (sh_154 b)) ?_
        refine x_iconst d11_readReason_143 qi_1 ?_
        refine x_isub d11_readReason_144 ?_
        refine x_cVN (Z := y11_fail) (S := rm11_fail) (As := [.int (5 : Int32), .int ((xm_gi M (b + 154) 30) - (1 : Int32))]) (rest := []) d11_readReason_145 ml11_241 k11_fail rfl (b := (b + 154)) (hS.1 _ _ (sh_154 b)) rfl rfl (Nat.le_of_ble_eq_true rfl) ⟨⟨by decide, by decide⟩, by decide, by decide⟩ ⟨rfl, rfl⟩ h (fun M2 h => ?_)
        obtain ⟨hS, h⟩ := h
        refine x_aload_n d11_readReason_148 0 rfl rfl ?_
        refine x_getR d11_readReason_149 fl11_42 (fun _ _ => rfl) (hS.1 _ _ (sh_154 b)) (hS.2.1 _ _ _ (pt_154_17 b)) ?_
        refine x_iload d11_readReason_152 9 rfl ?_
        obtain ⟨g4, h⟩ := h
        refine x_iald d11_readReason_154 (hS.1 _ _ (sh_164 b)) g4 ?_
        refine x_istore d11_readReason_155 (by decide) (L' := [(7, .int (xm_gi M2 (b + 164) (Int32.toNatClampNeg v12))), (0, .ref (b + 154)), (2, .int v2), (3, .long w3), (5, .int v5), (6, .int v6), (8, .long w8), (10, .int v10), (11, .int v11), (12, .int v12)]) rfl ?_
        refine x_lload d11_readReason_157 6 rfl ?_
        refine x_aload_n d11_readReason_159 1 rfl rfl ?_
        refine x_getR d11_readReason_160 fl11_45 (fun _ _ => rfl) (hS.1 _ _ (sh_154 b)) (hS.2.1 _ _ _ (pt_154_18 b)) ?_
        refine x_iload d11_readReason_163 9 rfl ?_
        obtain ⟨g5, h⟩ := h
        refine x_lald d11_readReason_165 (hS.1 _ _ (sh_165 b)) g5 ?_
        refine x_ladd d11_readReason_166 ?_
        refine x_lstore d11_readReason_167 (by decide) (L' := [(8, .long (w8 + (xm_gl M2 (b + 165) (Int32.toNatClampNeg v12)))), (7, .int (xm_gi M2 (b + 164) (Int32.toNatClampNeg v12))), (0, .ref (b + 154)), (2, .int v2), (3, .long w3), (5, .int v5), (6, .int v6), (10, .int v10), (11, .int v11), (12, .int v12)]) rfl ?_
        refine x_iinc d11_readReason_169 7 rfl rfl (by decide) (L' := [(10, .int (v10 + Int32.ofInt (1))), (8, .long (w8 + (xm_gl M2 (b + 165) (Int32.toNatClampNeg v12)))), (7, .int (xm_gi M2 (b + 164) (Int32.toNatClampNeg v12))), (0, .ref (b + 154)), (2, .int v2), (3, .long w3), (5, .int v5), (6, .int v6), (11, .int v11), (12, .int v12)]) rfl ?_
        refine x_goto d11_readReason_172 (t := 26) (by decide) ?_
        exact xm_X.sub [3, 4, 5, 6, 7, 2, 1, 0] rfl (h hS)
      · have h := h.2 g
        refine x_iload d11_readReason_117 7 rfl ?_
        refine x_iload d11_readReason_119 3 rfl ?_
        refine x_iconst d11_readReason_121 qi_1 ?_
        refine x_isub d11_readReason_122 ?_
        refine x_icmp_ne d11_readReason_123 (t := 148) (by decide) (fun g => ?_) (fun g => ?_)
        · have h := h.1 g
          refine x_aload_n d11_readReason_148 0 rfl rfl ?_
          refine x_getR d11_readReason_149 fl11_42 (fun _ _ => rfl) (hS.1 _ _ (sh_154 b)) (hS.2.1 _ _ _ (pt_154_17 b)) ?_
          refine x_iload d11_readReason_152 9 rfl ?_
          obtain ⟨g6, h⟩ := h
          refine x_iald d11_readReason_154 (hS.1 _ _ (sh_164 b)) g6 ?_
          refine x_istore d11_readReason_155 (by decide) (L' := [(7, .int (xm_gi M (b + 164) (Int32.toNatClampNeg v12))), (0, .ref (b + 154)), (2, .int v2), (3, .long w3), (5, .int v5), (6, .int v6), (8, .long w8), (10, .int v10), (11, .int v11), (12, .int v12)]) rfl ?_
          refine x_lload d11_readReason_157 6 rfl ?_
          refine x_aload_n d11_readReason_159 1 rfl rfl ?_
          refine x_getR d11_readReason_160 fl11_45 (fun _ _ => rfl) (hS.1 _ _ (sh_154 b)) (hS.2.1 _ _ _ (pt_154_18 b)) ?_
          refine x_iload d11_readReason_163 9 rfl ?_
          obtain ⟨g7, h⟩ := h
          refine x_lald d11_readReason_165 (hS.1 _ _ (sh_165 b)) g7 ?_
          refine x_ladd d11_readReason_166 ?_
          refine x_lstore d11_readReason_167 (by decide) (L' := [(8, .long (w8 + (xm_gl M (b + 165) (Int32.toNatClampNeg v12)))), (7, .int (xm_gi M (b + 164) (Int32.toNatClampNeg v12))), (0, .ref (b + 154)), (2, .int v2), (3, .long w3), (5, .int v5), (6, .int v6), (10, .int v10), (11, .int v11), (12, .int v12)]) rfl ?_
          refine x_iinc d11_readReason_169 7 rfl rfl (by decide) (L' := [(10, .int (v10 + Int32.ofInt (1))), (8, .long (w8 + (xm_gl M (b + 165) (Int32.toNatClampNeg v12)))), (7, .int (xm_gi M (b + 164) (Int32.toNatClampNeg v12))), (0, .ref (b + 154)), (2, .int v2), (3, .long w3), (5, .int v5), (6, .int v6), (11, .int v11), (12, .int v12)]) rfl ?_
          refine x_goto d11_readReason_172 (t := 26) (by decide) ?_
          exact xm_X.sub [3, 4, 5, 6, 7, 2, 1, 0] rfl (h hS)
        · have h := h.2 g
          refine x_aload_n d11_readReason_126 0 rfl rfl ?_
          refine x_getR d11_readReason_127 fl11_42 (fun _ _ => rfl) (hS.1 _ _ (sh_154 b)) (hS.2.1 _ _ _ (pt_154_17 b)) ?_
          refine x_iload d11_readReason_130 9 rfl ?_
          obtain ⟨g8, h⟩ := h
          refine x_iald d11_readReason_132 (hS.1 _ _ (sh_164 b)) g8 ?_
          refine x_iload_n d11_readReason_133 1 rfl rfl ?_
          refine x_icmp_eq d11_readReason_134 (t := 148) (by decide) (fun g => ?_) (fun g => ?_)
          · have h := h.1 g
            refine x_aload_n d11_readReason_148 0 rfl rfl ?_
            refine x_getR d11_readReason_149 fl11_42 (fun _ _ => rfl) (hS.1 _ _ (sh_154 b)) (hS.2.1 _ _ _ (pt_154_17 b)) ?_
            refine x_iload d11_readReason_152 9 rfl ?_
            obtain ⟨g9, h⟩ := h
            refine x_iald d11_readReason_154 (hS.1 _ _ (sh_164 b)) g9 ?_
            refine x_istore d11_readReason_155 (by decide) (L' := [(7, .int (xm_gi M (b + 164) (Int32.toNatClampNeg v12))), (0, .ref (b + 154)), (2, .int v2), (3, .long w3), (5, .int v5), (6, .int v6), (8, .long w8), (10, .int v10), (11, .int v11), (12, .int v12)]) rfl ?_
            refine x_lload d11_readReason_157 6 rfl ?_
            refine x_aload_n d11_readReason_159 1 rfl rfl ?_
            refine x_getR d11_readReason_160 fl11_45 (fun _ _ => rfl) (hS.1 _ _ (sh_154 b)) (hS.2.1 _ _ _ (pt_154_18 b)) ?_
            refine x_iload d11_readReason_163 9 rfl ?_
            obtain ⟨g10, h⟩ := h
            refine x_lald d11_readReason_165 (hS.1 _ _ (sh_165 b)) g10 ?_
            refine x_ladd d11_readReason_166 ?_
            refine x_lstore d11_readReason_167 (by decide) (L' := [(8, .long (w8 + (xm_gl M (b + 165) (Int32.toNatClampNeg v12)))), (7, .int (xm_gi M (b + 164) (Int32.toNatClampNeg v12))), (0, .ref (b + 154)), (2, .int v2), (3, .long w3), (5, .int v5), (6, .int v6), (10, .int v10), (11, .int v11), (12, .int v12)]) rfl ?_
            refine x_iinc d11_readReason_169 7 rfl rfl (by decide) (L' := [(10, .int (v10 + Int32.ofInt (1))), (8, .long (w8 + (xm_gl M (b + 165) (Int32.toNatClampNeg v12)))), (7, .int (xm_gi M (b + 164) (Int32.toNatClampNeg v12))), (0, .ref (b + 154)), (2, .int v2), (3, .long w3), (5, .int v5), (6, .int v6), (11, .int v11), (12, .int v12)]) rfl ?_
            refine x_goto d11_readReason_172 (t := 26) (by decide) ?_
            exact xm_X.sub [3, 4, 5, 6, 7, 2, 1, 0] rfl (h hS)
          · have h := h.2 g
            refine x_aload_n d11_readReason_137 0 rfl rfl ?_
            refine x_iconst d11_readReason_138 qi_5 ?_
            refine x_aload_n d11_readReason_139 0 rfl rfl ?_
            refine x_getI d11_readReason_140 fl11_238 (fun _ _ => rfl) (hS.1 _ _ (sh_154 b)) ?_
            refine x_iconst d11_readReason_143 qi_1 ?_
            refine x_isub d11_readReason_144 ?_
            refine x_cVN (Z := y11_fail) (S := rm11_fail) (As := [.int (5 : Int32), .int ((xm_gi M (b + 154) 30) - (1 : Int32))]) (rest := []) d11_readReason_145 ml11_241 k11_fail rfl (b := (b + 154)) (hS.1 _ _ (sh_154 b)) rfl rfl (Nat.le_of_ble_eq_true rfl) ⟨⟨by decide, by decide⟩, by decide, by decide⟩ ⟨rfl, rfl⟩ h (fun M11 h => ?_)
            obtain ⟨hS, h⟩ := h
            refine x_aload_n d11_readReason_148 0 rfl rfl ?_
            refine x_getR d11_readReason_149 fl11_42 (fun _ _ => rfl) (hS.1 _ _ (sh_154 b)) (hS.2.1 _ _ _ (pt_154_17 b)) ?_
            refine x_iload d11_readReason_152 9 rfl ?_
            obtain ⟨g13, h⟩ := h
            refine x_iald d11_readReason_154 (hS.1 _ _ (sh_164 b)) g13 ?_
            refine x_istore d11_readReason_155 (by decide) (L' := [(7, .int (xm_gi M11 (b + 164) (Int32.toNatClampNeg v12))), (0, .ref (b + 154)), (2, .int v2), (3, .long w3), (5, .int v5), (6, .int v6), (8, .long w8), (10, .int v10), (11, .int v11), (12, .int v12)]) rfl ?_
            refine x_lload d11_readReason_157 6 rfl ?_
            refine x_aload_n d11_readReason_159 1 rfl rfl ?_
            refine x_getR d11_readReason_160 fl11_45 (fun _ _ => rfl) (hS.1 _ _ (sh_154 b)) (hS.2.1 _ _ _ (pt_154_18 b)) ?_
            refine x_iload d11_readReason_163 9 rfl ?_
            obtain ⟨g14, h⟩ := h
            refine x_lald d11_readReason_165 (hS.1 _ _ (sh_165 b)) g14 ?_
            refine x_ladd d11_readReason_166 ?_
            refine x_lstore d11_readReason_167 (by decide) (L' := [(8, .long (w8 + (xm_gl M11 (b + 165) (Int32.toNatClampNeg v12)))), (7, .int (xm_gi M11 (b + 164) (Int32.toNatClampNeg v12))), (0, .ref (b + 154)), (2, .int v2), (3, .long w3), (5, .int v5), (6, .int v6), (10, .int v10), (11, .int v11), (12, .int v12)]) rfl ?_
            refine x_iinc d11_readReason_169 7 rfl rfl (by decide) (L' := [(10, .int (v10 + Int32.ofInt (1))), (8, .long (w8 + (xm_gl M11 (b + 165) (Int32.toNatClampNeg v12)))), (7, .int (xm_gi M11 (b + 164) (Int32.toNatClampNeg v12))), (0, .ref (b + 154)), (2, .int v2), (3, .long w3), (5, .int v5), (6, .int v6), (11, .int v11), (12, .int v12)]) rfl ?_
            refine x_goto d11_readReason_172 (t := 26) (by decide) ?_
            exact xm_X.sub [3, 4, 5, 6, 7, 2, 1, 0] rfl (h hS)
    · have h := h.2 g
      refine x_aload_n d11_readReason_93 0 rfl rfl ?_
      refine x_iconst d11_readReason_94 qi_4 ?_
      refine x_aload_n d11_readReason_95 0 rfl rfl ?_
      refine x_getI d11_readReason_96 fl11_238 (fun _ _ => rfl) (hS.1 _ _ (sh_154 b)) ?_
      refine x_iconst d11_readReason_99 qi_1 ?_
      refine x_isub d11_readReason_100 ?_
      refine x_cVN (Z := y11_fail) (S := rm11_fail) (As := [.int (4 : Int32), .int ((xm_gi M (b + 154) 30) - (1 : Int32))]) (rest := []) d11_readReason_101 ml11_241 k11_fail rfl (b := (b + 154)) (hS.1 _ _ (sh_154 b)) rfl rfl (Nat.le_of_ble_eq_true rfl) ⟨⟨by decide, by decide⟩, by decide, by decide⟩ ⟨rfl, rfl⟩ h (fun M15 h => ?_)
      obtain ⟨hS, h⟩ := h
      exact x_ret (r := none) d11_readReason_104 xm_rN rfl ⟨Nat.le_refl _, Nat.le_refl _⟩ (h hS)
  · have h := h.2 g
    refine x_aload_n d11_readReason_66 0 rfl rfl ?_
    refine x_getR d11_readReason_67 fl11_36 (fun _ _ => rfl) (hS.1 _ _ (sh_154 b)) (hS.2.1 _ _ _ (pt_154_15 b)) ?_
    refine x_iload d11_readReason_70 9 rfl ?_
    obtain ⟨g17, h⟩ := h
    refine x_iald d11_readReason_72 (hS.1 _ _ (sh_162 b)) g17 ?_
    refine x_iload d11_readReason_73 8 rfl ?_
    refine x_icmp_eq d11_readReason_75 (t := 84) (by decide) (fun g => ?_) (fun g => ?_)
    · have h := h.1 g
      refine x_iload d11_readReason_84 9 rfl ?_
      refine x_aload_n d11_readReason_86 0 rfl rfl ?_
      refine x_getI d11_readReason_87 fl11_100 (fun _ _ => rfl) (hS.1 _ _ (sh_154 b)) ?_
      refine x_icmp_ne d11_readReason_90 (t := 105) (by decide) (fun g => ?_) (fun g => ?_)
      · have h := h.1 g
        refine x_aload_n d11_readReason_105 0 rfl rfl ?_
        refine x_getR d11_readReason_106 fl11_39 (fun _ _ => rfl) (hS.1 _ _ (sh_154 b)) (hS.2.1 _ _ _ (pt_154_16 b)) ?_
        refine x_iload d11_readReason_109 9 rfl ?_
        obtain ⟨g18, h⟩ := h
        refine x_iald d11_readReason_111 (hS.1 _ _ (sh_163 b)) g18 ?_
        refine x_iload d11_readReason_112 5 rfl ?_
        refine x_icmp_ne d11_readReason_114 (t := 137) (by decide) (fun g => ?_) (fun g => ?_)
        · have h := h.1 g
          refine x_aload_n d11_readReason_137 0 rfl rfl ?_
          refine x_iconst d11_readReason_138 qi_5 ?_
          refine x_aload_n d11_readReason_139 0 rfl rfl ?_
          refine x_getI d11_readReason_140 fl11_238 (fun _ _ => rfl) (hS.1 _ _ (sh_154 b)) ?_
          refine x_iconst d11_readReason_143 qi_1 ?_
          refine x_isub d11_readReason_144 ?_
          refine x_cVN (Z := y11_fail) (S := rm11_fail) (As := [.int (5 : Int32), .int ((xm_gi M (b + 154) 30) - (1 : Int32))]) (rest := []) d11_readReason_145 ml11_241 k11_fail rfl (b := (b + 154)) (hS.1 _ _ (sh_154 b)) rfl rfl (Nat.le_of_ble_eq_true rfl) ⟨⟨by decide, by decide⟩, by decide, by decide⟩ ⟨rfl, rfl⟩ h (fun M19 h => ?_)
          obtain ⟨hS, h⟩ := h
          refine x_aload_n d11_readReason_148 0 rfl rfl ?_
          refine x_getR d11_readReason_149 fl11_42 (fun _ _ => rfl) (hS.1 _ _ (sh_154 b)) (hS.2.1 _ _ _ (pt_154_17 b)) ?_
          refine x_iload d11_readReason_152 9 rfl ?_
          obtain ⟨g21, h⟩ := h
          refine x_iald d11_readReason_154 (hS.1 _ _ (sh_164 b)) g21 ?_
          refine x_istore d11_readReason_155 (by decide) (L' := [(7, .int (xm_gi M19 (b + 164) (Int32.toNatClampNeg v12))), (0, .ref (b + 154)), (2, .int v2), (3, .long w3), (5, .int v5), (6, .int v6), (8, .long w8), (10, .int v10), (11, .int v11), (12, .int v12)]) rfl ?_
          refine x_lload d11_readReason_157 6 rfl ?_
          refine x_aload_n d11_readReason_159 1 rfl rfl ?_
          refine x_getR d11_readReason_160 fl11_45 (fun _ _ => rfl) (hS.1 _ _ (sh_154 b)) (hS.2.1 _ _ _ (pt_154_18 b)) ?_
          refine x_iload d11_readReason_163 9 rfl ?_
          obtain ⟨g22, h⟩ := h
          refine x_lald d11_readReason_165 (hS.1 _ _ (sh_165 b)) g22 ?_
          refine x_ladd d11_readReason_166 ?_
          refine x_lstore d11_readReason_167 (by decide) (L' := [(8, .long (w8 + (xm_gl M19 (b + 165) (Int32.toNatClampNeg v12)))), (7, .int (xm_gi M19 (b + 164) (Int32.toNatClampNeg v12))), (0, .ref (b + 154)), (2, .int v2), (3, .long w3), (5, .int v5), (6, .int v6), (10, .int v10), (11, .int v11), (12, .int v12)]) rfl ?_
          refine x_iinc d11_readReason_169 7 rfl rfl (by decide) (L' := [(10, .int (v10 + Int32.ofInt (1))), (8, .long (w8 + (xm_gl M19 (b + 165) (Int32.toNatClampNeg v12)))), (7, .int (xm_gi M19 (b + 164) (Int32.toNatClampNeg v12))), (0, .ref (b + 154)), (2, .int v2), (3, .long w3), (5, .int v5), (6, .int v6), (11, .int v11), (12, .int v12)]) rfl ?_
          refine x_goto d11_readReason_172 (t := 26) (by decide) ?_
          exact xm_X.sub [3, 4, 5, 6, 7, 2, 1, 0] rfl (h hS)
        · have h := h.2 g
          refine x_iload d11_readReason_117 7 rfl ?_
          refine x_iload d11_readReason_119 3 rfl ?_
          refine x_iconst d11_readReason_121 qi_1 ?_
          refine x_isub d11_readReason_122 ?_
          refine x_icmp_ne d11_readReason_123 (t := 148) (by decide) (fun g => ?_) (fun g => ?_)
          · have h := h.1 g
            refine x_aload_n d11_readReason_148 0 rfl rfl ?_
            refine x_getR d11_readReason_149 fl11_42 (fun _ _ => rfl) (hS.1 _ _ (sh_154 b)) (hS.2.1 _ _ _ (pt_154_17 b)) ?_
            refine x_iload d11_readReason_152 9 rfl ?_
            obtain ⟨g23, h⟩ := h
            refine x_iald d11_readReason_154 (hS.1 _ _ (sh_164 b)) g23 ?_
            refine x_istore d11_readReason_155 (by decide) (L' := [(7, .int (xm_gi M (b + 164) (Int32.toNatClampNeg v12))), (0, .ref (b + 154)), (2, .int v2), (3, .long w3), (5, .int v5), (6, .int v6), (8, .long w8), (10, .int v10), (11, .int v11), (12, .int v12)]) rfl ?_
            refine x_lload d11_readReason_157 6 rfl ?_
            refine x_aload_n d11_readReason_159 1 rfl rfl ?_
            refine x_getR d11_readReason_160 fl11_45 (fun _ _ => rfl) (hS.1 _ _ (sh_154 b)) (hS.2.1 _ _ _ (pt_154_18 b)) ?_
            refine x_iload d11_readReason_163 9 rfl ?_
            obtain ⟨g24, h⟩ := h
            refine x_lald d11_readReason_165 (hS.1 _ _ (sh_165 b)) g24 ?_
            refine x_ladd d11_readReason_166 ?_
            refine x_lstore d11_readReason_167 (by decide) (L' := [(8, .long (w8 + (xm_gl M (b + 165) (Int32.toNatClampNeg v12)))), (7, .int (xm_gi M (b + 164) (Int32.toNatClampNeg v12))), (0, .ref (b + 154)), (2, .int v2), (3, .long w3), (5, .int v5), (6, .int v6), (10, .int v10), (11, .int v11), (12, .int v12)]) rfl ?_
            refine x_iinc d11_readReason_169 7 rfl rfl (by decide) (L' := [(10, .int (v10 + Int32.ofInt (1))), (8, .long (w8 + (xm_gl M (b + 165) (Int32.toNatClampNeg v12)))), (7, .int (xm_gi M (b + 164) (Int32.toNatClampNeg v12))), (0, .ref (b + 154)), (2, .int v2), (3, .long w3), (5, .int v5), (6, .int v6), (11, .int v11), (12, .int v12)]) rfl ?_
            refine x_goto d11_readReason_172 (t := 26) (by decide) ?_
            exact xm_X.sub [3, 4, 5, 6, 7, 2, 1, 0] rfl (h hS)
          · have h := h.2 g
            refine x_aload_n d11_readReason_126 0 rfl rfl ?_
            refine x_getR d11_readReason_127 fl11_42 (fun _ _ => rfl) (hS.1 _ _ (sh_154 b)) (hS.2.1 _ _ _ (pt_154_17 b)) ?_
            refine x_iload d11_readReason_130 9 rfl ?_
            obtain ⟨g25, h⟩ := h
            refine x_iald d11_readReason_132 (hS.1 _ _ (sh_164 b)) g25 ?_
            refine x_iload_n d11_readReason_133 1 rfl rfl ?_
            refine x_icmp_eq d11_readReason_134 (t := 148) (by decide) (fun g => ?_) (fun g => ?_)
            · have h := h.1 g
              refine x_aload_n d11_readReason_148 0 rfl rfl ?_
              refine x_getR d11_readReason_149 fl11_42 (fun _ _ => rfl) (hS.1 _ _ (sh_154 b)) (hS.2.1 _ _ _ (pt_154_17 b)) ?_
              refine x_iload d11_readReason_152 9 rfl ?_
              obtain ⟨g26, h⟩ := h
              refine x_iald d11_readReason_154 (hS.1 _ _ (sh_164 b)) g26 ?_
              refine x_istore d11_readReason_155 (by decide) (L' := [(7, .int (xm_gi M (b + 164) (Int32.toNatClampNeg v12))), (0, .ref (b + 154)), (2, .int v2), (3, .long w3), (5, .int v5), (6, .int v6), (8, .long w8), (10, .int v10), (11, .int v11), (12, .int v12)]) rfl ?_
              refine x_lload d11_readReason_157 6 rfl ?_
              refine x_aload_n d11_readReason_159 1 rfl rfl ?_
              refine x_getR d11_readReason_160 fl11_45 (fun _ _ => rfl) (hS.1 _ _ (sh_154 b)) (hS.2.1 _ _ _ (pt_154_18 b)) ?_
              refine x_iload d11_readReason_163 9 rfl ?_
              obtain ⟨g27, h⟩ := h
              refine x_lald d11_readReason_165 (hS.1 _ _ (sh_165 b)) g27 ?_
              refine x_ladd d11_readReason_166 ?_
              refine x_lstore d11_readReason_167 (by decide) (L' := [(8, .long (w8 + (xm_gl M (b + 165) (Int32.toNatClampNeg v12)))), (7, .int (xm_gi M (b + 164) (Int32.toNatClampNeg v12))), (0, .ref (b + 154)), (2, .int v2), (3, .long w3), (5, .int v5), (6, .int v6), (10, .int v10), (11, .int v11), (12, .int v12)]) rfl ?_
              refine x_iinc d11_readReason_169 7 rfl rfl (by decide) (L' := [(10, .int (v10 + Int32.ofInt (1))), (8, .long (w8 + (xm_gl M (b + 165) (Int32.toNatClampNeg v12)))), (7, .int (xm_gi M (b + 164) (Int32.toNatClampNeg v12))), (0, .ref (b + 154)), (2, .int v2), (3, .long w3), (5, .int v5), (6, .int v6), (11, .int v11), (12, .int v12)]) rfl ?_
              refine x_goto d11_readReason_172 (t := 26) (by decide) ?_
              exact xm_X.sub [3, 4, 5, 6, 7, 2, 1, 0] rfl (h hS)
            · have h := h.2 g
              refine x_aload_n d11_readReason_137 0 rfl rfl ?_
              refine x_iconst d11_readReason_138 qi_5 ?_
              refine x_aload_n d11_readReason_139 0 rfl rfl ?_
              refine x_getI d11_readReason_140 fl11_238 (fun _ _ => rfl) (hS.1 _ _ (sh_154 b)) ?_
              refine x_iconst d11_readReason_143 qi_1 ?_
              refine x_isub d11_readReason_144 ?_
              refine x_cVN (Z := y11_fail) (S := rm11_fail) (As := [.int (5 : Int32), .int ((xm_gi M (b + 154) 30) - (1 : Int32))]) (rest := []) d11_readReason_145 ml11_241 k11_fail rfl (b := (b + 154)) (hS.1 _ _ (sh_154 b)) rfl rfl (Nat.le_of_ble_eq_true rfl) ⟨⟨by decide, by decide⟩, by decide, by decide⟩ ⟨rfl, rfl⟩ h (fun M28 h => ?_)
              obtain ⟨hS, h⟩ := h
              refine x_aload_n d11_readReason_148 0 rfl rfl ?_
              refine x_getR d11_readReason_149 fl11_42 (fun _ _ => rfl) (hS.1 _ _ (sh_154 b)) (hS.2.1 _ _ _ (pt_154_17 b)) ?_
              refine x_iload d11_readReason_152 9 rfl ?_
              obtain ⟨g30, h⟩ := h
              refine x_iald d11_readReason_154 (hS.1 _ _ (sh_164 b)) g30 ?_
              refine x_istore d11_readReason_155 (by decide) (L' := [(7, .int (xm_gi M28 (b + 164) (Int32.toNatClampNeg v12))), (0, .ref (b + 154)), (2, .int v2), (3, .long w3), (5, .int v5), (6, .int v6), (8, .long w8), (10, .int v10), (11, .int v11), (12, .int v12)]) rfl ?_
              refine x_lload d11_readReason_157 6 rfl ?_
              refine x_aload_n d11_readReason_159 1 rfl rfl ?_
              refine x_getR d11_readReason_160 fl11_45 (fun _ _ => rfl) (hS.1 _ _ (sh_154 b)) (hS.2.1 _ _ _ (pt_154_18 b)) ?_
              refine x_iload d11_readReason_163 9 rfl ?_
              obtain ⟨g31, h⟩ := h
              refine x_lald d11_readReason_165 (hS.1 _ _ (sh_165 b)) g31 ?_
              refine x_ladd d11_readReason_166 ?_
              refine x_lstore d11_readReason_167 (by decide) (L' := [(8, .long (w8 + (xm_gl M28 (b + 165) (Int32.toNatClampNeg v12)))), (7, .int (xm_gi M28 (b + 164) (Int32.toNatClampNeg v12))), (0, .ref (b + 154)), (2, .int v2), (3, .long w3), (5, .int v5), (6, .int v6), (10, .int v10), (11, .int v11), (12, .int v12)]) rfl ?_
              refine x_iinc d11_readReason_169 7 rfl rfl (by decide) (L' := [(10, .int (v10 + Int32.ofInt (1))), (8, .long (w8 + (xm_gl M28 (b + 165) (Int32.toNatClampNeg v12)))), (7, .int (xm_gi M28 (b + 164) (Int32.toNatClampNeg v12))), (0, .ref (b + 154)), (2, .int v2), (3, .long w3), (5, .int v5), (6, .int v6), (11, .int v11), (12, .int v12)]) rfl ?_
              refine x_goto d11_readReason_172 (t := 26) (by decide) ?_
              exact xm_X.sub [3, 4, 5, 6, 7, 2, 1, 0] rfl (h hS)
      · have h := h.2 g
        refine x_aload_n d11_readReason_93 0 rfl rfl ?_
        refine x_iconst d11_readReason_94 qi_4 ?_
        refine x_aload_n d11_readReason_95 0 rfl rfl ?_
        refine x_getI d11_readReason_96 fl11_238 (fun _ _ => rfl) (hS.1 _ _ (sh_154 b)) ?_
        refine x_iconst d11_readReason_99 qi_1 ?_
        refine x_isub d11_readReason_100 ?_
        refine x_cVN (Z := y11_fail) (S := rm11_fail) (As := [.int (4 : Int32), .int ((xm_gi M (b + 154) 30) - (1 : Int32))]) (rest := []) d11_readReason_101 ml11_241 k11_fail rfl (b := (b + 154)) (hS.1 _ _ (sh_154 b)) rfl rfl (Nat.le_of_ble_eq_true rfl) ⟨⟨by decide, by decide⟩, by decide, by decide⟩ ⟨rfl, rfl⟩ h (fun M32 h => ?_)
        obtain ⟨hS, h⟩ := h
        exact x_ret (r := none) d11_readReason_104 xm_rN rfl ⟨Nat.le_refl _, Nat.le_refl _⟩ (h hS)
    · have h := h.2 g
      refine x_iinc d11_readReason_78 9 rfl rfl (by decide) (L' := [(12, .int (v12 + Int32.ofInt (1))), (0, .ref (b + 154)), (2, .int v2), (3, .long w3), (5, .int v5), (6, .int v6), (7, .int v7), (8, .long w8), (10, .int v10), (11, .int v11)]) rfl ?_
      refine x_goto d11_readReason_81 (t := 57) (by decide) ?_
      exact xm_X.sub [1, 2, 3, 4, 5, 6, 7, 8, 9, 0] rfl (h hS)

set_option maxRecDepth 20000 in
theorem t11_readInstruction_0 {l : Launch} {E : xm_E} {b : Nat} {c p : Bool} {Q : Option Value → xm_M → Prop} (M : xm_M) (v1 : Int32) (hS : xm_st b c p M)
  (h : xm_C l E y11_isAccess rm11_isAccess [.ref (b + 154), .int v1] M (fun r M1 => ∃ r2 : Bool, r = some (.int (xz r2)) ∧ xm_st b c p M1 ∧ (((xz r2) = 0 → xm_C l E y11_readEdge rm11_readEdge [.ref (b + 154), .int v1, .int (0 : Int32)] M1 (fun r M3 => r = none ∧ xm_st b c p M3 ∧ xm_C l E y11_readEdge rm11_readEdge [.ref (b + 154), .int v1, .int (1 : Int32)] M3 (fun r M5 => r = none ∧ xm_st b c p M5 ∧ (xm_st b c p M5 → Q none M5)))) ∧ (¬ (xz r2) = 0 → xm_C l E y11_plainSteps rm11_plainSteps [.ref (b + 154), .int v1] M1 (fun r M7 => r = none ∧ xm_st b c p M7 ∧ (vp_in v1 48 ∧ (vp_in v1 48 ∧ xm_C l E y11_readReason rm11_readReason [.ref (b + 154), .int (0 : Int32), .int ((1 : Int32) + (xm_gi M7 (b + 157) (Int32.toNatClampNeg v1))), .long (Int32.toInt64 (xm_gi M7 (b + 158) (Int32.toNatClampNeg v1)))] M7 (fun r M11 => r = none ∧ xm_st b c p M11 ∧ ((¬ (xm_gi M11 (b + 154) 31) = 0 → xm_C l E y11_readEdge rm11_readEdge [.ref (b + 154), .int v1, .int (0 : Int32)] M11 (fun r M13 => r = none ∧ xm_st b c p M13 ∧ xm_C l E y11_readEdge rm11_readEdge [.ref (b + 154), .int v1, .int (1 : Int32)] M13 (fun r M15 => r = none ∧ xm_st b c p M15 ∧ (xm_st b c p M15 → Q none M15)))) ∧ ((xm_gi M11 (b + 154) 31) = 0 → (vp_in v1 48 ∧ xm_C l E y11_upper rm11_upper [.ref (b + 154), .int v1] M11 (fun r M18 => ∃ r19 : Int32, r = some (.int r19) ∧ xm_st b c p M18 ∧ xm_C l E y11_greatest rm11_greatest [.ref (b + 154), .int v1] M18 (fun r M20 => ∃ r21 : Int64, r = some (.long r21) ∧ xm_st b c p M20 ∧ xm_C l E y11_readReason rm11_readReason [.ref (b + 154), .int ((1 : Int32) + (xm_gi M11 (b + 157) (Int32.toNatClampNeg v1))), .int r19, .long r21] M20 (fun r M22 => r = none ∧ xm_st b c p M22 ∧ xm_C l E y11_readEdge rm11_readEdge [.ref (b + 154), .int v1, .int (0 : Int32)] M22 (fun r M24 => r = none ∧ xm_st b c p M24 ∧ xm_C l E y11_readEdge rm11_readEdge [.ref (b + 154), .int v1, .int (1 : Int32)] M24 (fun r M26 => r = none ∧ xm_st b c p M26 ∧ (xm_st b c p M26 → Q none M26))))))))))))))))) :
  xm_X l E y11_readInstruction rm11_readInstruction Q 0 [(0, .ref (b + 154)), (1, .int v1)] [] 0 0 M := by
  refine x_aload_n d11_readInstruction_0 0 rfl rfl ?_
  refine x_iload_n d11_readInstruction_1 1 rfl rfl ?_
  refine x_cVZ (Z := y11_isAccess) (S := rm11_isAccess) (As := [.int v1]) (rest := []) d11_readInstruction_2 ml11_190 k11_isAccess rfl (b := (b + 154)) (hS.1 _ _ (sh_154 b)) rfl rfl (Nat.le_of_ble_eq_true rfl) ⟨⟨by decide, by decide⟩, by decide, by decide⟩ ⟨rfl, rfl⟩ h (fun r2 M1 h => ?_)
  obtain ⟨hS, h⟩ := h
  refine x_if_eq d11_readInstruction_5 (t := 62) (by decide) (fun g => ?_) (fun g => ?_)
  · have h := h.1 g
    refine x_aload_n d11_readInstruction_62 0 rfl rfl ?_
    refine x_iload_n d11_readInstruction_63 1 rfl rfl ?_
    refine x_iconst d11_readInstruction_64 qi_0 ?_
    refine x_cVN (Z := y11_readEdge) (S := rm11_readEdge) (As := [.int v1, .int (0 : Int32)]) (rest := []) d11_readInstruction_65 ml11_260 k11_readEdge rfl (b := (b + 154)) (hS.1 _ _ (sh_154 b)) rfl rfl (Nat.le_of_ble_eq_true rfl) ⟨⟨by decide, by decide⟩, by decide, by decide⟩ ⟨rfl, rfl⟩ h (fun M3 h => ?_)
    obtain ⟨hS, h⟩ := h
    refine x_aload_n d11_readInstruction_68 0 rfl rfl ?_
    refine x_iload_n d11_readInstruction_69 1 rfl rfl ?_
    refine x_iconst d11_readInstruction_70 qi_1 ?_
    refine x_cVN (Z := y11_readEdge) (S := rm11_readEdge) (As := [.int v1, .int (1 : Int32)]) (rest := []) d11_readInstruction_71 ml11_260 k11_readEdge rfl (b := (b + 154)) (hS.1 _ _ (sh_154 b)) rfl rfl (Nat.le_of_ble_eq_true rfl) ⟨⟨by decide, by decide⟩, by decide, by decide⟩ ⟨rfl, rfl⟩ h (fun M5 h => ?_)
    obtain ⟨hS, h⟩ := h
    exact x_ret (r := none) d11_readInstruction_74 xm_rN rfl ⟨Nat.le_refl _, Nat.le_refl _⟩ (h hS)
  · have h := h.2 g
    refine x_aload_n d11_readInstruction_8 0 rfl rfl ?_
    refine x_iload_n d11_readInstruction_9 1 rfl rfl ?_
    refine x_cVN (Z := y11_plainSteps) (S := rm11_plainSteps) (As := [.int v1]) (rest := []) d11_readInstruction_10 ml11_257 k11_plainSteps rfl (b := (b + 154)) (hS.1 _ _ (sh_154 b)) rfl rfl (Nat.le_of_ble_eq_true rfl) ⟨⟨by decide, by decide⟩, by decide, by decide⟩ ⟨rfl, rfl⟩ h (fun M7 h => ?_)
    obtain ⟨hS, h⟩ := h
    refine x_aload_n d11_readInstruction_13 0 rfl rfl ?_
    refine x_iconst d11_readInstruction_14 qi_0 ?_
    refine x_iconst d11_readInstruction_15 qi_1 ?_
    refine x_aload_n d11_readInstruction_16 0 rfl rfl ?_
    refine x_getR d11_readInstruction_17 fl11_16 (fun _ _ => rfl) (hS.1 _ _ (sh_154 b)) (hS.2.1 _ _ _ (pt_154_4 b)) ?_
    refine x_iload_n d11_readInstruction_20 1 rfl rfl ?_
    obtain ⟨g9, h⟩ := h
    refine x_iald d11_readInstruction_21 (hS.1 _ _ (sh_157 b)) g9 ?_
    refine x_iadd d11_readInstruction_22 ?_
    refine x_aload_n d11_readInstruction_23 0 rfl rfl ?_
    refine x_getR d11_readInstruction_24 fl11_19 (fun _ _ => rfl) (hS.1 _ _ (sh_154 b)) (hS.2.1 _ _ _ (pt_154_5 b)) ?_
    refine x_iload_n d11_readInstruction_27 1 rfl rfl ?_
    obtain ⟨g10, h⟩ := h
    refine x_iald d11_readInstruction_28 (hS.1 _ _ (sh_158 b)) g10 ?_
    refine x_i2l d11_readInstruction_29 ?_
    refine x_cVN (Z := y11_readReason) (S := rm11_readReason) (As := [.int (0 : Int32), .int ((1 : Int32) + (xm_gi M7 (b + 157) (Int32.toNatClampNeg v1))), .long (Int32.toInt64 (xm_gi M7 (b + 158) (Int32.toNatClampNeg v1)))]) (rest := []) d11_readInstruction_30 ml11_253 k11_readReason rfl (b := (b + 154)) (hS.1 _ _ (sh_154 b)) rfl rfl (Nat.le_of_ble_eq_true rfl) ⟨⟨by decide, by decide⟩, by decide, by decide⟩ ⟨rfl, rfl⟩ h (fun M11 h => ?_)
    obtain ⟨hS, h⟩ := h
    refine x_aload_n d11_readInstruction_33 0 rfl rfl ?_
    refine x_getI d11_readInstruction_34 fl11_235 (fun _ _ => rfl) (hS.1 _ _ (sh_154 b)) ?_
    refine x_if_ne d11_readInstruction_37 (t := 62) (by decide) (fun g => ?_) (fun g => ?_)
    · have h := h.1 g
      refine x_aload_n d11_readInstruction_62 0 rfl rfl ?_
      refine x_iload_n d11_readInstruction_63 1 rfl rfl ?_
      refine x_iconst d11_readInstruction_64 qi_0 ?_
      refine x_cVN (Z := y11_readEdge) (S := rm11_readEdge) (As := [.int v1, .int (0 : Int32)]) (rest := []) d11_readInstruction_65 ml11_260 k11_readEdge rfl (b := (b + 154)) (hS.1 _ _ (sh_154 b)) rfl rfl (Nat.le_of_ble_eq_true rfl) ⟨⟨by decide, by decide⟩, by decide, by decide⟩ ⟨rfl, rfl⟩ h (fun M13 h => ?_)
      obtain ⟨hS, h⟩ := h
      refine x_aload_n d11_readInstruction_68 0 rfl rfl ?_
      refine x_iload_n d11_readInstruction_69 1 rfl rfl ?_
      refine x_iconst d11_readInstruction_70 qi_1 ?_
      refine x_cVN (Z := y11_readEdge) (S := rm11_readEdge) (As := [.int v1, .int (1 : Int32)]) (rest := []) d11_readInstruction_71 ml11_260 k11_readEdge rfl (b := (b + 154)) (hS.1 _ _ (sh_154 b)) rfl rfl (Nat.le_of_ble_eq_true rfl) ⟨⟨by decide, by decide⟩, by decide, by decide⟩ ⟨rfl, rfl⟩ h (fun M15 h => ?_)
      obtain ⟨hS, h⟩ := h
      exact x_ret (r := none) d11_readInstruction_74 xm_rN rfl ⟨Nat.le_refl _, Nat.le_refl _⟩ (h hS)
    · have h := h.2 g
      refine x_aload_n d11_readInstruction_40 0 rfl rfl ?_
      refine x_iconst d11_readInstruction_41 qi_1 ?_
      refine x_aload_n d11_readInstruction_42 0 rfl rfl ?_
      refine x_getR d11_readInstruction_43 fl11_16 (fun _ _ => rfl) (hS.1 _ _ (sh_154 b)) (hS.2.1 _ _ _ (pt_154_4 b)) ?_
      refine x_iload_n d11_readInstruction_46 1 rfl rfl ?_
      obtain ⟨g17, h⟩ := h
      refine x_iald d11_readInstruction_47 (hS.1 _ _ (sh_157 b)) g17 ?_
      refine x_iadd d11_readInstruction_48 ?_
      refine x_aload_n d11_readInstruction_49 0 rfl rfl ?_
      refine x_iload_n d11_readInstruction_50 1 rfl rfl ?_
      refine x_cVI (Z := y11_upper) (S := rm11_upper) (As := [.int v1]) (rest := [.int ((1 : Int32) + (xm_gi M11 (b + 157) (Int32.toNatClampNeg v1))), .ref (b + 154)]) d11_readInstruction_51 ml11_183 k11_upper rfl (b := (b + 154)) (hS.1 _ _ (sh_154 b)) rfl rfl (Nat.le_of_ble_eq_true rfl) ⟨⟨by decide, by decide⟩, by decide, by decide⟩ ⟨rfl, rfl⟩ h (fun r19 M18 h => ?_)
      obtain ⟨hS, h⟩ := h
      refine x_aload_n d11_readInstruction_54 0 rfl rfl ?_
      refine x_iload_n d11_readInstruction_55 1 rfl rfl ?_
      refine x_cVJ (Z := y11_greatest) (S := rm11_greatest) (As := [.int v1]) (rest := [.int r19, .int ((1 : Int32) + (xm_gi M11 (b + 157) (Int32.toNatClampNeg v1))), .ref (b + 154)]) d11_readInstruction_56 ml11_186 k11_greatest rfl (b := (b + 154)) (hS.1 _ _ (sh_154 b)) rfl rfl (Nat.le_of_ble_eq_true rfl) ⟨⟨by decide, by decide⟩, by decide, by decide⟩ ⟨rfl, rfl⟩ h (fun r21 M20 h => ?_)
      obtain ⟨hS, h⟩ := h
      refine x_cVN (Z := y11_readReason) (S := rm11_readReason) (As := [.int ((1 : Int32) + (xm_gi M11 (b + 157) (Int32.toNatClampNeg v1))), .int r19, .long r21]) (rest := []) d11_readInstruction_59 ml11_253 k11_readReason rfl (b := (b + 154)) (hS.1 _ _ (sh_154 b)) rfl rfl (Nat.le_of_ble_eq_true rfl) ⟨⟨by decide, by decide⟩, by decide, by decide⟩ ⟨rfl, rfl⟩ h (fun M22 h => ?_)
      obtain ⟨hS, h⟩ := h
      refine x_aload_n d11_readInstruction_62 0 rfl rfl ?_
      refine x_iload_n d11_readInstruction_63 1 rfl rfl ?_
      refine x_iconst d11_readInstruction_64 qi_0 ?_
      refine x_cVN (Z := y11_readEdge) (S := rm11_readEdge) (As := [.int v1, .int (0 : Int32)]) (rest := []) d11_readInstruction_65 ml11_260 k11_readEdge rfl (b := (b + 154)) (hS.1 _ _ (sh_154 b)) rfl rfl (Nat.le_of_ble_eq_true rfl) ⟨⟨by decide, by decide⟩, by decide, by decide⟩ ⟨rfl, rfl⟩ h (fun M24 h => ?_)
      obtain ⟨hS, h⟩ := h
      refine x_aload_n d11_readInstruction_68 0 rfl rfl ?_
      refine x_iload_n d11_readInstruction_69 1 rfl rfl ?_
      refine x_iconst d11_readInstruction_70 qi_1 ?_
      refine x_cVN (Z := y11_readEdge) (S := rm11_readEdge) (As := [.int v1, .int (1 : Int32)]) (rest := []) d11_readInstruction_71 ml11_260 k11_readEdge rfl (b := (b + 154)) (hS.1 _ _ (sh_154 b)) rfl rfl (Nat.le_of_ble_eq_true rfl) ⟨⟨by decide, by decide⟩, by decide, by decide⟩ ⟨rfl, rfl⟩ h (fun M26 h => ?_)
      obtain ⟨hS, h⟩ := h
      exact x_ret (r := none) d11_readInstruction_74 xm_rN rfl ⟨Nat.le_refl _, Nat.le_refl _⟩ (h hS)

set_option maxRecDepth 20000 in
theorem t11_plainSteps_0 {l : Launch} {E : xm_E} {b : Nat} {c p : Bool} {Q : Option Value → xm_M → Prop} (M : xm_M) (v1 : Int32) (hS : xm_st b c p M)
  (h : (xm_st b c p (xm_pi (xm_pi M (b + 154) 19 (0 : Int32)) (b + 154) 14 (0 : Int32)) → xm_X l E y11_plainSteps rm11_plainSteps Q 12 [(0, .ref (b + 154)), (1, .int v1), (2, .int (0 : Int32))] [] 0 0 (xm_pi (xm_pi M (b + 154) 19 (0 : Int32)) (b + 154) 14 (0 : Int32)))) :
  xm_X l E y11_plainSteps rm11_plainSteps Q 0 [(0, .ref (b + 154)), (1, .int v1)] [] 0 0 M := by
  refine x_aload_n d11_plainSteps_0 0 rfl rfl ?_
  refine x_iconst d11_plainSteps_1 qi_0 ?_
  refine x_putI d11_plainSteps_2 fw11_92 (fun _ _ => rfl) rfl rfl (hS.1 _ _ (sh_154 b)) ?_
  refine x_aload_n d11_plainSteps_5 0 rfl rfl ?_
  refine x_iconst d11_plainSteps_6 qi_0 ?_
  refine x_putI d11_plainSteps_7 fw11_100 (fun _ _ => rfl) rfl rfl (hS.pi.1 _ _ (sh_154 b)) ?_
  refine x_iconst d11_plainSteps_10 qi_0 ?_
  refine x_istore_n d11_plainSteps_11 rfl (by decide) (L' := [(2, .int (0 : Int32)), (0, .ref (b + 154)), (1, .int v1)]) rfl ?_
  exact xm_X.sub [1, 2, 0] rfl (h hS.pi.pi)
set_option maxRecDepth 20000 in
theorem t11_plainSteps_12 {l : Launch} {E : xm_E} {b : Nat} {c p : Bool} {Q : Option Value → xm_M → Prop} (M : xm_M) (v1 : Int32) (v2 : Int32) (hS : xm_st b c p M)
  (h : (vp_in v1 48 ∧ (((xm_gi M (b + 175) (Int32.toNatClampNeg v1)) ≤ v2 → (xm_st b c p M → Q none M)) ∧ (¬ (xm_gi M (b + 175) (Int32.toNatClampNeg v1)) ≤ v2 → (vp_in v1 48 ∧ (vp_in ((xm_gi M (b + 174) (Int32.toNatClampNeg v1)) + ((3 : Int32) * v2)) 20000 ∧ (vp_in (((xm_gi M (b + 174) (Int32.toNatClampNeg v1)) + ((3 : Int32) * v2)) + (1 : Int32)) 20000 ∧ (vp_in (((xm_gi M (b + 174) (Int32.toNatClampNeg v1)) + ((3 : Int32) * v2)) + (2 : Int32)) 20000 ∧ xm_C l E y11_step rm11_step [.ref (b + 154), .int v2, .int (xm_gi M (b + 160) (Int32.toNatClampNeg ((xm_gi M (b + 174) (Int32.toNatClampNeg v1)) + ((3 : Int32) * v2)))), .int (xm_gi M (b + 160) (Int32.toNatClampNeg (((xm_gi M (b + 174) (Int32.toNatClampNeg v1)) + ((3 : Int32) * v2)) + (1 : Int32)))), .long (Int32.toInt64 (xm_gi M (b + 160) (Int32.toNatClampNeg (((xm_gi M (b + 174) (Int32.toNatClampNeg v1)) + ((3 : Int32) * v2)) + (2 : Int32)))))] M (fun r M6 => r = none ∧ xm_st b c p M6 ∧ (xm_st b c p M6 → xm_X l E y11_plainSteps rm11_plainSteps Q 12 [(0, .ref (b + 154)), (1, .int v1), (2, .int (v2 + Int32.ofInt (1)))] [] 0 0 M6)))))))))) :
  xm_X l E y11_plainSteps rm11_plainSteps Q 12 [(0, .ref (b + 154)), (1, .int v1), (2, .int v2)] [] 0 0 M := by
  refine x_iload_n d11_plainSteps_12 2 rfl rfl ?_
  refine x_aload_n d11_plainSteps_13 0 rfl rfl ?_
  refine x_getR d11_plainSteps_14 fl11_77 (fun _ _ => rfl) (hS.1 _ _ (sh_154 b)) (hS.2.1 _ _ _ (pt_154_33 b)) ?_
  refine x_iload_n d11_plainSteps_17 1 rfl rfl ?_
  obtain ⟨g1, h⟩ := h
  refine x_iald d11_plainSteps_18 (hS.1 _ _ (sh_175 b)) g1 ?_
  refine x_icmp_ge d11_plainSteps_19 (t := 67) (by decide) (fun g => ?_) (fun g => ?_)
  · have h := h.1 g
    exact x_ret (r := none) d11_plainSteps_67 xm_rN rfl ⟨Nat.le_refl _, Nat.le_refl _⟩ (h hS)
  · have h := h.2 g
    refine x_aload_n d11_plainSteps_22 0 rfl rfl ?_
    refine x_getR d11_plainSteps_23 fl11_74 (fun _ _ => rfl) (hS.1 _ _ (sh_154 b)) (hS.2.1 _ _ _ (pt_154_32 b)) ?_
    refine x_iload_n d11_plainSteps_26 1 rfl rfl ?_
    obtain ⟨g2, h⟩ := h
    refine x_iald d11_plainSteps_27 (hS.1 _ _ (sh_174 b)) g2 ?_
    refine x_iconst d11_plainSteps_28 qi_3 ?_
    refine x_iload_n d11_plainSteps_29 2 rfl rfl ?_
    refine x_imul d11_plainSteps_30 ?_
    refine x_iadd d11_plainSteps_31 ?_
    refine x_istore_n d11_plainSteps_32 rfl (by decide) (L' := [(3, .int ((xm_gi M (b + 174) (Int32.toNatClampNeg v1)) + ((3 : Int32) * v2))), (0, .ref (b + 154)), (1, .int v1), (2, .int v2)]) rfl ?_
    refine x_aload_n d11_plainSteps_33 1 rfl rfl ?_
    refine x_iload_n d11_plainSteps_34 3 rfl rfl ?_
    refine x_aload_n d11_plainSteps_35 1 rfl rfl ?_
    refine x_getR d11_plainSteps_36 fl11_25 (fun _ _ => rfl) (hS.1 _ _ (sh_154 b)) (hS.2.1 _ _ _ (pt_154_7 b)) ?_
    refine x_iload_n d11_plainSteps_39 0 rfl rfl ?_
    obtain ⟨g3, h⟩ := h
    refine x_iald d11_plainSteps_40 (hS.1 _ _ (sh_160 b)) g3 ?_
    refine x_aload_n d11_plainSteps_41 1 rfl rfl ?_
    refine x_getR d11_plainSteps_42 fl11_25 (fun _ _ => rfl) (hS.1 _ _ (sh_154 b)) (hS.2.1 _ _ _ (pt_154_7 b)) ?_
    refine x_iload_n d11_plainSteps_45 0 rfl rfl ?_
    refine x_iconst d11_plainSteps_46 qi_1 ?_
    refine x_iadd d11_plainSteps_47 ?_
    obtain ⟨g4, h⟩ := h
    refine x_iald d11_plainSteps_48 (hS.1 _ _ (sh_160 b)) g4 ?_
    refine x_aload_n d11_plainSteps_49 1 rfl rfl ?_
    refine x_getR d11_plainSteps_50 fl11_25 (fun _ _ => rfl) (hS.1 _ _ (sh_154 b)) (hS.2.1 _ _ _ (pt_154_7 b)) ?_
    refine x_iload_n d11_plainSteps_53 0 rfl rfl ?_
    refine x_iconst d11_plainSteps_54 qi_2 ?_
    refine x_iadd d11_plainSteps_55 ?_
    obtain ⟨g5, h⟩ := h
    refine x_iald d11_plainSteps_56 (hS.1 _ _ (sh_160 b)) g5 ?_
    refine x_i2l d11_plainSteps_57 ?_
    refine x_cVN (Z := y11_step) (S := rm11_step) (As := [.int v2, .int (xm_gi M (b + 160) (Int32.toNatClampNeg ((xm_gi M (b + 174) (Int32.toNatClampNeg v1)) + ((3 : Int32) * v2)))), .int (xm_gi M (b + 160) (Int32.toNatClampNeg (((xm_gi M (b + 174) (Int32.toNatClampNeg v1)) + ((3 : Int32) * v2)) + (1 : Int32)))), .long (Int32.toInt64 (xm_gi M (b + 160) (Int32.toNatClampNeg (((xm_gi M (b + 174) (Int32.toNatClampNeg v1)) + ((3 : Int32) * v2)) + (2 : Int32)))))]) (rest := []) d11_plainSteps_58 ml11_107 k11_step rfl (b := (b + 154)) (hS.1 _ _ (sh_154 b)) rfl rfl (Nat.le_of_ble_eq_true rfl) ⟨⟨by decide, by decide⟩, by decide, by decide⟩ ⟨rfl, rfl⟩ h (fun M6 h => ?_)
    obtain ⟨hS, h⟩ := h
    refine x_iinc d11_plainSteps_61 3 rfl rfl (by decide) (L' := [(2, .int (v2 + Int32.ofInt (1))), (3, .int ((xm_gi M (b + 174) (Int32.toNatClampNeg v1)) + ((3 : Int32) * v2))), (0, .ref (b + 154)), (1, .int v1)]) rfl ?_
    refine x_goto d11_plainSteps_64 (t := 12) (by decide) ?_
    exact xm_X.sub [2, 3, 0] rfl (h hS)

set_option maxRecDepth 20000 in
theorem t11_readEdge_0 {l : Launch} {E : xm_E} {b : Nat} {c p : Bool} {Q : Option Value → xm_M → Prop} (M : xm_M) (v1 : Int32) (v2 : Int32) (hS : xm_st b c p M)
  (h : xm_C l E y11_end rm11_end [.ref (b + 154), .int v1, .int v2] M (fun r M1 => ∃ r2 : Int32, r = some (.int r2) ∧ xm_st b c p M1 ∧ ((r2 < 0 → (xm_st b c p M1 → Q none M1)) ∧ (¬ r2 < 0 → (((xm_gi M1 (b + 154) 31) = 0 → xm_C l E y11_readIn rm11_readIn [.ref (b + 154), .int (0 : Int32), .int (1 : Int32)] M1 (fun r M3 => ∃ r4 : Int32, r = some (.int r4) ∧ xm_st b c p M3 ∧ (((xm_gi M3 (b + 154) 31) = 0 → xm_C l E y11_tapeSteps rm11_tapeSteps [.ref (b + 154), .int v1, .int v2] M3 (fun r M5 => r = none ∧ xm_st b c p M5 ∧ ((¬ r4 = (1 : Int32) → (vp_in r2 48 ∧ ((0 ≤ (xm_gi M5 (b + 175) (Int32.toNatClampNeg r2)) → (xm_st b c p M5 → xm_X l E y11_readEdge rm11_readEdge Q 104 [(0, .ref (b + 154)), (3, .int r2), (6, .int (0 : Int32))] [] 0 0 M5)) ∧ (¬ 0 ≤ (xm_gi M5 (b + 175) (Int32.toNatClampNeg r2)) → xm_C l E y11_fail rm11_fail [.ref (b + 154), .int (7 : Int32), .int ((xm_gi M3 (b + 154) 30) - (1 : Int32))] M5 (fun r M8 => r = none ∧ xm_st b c p M8 ∧ (xm_st b c p M8 → Q none M8)))))) ∧ (r4 = (1 : Int32) → xm_C l E y11_readIn rm11_readIn [.ref (b + 154), .int (0 : Int32), .int (9 : Int32)] M5 (fun r M10 => ∃ r11 : Int32, r = some (.int r11) ∧ xm_st b c p M10 ∧ ((¬ (xm_gi M10 (b + 154) 31) = 0 → (xm_st b c p M10 → Q none M10)) ∧ ((xm_gi M10 (b + 154) 31) = 0 → xm_C l E y11_readReason rm11_readReason [.ref (b + 154), .int r11, .int r11, .long (-1 : Int64)] M10 (fun r M12 => r = none ∧ xm_st b c p M12 ∧ (xm_st b c p M12 → Q none M12))))))))) ∧ (¬ (xm_gi M3 (b + 154) 31) = 0 → (xm_st b c p M3 → Q none M3))))) ∧ (¬ (xm_gi M1 (b + 154) 31) = 0 → (xm_st b c p M1 → Q none M1))))))) :
  xm_X l E y11_readEdge rm11_readEdge Q 0 [(0, .ref (b + 154)), (1, .int v1), (2, .int v2)] [] 0 0 M := by
  refine x_aload_n d11_readEdge_0 0 rfl rfl ?_
  refine x_iload_n d11_readEdge_1 1 rfl rfl ?_
  refine x_iload_n d11_readEdge_2 2 rfl rfl ?_
  refine x_cVI (Z := y11_end) (S := rm11_end) (As := [.int v1, .int v2]) (rest := []) d11_readEdge_3 ml11_159 k11_end rfl (b := (b + 154)) (hS.1 _ _ (sh_154 b)) rfl rfl (Nat.le_of_ble_eq_true rfl) ⟨⟨by decide, by decide⟩, by decide, by decide⟩ ⟨rfl, rfl⟩ h (fun r2 M1 h => ?_)
  obtain ⟨hS, h⟩ := h
  refine x_istore_n d11_readEdge_6 rfl (by decide) (L' := [(3, .int r2), (0, .ref (b + 154)), (1, .int v1), (2, .int v2)]) rfl ?_
  refine x_iload_n d11_readEdge_7 0 rfl rfl ?_
  refine x_if_lt d11_readEdge_8 (t := 18) (by decide) (fun g => ?_) (fun g => ?_)
  · have h := h.1 g
    exact x_ret (r := none) d11_readEdge_18 xm_rN rfl ⟨Nat.le_refl _, Nat.le_refl _⟩ (h hS)
  · have h := h.2 g
    refine x_aload_n d11_readEdge_11 1 rfl rfl ?_
    refine x_getI d11_readEdge_12 fl11_235 (fun _ _ => rfl) (hS.1 _ _ (sh_154 b)) ?_
    refine x_if_eq d11_readEdge_15 (t := 19) (by decide) (fun g => ?_) (fun g => ?_)
    · have h := h.1 g
      refine x_aload_n d11_readEdge_19 1 rfl rfl ?_
      refine x_iconst d11_readEdge_20 qi_0 ?_
      refine x_iconst d11_readEdge_21 qi_1 ?_
      refine x_cVI (Z := y11_readIn) (S := rm11_readIn) (As := [.int (0 : Int32), .int (1 : Int32)]) (rest := []) d11_readEdge_22 ml11_247 k11_readIn rfl (b := (b + 154)) (hS.1 _ _ (sh_154 b)) rfl rfl (Nat.le_of_ble_eq_true rfl) ⟨⟨by decide, by decide⟩, by decide, by decide⟩ ⟨rfl, rfl⟩ h (fun r4 M3 h => ?_)
      obtain ⟨hS, h⟩ := h
      refine x_istore d11_readEdge_25 (by decide) (L' := [(4, .int r4), (3, .int r2), (0, .ref (b + 154)), (1, .int v1), (2, .int v2)]) rfl ?_
      refine x_aload_n d11_readEdge_27 2 rfl rfl ?_
      refine x_getI d11_readEdge_28 fl11_238 (fun _ _ => rfl) (hS.1 _ _ (sh_154 b)) ?_
      refine x_iconst d11_readEdge_31 qi_1 ?_
      refine x_isub d11_readEdge_32 ?_
      refine x_istore d11_readEdge_33 (by decide) (L' := [(5, .int ((xm_gi M3 (b + 154) 30) - (1 : Int32))), (4, .int r4), (3, .int r2), (0, .ref (b + 154)), (1, .int v1), (2, .int v2)]) rfl ?_
      refine x_aload_n d11_readEdge_35 3 rfl rfl ?_
      refine x_getI d11_readEdge_36 fl11_235 (fun _ _ => rfl) (hS.1 _ _ (sh_154 b)) ?_
      refine x_if_eq d11_readEdge_39 (t := 43) (by decide) (fun g => ?_) (fun g => ?_)
      · have h := h.1 g
        refine x_aload_n d11_readEdge_43 3 rfl rfl ?_
        refine x_iload_n d11_readEdge_44 4 rfl rfl ?_
        refine x_iload_n d11_readEdge_45 5 rfl rfl ?_
        refine x_cVN (Z := y11_tapeSteps) (S := rm11_tapeSteps) (As := [.int v1, .int v2]) (rest := []) d11_readEdge_46 ml11_250 k11_tapeSteps rfl (b := (b + 154)) (hS.1 _ _ (sh_154 b)) rfl rfl (Nat.le_of_ble_eq_true rfl) ⟨⟨by decide, by decide⟩, by decide, by decide⟩ ⟨rfl, rfl⟩ h (fun M5 h => ?_)
        obtain ⟨hS, h⟩ := h
        refine x_iload d11_readEdge_49 1 rfl ?_
        refine x_iconst d11_readEdge_51 qi_1 ?_
        refine x_icmp_ne d11_readEdge_52 (t := 83) (by decide) (fun g => ?_) (fun g => ?_)
        · have h := h.1 g
          refine x_aload_n d11_readEdge_83 3 rfl rfl ?_
          refine x_getR d11_readEdge_84 fl11_77 (fun _ _ => rfl) (hS.1 _ _ (sh_154 b)) (hS.2.1 _ _ _ (pt_154_33 b)) ?_
          refine x_iload_n d11_readEdge_87 2 rfl rfl ?_
          obtain ⟨g7, h⟩ := h
          refine x_iald d11_readEdge_88 (hS.1 _ _ (sh_175 b)) g7 ?_
          refine x_if_ge d11_readEdge_89 (t := 101) (by decide) (fun g => ?_) (fun g => ?_)
          · have h := h.1 g
            refine x_iconst d11_readEdge_101 qi_0 ?_
            refine x_istore d11_readEdge_102 (by decide) (L' := [(6, .int (0 : Int32)), (5, .int ((xm_gi M3 (b + 154) 30) - (1 : Int32))), (4, .int r4), (3, .int r2), (0, .ref (b + 154)), (1, .int v1), (2, .int v2)]) rfl ?_
            exact xm_X.sub [4, 3, 0] rfl (h hS)
          · have h := h.2 g
            refine x_aload_n d11_readEdge_92 3 rfl rfl ?_
            refine x_bipush d11_readEdge_93 qb_7 ?_
            refine x_iload d11_readEdge_95 0 rfl ?_
            refine x_cVN (Z := y11_fail) (S := rm11_fail) (As := [.int (7 : Int32), .int ((xm_gi M3 (b + 154) 30) - (1 : Int32))]) (rest := []) d11_readEdge_97 ml11_241 k11_fail rfl (b := (b + 154)) (hS.1 _ _ (sh_154 b)) rfl rfl (Nat.le_of_ble_eq_true rfl) ⟨⟨by decide, by decide⟩, by decide, by decide⟩ ⟨rfl, rfl⟩ h (fun M8 h => ?_)
            obtain ⟨hS, h⟩ := h
            exact x_ret (r := none) d11_readEdge_100 xm_rN rfl ⟨Nat.le_refl _, Nat.le_refl _⟩ (h hS)
        · have h := h.2 g
          refine x_aload_n d11_readEdge_55 3 rfl rfl ?_
          refine x_iconst d11_readEdge_56 qi_0 ?_
          refine x_bipush d11_readEdge_57 qb_9 ?_
          refine x_cVI (Z := y11_readIn) (S := rm11_readIn) (As := [.int (0 : Int32), .int (9 : Int32)]) (rest := []) d11_readEdge_59 ml11_247 k11_readIn rfl (b := (b + 154)) (hS.1 _ _ (sh_154 b)) rfl rfl (Nat.le_of_ble_eq_true rfl) ⟨⟨by decide, by decide⟩, by decide, by decide⟩ ⟨rfl, rfl⟩ h (fun r11 M10 h => ?_)
          obtain ⟨hS, h⟩ := h
          refine x_istore d11_readEdge_62 (by decide) (L' := [(6, .int r11), (5, .int ((xm_gi M3 (b + 154) 30) - (1 : Int32))), (4, .int r4), (3, .int r2), (0, .ref (b + 154)), (1, .int v1), (2, .int v2)]) rfl ?_
          refine x_aload_n d11_readEdge_64 4 rfl rfl ?_
          refine x_getI d11_readEdge_65 fl11_235 (fun _ _ => rfl) (hS.1 _ _ (sh_154 b)) ?_
          refine x_if_ne d11_readEdge_68 (t := 82) (by decide) (fun g => ?_) (fun g => ?_)
          · have h := h.1 g
            exact x_ret (r := none) d11_readEdge_82 xm_rN rfl ⟨Nat.le_refl _, Nat.le_refl _⟩ (h hS)
          · have h := h.2 g
            refine x_aload_n d11_readEdge_71 4 rfl rfl ?_
            refine x_iload d11_readEdge_72 0 rfl ?_
            refine x_iload d11_readEdge_74 0 rfl ?_
            refine x_ldc2 d11_readEdge_76 lc11_119 ?_
            refine x_cVN (Z := y11_readReason) (S := rm11_readReason) (As := [.int r11, .int r11, .long (-1 : Int64)]) (rest := []) d11_readEdge_79 ml11_253 k11_readReason rfl (b := (b + 154)) (hS.1 _ _ (sh_154 b)) rfl rfl (Nat.le_of_ble_eq_true rfl) ⟨⟨by decide, by decide⟩, by decide, by decide⟩ ⟨rfl, rfl⟩ h (fun M12 h => ?_)
            obtain ⟨hS, h⟩ := h
            exact x_ret (r := none) d11_readEdge_82 xm_rN rfl ⟨Nat.le_refl _, Nat.le_refl _⟩ (h hS)
      · have h := h.2 g
        exact x_ret (r := none) d11_readEdge_42 xm_rN rfl ⟨Nat.le_refl _, Nat.le_refl _⟩ (h hS)
    · have h := h.2 g
      exact x_ret (r := none) d11_readEdge_18 xm_rN rfl ⟨Nat.le_refl _, Nat.le_refl _⟩ (h hS)
set_option maxRecDepth 20000 in
theorem t11_readEdge_104 {l : Launch} {E : xm_E} {b : Nat} {c p : Bool} {Q : Option Value → xm_M → Prop} (M : xm_M) (v3 : Int32) (v6 : Int32) (hS : xm_st b c p M)
  (h : (vp_in v3 48 ∧ (((xm_gi M (b + 175) (Int32.toNatClampNeg v3)) ≤ v6 → (xm_st b c p M → Q none M)) ∧ (¬ (xm_gi M (b + 175) (Int32.toNatClampNeg v3)) ≤ v6 → ((¬ (xm_gi M (b + 154) 31) = 0 → (xm_st b c p M → Q none M)) ∧ ((xm_gi M (b + 154) 31) = 0 → (vp_in v3 48 ∧ (vp_in ((xm_gi M (b + 174) (Int32.toNatClampNeg v3)) + ((3 : Int32) * v6)) 20000 ∧ (vp_in (((xm_gi M (b + 174) (Int32.toNatClampNeg v3)) + ((3 : Int32) * v6)) + (1 : Int32)) 20000 ∧ (vp_in (((xm_gi M (b + 174) (Int32.toNatClampNeg v3)) + ((3 : Int32) * v6)) + (2 : Int32)) 20000 ∧ xm_C l E y11_readReason rm11_readReason [.ref (b + 154), .int (xm_gi M (b + 160) (Int32.toNatClampNeg ((xm_gi M (b + 174) (Int32.toNatClampNeg v3)) + ((3 : Int32) * v6)))), .int (xm_gi M (b + 160) (Int32.toNatClampNeg (((xm_gi M (b + 174) (Int32.toNatClampNeg v3)) + ((3 : Int32) * v6)) + (1 : Int32)))), .long (Int32.toInt64 (xm_gi M (b + 160) (Int32.toNatClampNeg (((xm_gi M (b + 174) (Int32.toNatClampNeg v3)) + ((3 : Int32) * v6)) + (2 : Int32)))))] M (fun r M6 => r = none ∧ xm_st b c p M6 ∧ (xm_st b c p M6 → xm_X l E y11_readEdge rm11_readEdge Q 104 [(0, .ref (b + 154)), (3, .int v3), (6, .int (v6 + Int32.ofInt (1)))] [] 0 0 M6)))))))))))) :
  xm_X l E y11_readEdge rm11_readEdge Q 104 [(0, .ref (b + 154)), (3, .int v3), (6, .int v6)] [] 0 0 M := by
  refine x_iload d11_readEdge_104 2 rfl ?_
  refine x_aload_n d11_readEdge_106 0 rfl rfl ?_
  refine x_getR d11_readEdge_107 fl11_77 (fun _ _ => rfl) (hS.1 _ _ (sh_154 b)) (hS.2.1 _ _ _ (pt_154_33 b)) ?_
  refine x_iload_n d11_readEdge_110 1 rfl rfl ?_
  obtain ⟨g1, h⟩ := h
  refine x_iald d11_readEdge_111 (hS.1 _ _ (sh_175 b)) g1 ?_
  refine x_icmp_ge d11_readEdge_112 (t := 171) (by decide) (fun g => ?_) (fun g => ?_)
  · have h := h.1 g
    exact x_ret (r := none) d11_readEdge_171 xm_rN rfl ⟨Nat.le_refl _, Nat.le_refl _⟩ (h hS)
  · have h := h.2 g
    refine x_aload_n d11_readEdge_115 0 rfl rfl ?_
    refine x_getI d11_readEdge_116 fl11_235 (fun _ _ => rfl) (hS.1 _ _ (sh_154 b)) ?_
    refine x_if_ne d11_readEdge_119 (t := 171) (by decide) (fun g => ?_) (fun g => ?_)
    · have h := h.1 g
      exact x_ret (r := none) d11_readEdge_171 xm_rN rfl ⟨Nat.le_refl _, Nat.le_refl _⟩ (h hS)
    · have h := h.2 g
      refine x_aload_n d11_readEdge_122 0 rfl rfl ?_
      refine x_getR d11_readEdge_123 fl11_74 (fun _ _ => rfl) (hS.1 _ _ (sh_154 b)) (hS.2.1 _ _ _ (pt_154_32 b)) ?_
      refine x_iload_n d11_readEdge_126 1 rfl rfl ?_
      obtain ⟨g2, h⟩ := h
      refine x_iald d11_readEdge_127 (hS.1 _ _ (sh_174 b)) g2 ?_
      refine x_iconst d11_readEdge_128 qi_3 ?_
      refine x_iload d11_readEdge_129 2 rfl ?_
      refine x_imul d11_readEdge_131 ?_
      refine x_iadd d11_readEdge_132 ?_
      refine x_istore d11_readEdge_133 (by decide) (L' := [(7, .int ((xm_gi M (b + 174) (Int32.toNatClampNeg v3)) + ((3 : Int32) * v6))), (0, .ref (b + 154)), (3, .int v3), (6, .int v6)]) rfl ?_
      refine x_aload_n d11_readEdge_135 1 rfl rfl ?_
      refine x_aload_n d11_readEdge_136 1 rfl rfl ?_
      refine x_getR d11_readEdge_137 fl11_25 (fun _ _ => rfl) (hS.1 _ _ (sh_154 b)) (hS.2.1 _ _ _ (pt_154_7 b)) ?_
      refine x_iload d11_readEdge_140 0 rfl ?_
      obtain ⟨g3, h⟩ := h
      refine x_iald d11_readEdge_142 (hS.1 _ _ (sh_160 b)) g3 ?_
      refine x_aload_n d11_readEdge_143 1 rfl rfl ?_
      refine x_getR d11_readEdge_144 fl11_25 (fun _ _ => rfl) (hS.1 _ _ (sh_154 b)) (hS.2.1 _ _ _ (pt_154_7 b)) ?_
      refine x_iload d11_readEdge_147 0 rfl ?_
      refine x_iconst d11_readEdge_149 qi_1 ?_
      refine x_iadd d11_readEdge_150 ?_
      obtain ⟨g4, h⟩ := h
      refine x_iald d11_readEdge_151 (hS.1 _ _ (sh_160 b)) g4 ?_
      refine x_aload_n d11_readEdge_152 1 rfl rfl ?_
      refine x_getR d11_readEdge_153 fl11_25 (fun _ _ => rfl) (hS.1 _ _ (sh_154 b)) (hS.2.1 _ _ _ (pt_154_7 b)) ?_
      refine x_iload d11_readEdge_156 0 rfl ?_
      refine x_iconst d11_readEdge_158 qi_2 ?_
      refine x_iadd d11_readEdge_159 ?_
      obtain ⟨g5, h⟩ := h
      refine x_iald d11_readEdge_160 (hS.1 _ _ (sh_160 b)) g5 ?_
      refine x_i2l d11_readEdge_161 ?_
      refine x_cVN (Z := y11_readReason) (S := rm11_readReason) (As := [.int (xm_gi M (b + 160) (Int32.toNatClampNeg ((xm_gi M (b + 174) (Int32.toNatClampNeg v3)) + ((3 : Int32) * v6)))), .int (xm_gi M (b + 160) (Int32.toNatClampNeg (((xm_gi M (b + 174) (Int32.toNatClampNeg v3)) + ((3 : Int32) * v6)) + (1 : Int32)))), .long (Int32.toInt64 (xm_gi M (b + 160) (Int32.toNatClampNeg (((xm_gi M (b + 174) (Int32.toNatClampNeg v3)) + ((3 : Int32) * v6)) + (2 : Int32)))))]) (rest := []) d11_readEdge_162 ml11_253 k11_readReason rfl (b := (b + 154)) (hS.1 _ _ (sh_154 b)) rfl rfl (Nat.le_of_ble_eq_true rfl) ⟨⟨by decide, by decide⟩, by decide, by decide⟩ ⟨rfl, rfl⟩ h (fun M6 h => ?_)
      obtain ⟨hS, h⟩ := h
      refine x_iinc d11_readEdge_165 3 rfl rfl (by decide) (L' := [(6, .int (v6 + Int32.ofInt (1))), (7, .int ((xm_gi M (b + 174) (Int32.toNatClampNeg v3)) + ((3 : Int32) * v6))), (0, .ref (b + 154)), (3, .int v3)]) rfl ?_
      refine x_goto d11_readEdge_168 (t := 104) (by decide) ?_
      exact xm_X.sub [2, 3, 0] rfl (h hS)

set_option maxRecDepth 20000 in
theorem t11_tapeSteps_0 {l : Launch} {E : xm_E} {b : Nat} {c p : Bool} {Q : Option Value → xm_M → Prop} (M : xm_M) (v1 : Int32) (v2 : Int32) (hS : xm_st b c p M)
  (h : (vp_in v1 48 ∧ (xm_st b c p (xm_pi (xm_pi M (b + 154) 19 (0 : Int32)) (b + 154) 14 (0 : Int32)) → xm_X l E y11_tapeSteps rm11_tapeSteps Q 20 [(0, .ref (b + 154)), (1, .int v1), (2, .int v2), (3, .int (xm_gi (xm_pi (xm_pi M (b + 154) 19 (0 : Int32)) (b + 154) 14 (0 : Int32)) (b + 175) (Int32.toNatClampNeg v1))), (4, .int (0 : Int32))] [] 0 0 (xm_pi (xm_pi M (b + 154) 19 (0 : Int32)) (b + 154) 14 (0 : Int32))))) :
  xm_X l E y11_tapeSteps rm11_tapeSteps Q 0 [(0, .ref (b + 154)), (1, .int v1), (2, .int v2)] [] 0 0 M := by
  refine x_aload_n d11_tapeSteps_0 0 rfl rfl ?_
  refine x_iconst d11_tapeSteps_1 qi_0 ?_
  refine x_putI d11_tapeSteps_2 fw11_92 (fun _ _ => rfl) rfl rfl (hS.1 _ _ (sh_154 b)) ?_
  refine x_aload_n d11_tapeSteps_5 0 rfl rfl ?_
  refine x_iconst d11_tapeSteps_6 qi_0 ?_
  refine x_putI d11_tapeSteps_7 fw11_100 (fun _ _ => rfl) rfl rfl (hS.pi.1 _ _ (sh_154 b)) ?_
  refine x_aload_n d11_tapeSteps_10 0 rfl rfl ?_
  refine x_getR d11_tapeSteps_11 fl11_77 (fun _ _ => rfl) (hS.pi.pi.1 _ _ (sh_154 b)) (hS.pi.pi.2.1 _ _ _ (pt_154_33 b)) ?_
  refine x_iload_n d11_tapeSteps_14 1 rfl rfl ?_
  obtain ⟨g1, h⟩ := h
  refine x_iald d11_tapeSteps_15 (hS.pi.pi.1 _ _ (sh_175 b)) g1 ?_
  refine x_istore_n d11_tapeSteps_16 rfl (by decide) (L' := [(3, .int (xm_gi (xm_pi (xm_pi M (b + 154) 19 (0 : Int32)) (b + 154) 14 (0 : Int32)) (b + 175) (Int32.toNatClampNeg v1))), (0, .ref (b + 154)), (1, .int v1), (2, .int v2)]) rfl ?_
  refine x_iconst d11_tapeSteps_17 qi_0 ?_
  refine x_istore d11_tapeSteps_18 (by decide) (L' := [(4, .int (0 : Int32)), (3, .int (xm_gi (xm_pi (xm_pi M (b + 154) 19 (0 : Int32)) (b + 154) 14 (0 : Int32)) (b + 175) (Int32.toNatClampNeg v1))), (0, .ref (b + 154)), (1, .int v1), (2, .int v2)]) rfl ?_
  exact xm_X.sub [2, 3, 4, 1, 0] rfl (h hS.pi.pi)
set_option maxRecDepth 20000 in
theorem t11_tapeSteps_20 {l : Launch} {E : xm_E} {b : Nat} {c p : Bool} {Q : Option Value → xm_M → Prop} (M : xm_M) (v1 : Int32) (v2 : Int32) (v3 : Int32) (v4 : Int32) (hS : xm_st b c p M)
  (h : ((v3 ≤ v4 → xm_C l E y11_further rm11_further [.ref (b + 154), .int v1, .int v2, .int v3] M (fun r M1 => r = none ∧ xm_st b c p M1 ∧ (vp_in v1 48 ∧ (((xm_gi M1 (b + 155) (Int32.toNatClampNeg v1)) = (4 : Int32) → (xm_st b c p M1 → xm_X l E y11_tapeSteps rm11_tapeSteps Q 99 [(0, .ref (b + 154)), (1, .int v1), (3, .int v3), (4, .int (0 : Int32))] [] 0 0 M1)) ∧ (¬ (xm_gi M1 (b + 155) (Int32.toNatClampNeg v1)) = (4 : Int32) → (xm_st b c p M1 → Q none M1)))))) ∧ (¬ v3 ≤ v4 → (vp_in v1 48 ∧ (vp_in ((xm_gi M (b + 174) (Int32.toNatClampNeg v1)) + ((3 : Int32) * v4)) 20000 ∧ (vp_in (((xm_gi M (b + 174) (Int32.toNatClampNeg v1)) + ((3 : Int32) * v4)) + (1 : Int32)) 20000 ∧ (vp_in (((xm_gi M (b + 174) (Int32.toNatClampNeg v1)) + ((3 : Int32) * v4)) + (2 : Int32)) 20000 ∧ xm_C l E y11_keep rm11_keep [.ref (b + 154), .int v1, .int v4, .int (xm_gi M (b + 160) (Int32.toNatClampNeg ((xm_gi M (b + 174) (Int32.toNatClampNeg v1)) + ((3 : Int32) * v4)))), .int (xm_gi M (b + 160) (Int32.toNatClampNeg (((xm_gi M (b + 174) (Int32.toNatClampNeg v1)) + ((3 : Int32) * v4)) + (1 : Int32)))), .long (Int32.toInt64 (xm_gi M (b + 160) (Int32.toNatClampNeg (((xm_gi M (b + 174) (Int32.toNatClampNeg v1)) + ((3 : Int32) * v4)) + (2 : Int32)))))] M (fun r M8 => r = none ∧ xm_st b c p M8 ∧ (xm_st b c p M8 → xm_X l E y11_tapeSteps rm11_tapeSteps Q 20 [(0, .ref (b + 154)), (1, .int v1), (2, .int v2), (3, .int v3), (4, .int (v4 + Int32.ofInt (1)))] [] 0 0 M8))))))))) :
  xm_X l E y11_tapeSteps rm11_tapeSteps Q 20 [(0, .ref (b + 154)), (1, .int v1), (2, .int v2), (3, .int v3), (4, .int v4)] [] 0 0 M := by
  refine x_iload d11_tapeSteps_20 4 rfl ?_
  refine x_iload_n d11_tapeSteps_22 3 rfl rfl ?_
  refine x_icmp_ge d11_tapeSteps_23 (t := 78) (by decide) (fun g => ?_) (fun g => ?_)
  · have h := h.1 g
    refine x_aload_n d11_tapeSteps_78 0 rfl rfl ?_
    refine x_iload_n d11_tapeSteps_79 1 rfl rfl ?_
    refine x_iload_n d11_tapeSteps_80 2 rfl rfl ?_
    refine x_iload_n d11_tapeSteps_81 3 rfl rfl ?_
    refine x_cVN (Z := y11_further) (S := rm11_further) (As := [.int v1, .int v2, .int v3]) (rest := []) d11_tapeSteps_82 ml11_137 k11_further rfl (b := (b + 154)) (hS.1 _ _ (sh_154 b)) rfl rfl (Nat.le_of_ble_eq_true rfl) ⟨⟨by decide, by decide⟩, by decide, by decide⟩ ⟨rfl, rfl⟩ h (fun M1 h => ?_)
    obtain ⟨hS, h⟩ := h
    refine x_aload_n d11_tapeSteps_85 0 rfl rfl ?_
    refine x_getR d11_tapeSteps_86 fl11_7 (fun _ _ => rfl) (hS.1 _ _ (sh_154 b)) (hS.2.1 _ _ _ (pt_154_2 b)) ?_
    refine x_iload_n d11_tapeSteps_89 1 rfl rfl ?_
    obtain ⟨g3, h⟩ := h
    refine x_iald d11_tapeSteps_90 (hS.1 _ _ (sh_155 b)) g3 ?_
    refine x_iconst d11_tapeSteps_91 qi_4 ?_
    refine x_icmp_eq d11_tapeSteps_92 (t := 96) (by decide) (fun g => ?_) (fun g => ?_)
    · have h := h.1 g
      refine x_iconst d11_tapeSteps_96 qi_0 ?_
      refine x_istore d11_tapeSteps_97 (by decide) (L' := [(4, .int (0 : Int32)), (0, .ref (b + 154)), (1, .int v1), (2, .int v2), (3, .int v3)]) rfl ?_
      exact xm_X.sub [1, 2, 4, 0] rfl (h hS)
    · have h := h.2 g
      exact x_ret (r := none) d11_tapeSteps_95 xm_rN rfl ⟨Nat.le_refl _, Nat.le_refl _⟩ (h hS)
  · have h := h.2 g
    refine x_aload_n d11_tapeSteps_26 0 rfl rfl ?_
    refine x_getR d11_tapeSteps_27 fl11_74 (fun _ _ => rfl) (hS.1 _ _ (sh_154 b)) (hS.2.1 _ _ _ (pt_154_32 b)) ?_
    refine x_iload_n d11_tapeSteps_30 1 rfl rfl ?_
    obtain ⟨g4, h⟩ := h
    refine x_iald d11_tapeSteps_31 (hS.1 _ _ (sh_174 b)) g4 ?_
    refine x_iconst d11_tapeSteps_32 qi_3 ?_
    refine x_iload d11_tapeSteps_33 4 rfl ?_
    refine x_imul d11_tapeSteps_35 ?_
    refine x_iadd d11_tapeSteps_36 ?_
    refine x_istore d11_tapeSteps_37 (by decide) (L' := [(5, .int ((xm_gi M (b + 174) (Int32.toNatClampNeg v1)) + ((3 : Int32) * v4))), (0, .ref (b + 154)), (1, .int v1), (2, .int v2), (3, .int v3), (4, .int v4)]) rfl ?_
    refine x_aload_n d11_tapeSteps_39 1 rfl rfl ?_
    refine x_iload_n d11_tapeSteps_40 2 rfl rfl ?_
    refine x_iload d11_tapeSteps_41 5 rfl ?_
    refine x_aload_n d11_tapeSteps_43 1 rfl rfl ?_
    refine x_getR d11_tapeSteps_44 fl11_25 (fun _ _ => rfl) (hS.1 _ _ (sh_154 b)) (hS.2.1 _ _ _ (pt_154_7 b)) ?_
    refine x_iload d11_tapeSteps_47 0 rfl ?_
    obtain ⟨g5, h⟩ := h
    refine x_iald d11_tapeSteps_49 (hS.1 _ _ (sh_160 b)) g5 ?_
    refine x_aload_n d11_tapeSteps_50 1 rfl rfl ?_
    refine x_getR d11_tapeSteps_51 fl11_25 (fun _ _ => rfl) (hS.1 _ _ (sh_154 b)) (hS.2.1 _ _ _ (pt_154_7 b)) ?_
    refine x_iload d11_tapeSteps_54 0 rfl ?_
    refine x_iconst d11_tapeSteps_56 qi_1 ?_
    refine x_iadd d11_tapeSteps_57 ?_
    obtain ⟨g6, h⟩ := h
    refine x_iald d11_tapeSteps_58 (hS.1 _ _ (sh_160 b)) g6 ?_
    refine x_aload_n d11_tapeSteps_59 1 rfl rfl ?_
    refine x_getR d11_tapeSteps_60 fl11_25 (fun _ _ => rfl) (hS.1 _ _ (sh_154 b)) (hS.2.1 _ _ _ (pt_154_7 b)) ?_
    refine x_iload d11_tapeSteps_63 0 rfl ?_
    refine x_iconst d11_tapeSteps_65 qi_2 ?_
    refine x_iadd d11_tapeSteps_66 ?_
    obtain ⟨g7, h⟩ := h
    refine x_iald d11_tapeSteps_67 (hS.1 _ _ (sh_160 b)) g7 ?_
    refine x_i2l d11_tapeSteps_68 ?_
    refine x_cVN (Z := y11_keep) (S := rm11_keep) (As := [.int v1, .int v4, .int (xm_gi M (b + 160) (Int32.toNatClampNeg ((xm_gi M (b + 174) (Int32.toNatClampNeg v1)) + ((3 : Int32) * v4)))), .int (xm_gi M (b + 160) (Int32.toNatClampNeg (((xm_gi M (b + 174) (Int32.toNatClampNeg v1)) + ((3 : Int32) * v4)) + (1 : Int32)))), .long (Int32.toInt64 (xm_gi M (b + 160) (Int32.toNatClampNeg (((xm_gi M (b + 174) (Int32.toNatClampNeg v1)) + ((3 : Int32) * v4)) + (2 : Int32)))))]) (rest := []) d11_tapeSteps_69 ml11_133 k11_keep rfl (b := (b + 154)) (hS.1 _ _ (sh_154 b)) rfl rfl (Nat.le_of_ble_eq_true rfl) ⟨⟨by decide, by decide⟩, by decide, by decide⟩ ⟨rfl, rfl⟩ h (fun M8 h => ?_)
    obtain ⟨hS, h⟩ := h
    refine x_iinc d11_tapeSteps_72 5 rfl rfl (by decide) (L' := [(4, .int (v4 + Int32.ofInt (1))), (5, .int ((xm_gi M (b + 174) (Int32.toNatClampNeg v1)) + ((3 : Int32) * v4))), (0, .ref (b + 154)), (1, .int v1), (2, .int v2), (3, .int v3)]) rfl ?_
    refine x_goto d11_tapeSteps_75 (t := 20) (by decide) ?_
    exact xm_X.sub [2, 3, 4, 5, 0] rfl (h hS)
set_option maxRecDepth 20000 in
theorem t11_tapeSteps_99 {l : Launch} {E : xm_E} {b : Nat} {c p : Bool} {Q : Option Value → xm_M → Prop} (M : xm_M) (v1 : Int32) (v3 : Int32) (v4 : Int32) (hS : xm_st b c p M)
  (h : ((v3 ≤ v4 → (xm_st b c p M → Q none M)) ∧ (¬ v3 ≤ v4 → (xm_st b c p M → xm_X l E y11_tapeSteps rm11_tapeSteps Q 108 [(0, .ref (b + 154)), (1, .int v1), (3, .int v3), (4, .int v4), (5, .int (0 : Int32))] [] 0 0 M)))) :
  xm_X l E y11_tapeSteps rm11_tapeSteps Q 99 [(0, .ref (b + 154)), (1, .int v1), (3, .int v3), (4, .int v4)] [] 0 0 M := by
  refine x_iload d11_tapeSteps_99 3 rfl ?_
  refine x_iload_n d11_tapeSteps_101 2 rfl rfl ?_
  refine x_icmp_ge d11_tapeSteps_102 (t := 242) (by decide) (fun g => ?_) (fun g => ?_)
  · have h := h.1 g
    exact x_ret (r := none) d11_tapeSteps_242 xm_rN rfl ⟨Nat.le_refl _, Nat.le_refl _⟩ (h hS)
  · have h := h.2 g
    refine x_iconst d11_tapeSteps_105 qi_0 ?_
    refine x_istore d11_tapeSteps_106 (by decide) (L' := [(5, .int (0 : Int32)), (0, .ref (b + 154)), (1, .int v1), (3, .int v3), (4, .int v4)]) rfl ?_
    exact xm_X.sub [1, 2, 3, 4, 0] rfl (h hS)
set_option maxRecDepth 20000 in
theorem t11_tapeSteps_108 {l : Launch} {E : xm_E} {b : Nat} {c p : Bool} {Q : Option Value → xm_M → Prop} (M : xm_M) (v1 : Int32) (v3 : Int32) (v4 : Int32) (v5 : Int32) (hS : xm_st b c p M)
  (h : ((v3 ≤ v5 → (xm_st b c p M → xm_X l E y11_tapeSteps rm11_tapeSteps Q 99 [(0, .ref (b + 154)), (1, .int v1), (3, .int v3), (4, .int (v4 + Int32.ofInt (1)))] [] 0 0 M)) ∧ (¬ v3 ≤ v5 → (vp_in v1 48 ∧ (vp_in v1 48 ∧ (vp_in ((xm_gi M (b + 174) (Int32.toNatClampNeg v1)) + ((3 : Int32) * v4)) 20000 ∧ (vp_in (((xm_gi M (b + 174) (Int32.toNatClampNeg v1)) + ((3 : Int32) * v4)) + (1 : Int32)) 20000 ∧ (vp_in ((xm_gi M (b + 174) (Int32.toNatClampNeg v1)) + ((3 : Int32) * v5)) 20000 ∧ (vp_in (((xm_gi M (b + 174) (Int32.toNatClampNeg v1)) + ((3 : Int32) * v5)) + (1 : Int32)) 20000 ∧ xm_C l E y11_isSum rm11_isSum [.ref (b + 154), .int v1, .int (xm_gi M (b + 160) (Int32.toNatClampNeg ((xm_gi M (b + 174) (Int32.toNatClampNeg v1)) + ((3 : Int32) * v4)))), .int (xm_gi M (b + 160) (Int32.toNatClampNeg (((xm_gi M (b + 174) (Int32.toNatClampNeg v1)) + ((3 : Int32) * v4)) + (1 : Int32)))), .int (xm_gi M (b + 160) (Int32.toNatClampNeg ((xm_gi M (b + 174) (Int32.toNatClampNeg v1)) + ((3 : Int32) * v5)))), .int (xm_gi M (b + 160) (Int32.toNatClampNeg (((xm_gi M (b + 174) (Int32.toNatClampNeg v1)) + ((3 : Int32) * v5)) + (1 : Int32))))] M (fun r M7 => ∃ r8 : Bool, r = some (.int (xz r8)) ∧ xm_st b c p M7 ∧ (((xz r8) = 0 → (xm_st b c p M7 → xm_X l E y11_tapeSteps rm11_tapeSteps Q 108 [(0, .ref (b + 154)), (1, .int v1), (3, .int v3), (4, .int v4), (5, .int (v5 + Int32.ofInt (1)))] [] 0 0 M7)) ∧ (¬ (xz r8) = 0 → (vp_in ((xm_gi M (b + 174) (Int32.toNatClampNeg v1)) + ((3 : Int32) * v4)) 20000 ∧ (vp_in (((xm_gi M (b + 174) (Int32.toNatClampNeg v1)) + ((3 : Int32) * v4)) + (1 : Int32)) 20000 ∧ (vp_in (((xm_gi M (b + 174) (Int32.toNatClampNeg v1)) + ((3 : Int32) * v4)) + (2 : Int32)) 20000 ∧ (vp_in (((xm_gi M (b + 174) (Int32.toNatClampNeg v1)) + ((3 : Int32) * v5)) + (2 : Int32)) 20000 ∧ xm_C l E y11_step rm11_step [.ref (b + 154), .int ((v3 + (v3 * v4)) + v5), .int (xm_gi M7 (b + 160) (Int32.toNatClampNeg ((xm_gi M (b + 174) (Int32.toNatClampNeg v1)) + ((3 : Int32) * v4)))), .int (xm_gi M7 (b + 160) (Int32.toNatClampNeg (((xm_gi M (b + 174) (Int32.toNatClampNeg v1)) + ((3 : Int32) * v4)) + (1 : Int32)))), .long ((Int32.toInt64 (xm_gi M7 (b + 160) (Int32.toNatClampNeg (((xm_gi M (b + 174) (Int32.toNatClampNeg v1)) + ((3 : Int32) * v4)) + (2 : Int32))))) + (Int32.toInt64 (xm_gi M7 (b + 160) (Int32.toNatClampNeg (((xm_gi M (b + 174) (Int32.toNatClampNeg v1)) + ((3 : Int32) * v5)) + (2 : Int32))))))] M7 (fun r M13 => r = none ∧ xm_st b c p M13 ∧ (xm_st b c p M13 → xm_X l E y11_tapeSteps rm11_tapeSteps Q 108 [(0, .ref (b + 154)), (1, .int v1), (3, .int v3), (4, .int v4), (5, .int (v5 + Int32.ofInt (1)))] [] 0 0 M13)))))))))))))))))) :
  xm_X l E y11_tapeSteps rm11_tapeSteps Q 108 [(0, .ref (b + 154)), (1, .int v1), (3, .int v3), (4, .int v4), (5, .int v5)] [] 0 0 M := by
  refine x_iload d11_tapeSteps_108 4 rfl ?_
  refine x_iload_n d11_tapeSteps_110 2 rfl rfl ?_
  refine x_icmp_ge d11_tapeSteps_111 (t := 236) (by decide) (fun g => ?_) (fun g => ?_)
  · have h := h.1 g
    refine x_iinc d11_tapeSteps_236 3 rfl rfl (by decide) (L' := [(4, .int (v4 + Int32.ofInt (1))), (0, .ref (b + 154)), (1, .int v1), (3, .int v3), (5, .int v5)]) rfl ?_
    refine x_goto d11_tapeSteps_239 (t := 99) (by decide) ?_
    exact xm_X.sub [1, 2, 3, 0] rfl (h hS)
  · have h := h.2 g
    refine x_aload_n d11_tapeSteps_114 0 rfl rfl ?_
    refine x_getR d11_tapeSteps_115 fl11_74 (fun _ _ => rfl) (hS.1 _ _ (sh_154 b)) (hS.2.1 _ _ _ (pt_154_32 b)) ?_
    refine x_iload_n d11_tapeSteps_118 1 rfl rfl ?_
    obtain ⟨g1, h⟩ := h
    refine x_iald d11_tapeSteps_119 (hS.1 _ _ (sh_174 b)) g1 ?_
    refine x_iconst d11_tapeSteps_120 qi_3 ?_
    refine x_iload d11_tapeSteps_121 3 rfl ?_
    refine x_imul d11_tapeSteps_123 ?_
    refine x_iadd d11_tapeSteps_124 ?_
    refine x_istore d11_tapeSteps_125 (by decide) (L' := [(6, .int ((xm_gi M (b + 174) (Int32.toNatClampNeg v1)) + ((3 : Int32) * v4))), (0, .ref (b + 154)), (1, .int v1), (3, .int v3), (4, .int v4), (5, .int v5)]) rfl ?_
    refine x_aload_n d11_tapeSteps_127 1 rfl rfl ?_
    refine x_getR d11_tapeSteps_128 fl11_74 (fun _ _ => rfl) (hS.1 _ _ (sh_154 b)) (hS.2.1 _ _ _ (pt_154_32 b)) ?_
    refine x_iload_n d11_tapeSteps_131 2 rfl rfl ?_
    obtain ⟨g2, h⟩ := h
    refine x_iald d11_tapeSteps_132 (hS.1 _ _ (sh_174 b)) g2 ?_
    refine x_iconst d11_tapeSteps_133 qi_3 ?_
    refine x_iload d11_tapeSteps_134 5 rfl ?_
    refine x_imul d11_tapeSteps_136 ?_
    refine x_iadd d11_tapeSteps_137 ?_
    refine x_istore d11_tapeSteps_138 (by decide) (L' := [(7, .int ((xm_gi M (b + 174) (Int32.toNatClampNeg v1)) + ((3 : Int32) * v5))), (6, .int ((xm_gi M (b + 174) (Int32.toNatClampNeg v1)) + ((3 : Int32) * v4))), (0, .ref (b + 154)), (1, .int v1), (3, .int v3), (4, .int v4), (5, .int v5)]) rfl ?_
    refine x_aload_n d11_tapeSteps_140 2 rfl rfl ?_
    refine x_iload_n d11_tapeSteps_141 3 rfl rfl ?_
    refine x_aload_n d11_tapeSteps_142 2 rfl rfl ?_
    refine x_getR d11_tapeSteps_143 fl11_25 (fun _ _ => rfl) (hS.1 _ _ (sh_154 b)) (hS.2.1 _ _ _ (pt_154_7 b)) ?_
    refine x_iload d11_tapeSteps_146 1 rfl ?_
    obtain ⟨g3, h⟩ := h
    refine x_iald d11_tapeSteps_148 (hS.1 _ _ (sh_160 b)) g3 ?_
    refine x_aload_n d11_tapeSteps_149 2 rfl rfl ?_
    refine x_getR d11_tapeSteps_150 fl11_25 (fun _ _ => rfl) (hS.1 _ _ (sh_154 b)) (hS.2.1 _ _ _ (pt_154_7 b)) ?_
    refine x_iload d11_tapeSteps_153 1 rfl ?_
    refine x_iconst d11_tapeSteps_155 qi_1 ?_
    refine x_iadd d11_tapeSteps_156 ?_
    obtain ⟨g4, h⟩ := h
    refine x_iald d11_tapeSteps_157 (hS.1 _ _ (sh_160 b)) g4 ?_
    refine x_aload_n d11_tapeSteps_158 2 rfl rfl ?_
    refine x_getR d11_tapeSteps_159 fl11_25 (fun _ _ => rfl) (hS.1 _ _ (sh_154 b)) (hS.2.1 _ _ _ (pt_154_7 b)) ?_
    refine x_iload d11_tapeSteps_162 0 rfl ?_
    obtain ⟨g5, h⟩ := h
    refine x_iald d11_tapeSteps_164 (hS.1 _ _ (sh_160 b)) g5 ?_
    refine x_aload_n d11_tapeSteps_165 2 rfl rfl ?_
    refine x_getR d11_tapeSteps_166 fl11_25 (fun _ _ => rfl) (hS.1 _ _ (sh_154 b)) (hS.2.1 _ _ _ (pt_154_7 b)) ?_
    refine x_iload d11_tapeSteps_169 0 rfl ?_
    refine x_iconst d11_tapeSteps_171 qi_1 ?_
    refine x_iadd d11_tapeSteps_172 ?_
    obtain ⟨g6, h⟩ := h
    refine x_iald d11_tapeSteps_173 (hS.1 _ _ (sh_160 b)) g6 ?_
    refine x_cVZ (Z := y11_isSum) (S := rm11_isSum) (As := [.int v1, .int (xm_gi M (b + 160) (Int32.toNatClampNeg ((xm_gi M (b + 174) (Int32.toNatClampNeg v1)) + ((3 : Int32) * v4)))), .int (xm_gi M (b + 160) (Int32.toNatClampNeg (((xm_gi M (b + 174) (Int32.toNatClampNeg v1)) + ((3 : Int32) * v4)) + (1 : Int32)))), .int (xm_gi M (b + 160) (Int32.toNatClampNeg ((xm_gi M (b + 174) (Int32.toNatClampNeg v1)) + ((3 : Int32) * v5)))), .int (xm_gi M (b + 160) (Int32.toNatClampNeg (((xm_gi M (b + 174) (Int32.toNatClampNeg v1)) + ((3 : Int32) * v5)) + (1 : Int32))))]) (rest := []) d11_tapeSteps_174 ml11_144 k11_isSum rfl (b := (b + 154)) (hS.1 _ _ (sh_154 b)) rfl rfl (Nat.le_of_ble_eq_true rfl) ⟨⟨by decide, by decide⟩, by decide, by decide⟩ ⟨rfl, rfl⟩ h (fun r8 M7 h => ?_)
    obtain ⟨hS, h⟩ := h
    refine x_if_eq d11_tapeSteps_177 (t := 230) (by decide) (fun g => ?_) (fun g => ?_)
    · have h := h.1 g
      refine x_iinc d11_tapeSteps_230 6 rfl rfl (by decide) (L' := [(5, .int (v5 + Int32.ofInt (1))), (7, .int ((xm_gi M (b + 174) (Int32.toNatClampNeg v1)) + ((3 : Int32) * v5))), (6, .int ((xm_gi M (b + 174) (Int32.toNatClampNeg v1)) + ((3 : Int32) * v4))), (0, .ref (b + 154)), (1, .int v1), (3, .int v3), (4, .int v4)]) rfl ?_
      refine x_goto d11_tapeSteps_233 (t := 108) (by decide) ?_
      exact xm_X.sub [3, 4, 5, 6, 0] rfl (h hS)
    · have h := h.2 g
      refine x_aload_n d11_tapeSteps_180 2 rfl rfl ?_
      refine x_iload_n d11_tapeSteps_181 4 rfl rfl ?_
      refine x_iload_n d11_tapeSteps_182 4 rfl rfl ?_
      refine x_iload d11_tapeSteps_183 5 rfl ?_
      refine x_imul d11_tapeSteps_185 ?_
      refine x_iadd d11_tapeSteps_186 ?_
      refine x_iload d11_tapeSteps_187 6 rfl ?_
      refine x_iadd d11_tapeSteps_189 ?_
      refine x_aload_n d11_tapeSteps_190 2 rfl rfl ?_
      refine x_getR d11_tapeSteps_191 fl11_25 (fun _ _ => rfl) (hS.1 _ _ (sh_154 b)) (hS.2.1 _ _ _ (pt_154_7 b)) ?_
      refine x_iload d11_tapeSteps_194 1 rfl ?_
      obtain ⟨g9, h⟩ := h
      refine x_iald d11_tapeSteps_196 (hS.1 _ _ (sh_160 b)) g9 ?_
      refine x_aload_n d11_tapeSteps_197 2 rfl rfl ?_
      refine x_getR d11_tapeSteps_198 fl11_25 (fun _ _ => rfl) (hS.1 _ _ (sh_154 b)) (hS.2.1 _ _ _ (pt_154_7 b)) ?_
      refine x_iload d11_tapeSteps_201 1 rfl ?_
      refine x_iconst d11_tapeSteps_203 qi_1 ?_
      refine x_iadd d11_tapeSteps_204 ?_
      obtain ⟨g10, h⟩ := h
      refine x_iald d11_tapeSteps_205 (hS.1 _ _ (sh_160 b)) g10 ?_
      refine x_aload_n d11_tapeSteps_206 2 rfl rfl ?_
      refine x_getR d11_tapeSteps_207 fl11_25 (fun _ _ => rfl) (hS.1 _ _ (sh_154 b)) (hS.2.1 _ _ _ (pt_154_7 b)) ?_
      refine x_iload d11_tapeSteps_210 1 rfl ?_
      refine x_iconst d11_tapeSteps_212 qi_2 ?_
      refine x_iadd d11_tapeSteps_213 ?_
      obtain ⟨g11, h⟩ := h
      refine x_iald d11_tapeSteps_214 (hS.1 _ _ (sh_160 b)) g11 ?_
      refine x_i2l d11_tapeSteps_215 ?_
      refine x_aload_n d11_tapeSteps_216 2 rfl rfl ?_
      refine x_getR d11_tapeSteps_217 fl11_25 (fun _ _ => rfl) (hS.1 _ _ (sh_154 b)) (hS.2.1 _ _ _ (pt_154_7 b)) ?_
      refine x_iload d11_tapeSteps_220 0 rfl ?_
      refine x_iconst d11_tapeSteps_222 qi_2 ?_
      refine x_iadd d11_tapeSteps_223 ?_
      obtain ⟨g12, h⟩ := h
      refine x_iald d11_tapeSteps_224 (hS.1 _ _ (sh_160 b)) g12 ?_
      refine x_i2l d11_tapeSteps_225 ?_
      refine x_ladd d11_tapeSteps_226 ?_
      refine x_cVN (Z := y11_step) (S := rm11_step) (As := [.int ((v3 + (v3 * v4)) + v5), .int (xm_gi M7 (b + 160) (Int32.toNatClampNeg ((xm_gi M (b + 174) (Int32.toNatClampNeg v1)) + ((3 : Int32) * v4)))), .int (xm_gi M7 (b + 160) (Int32.toNatClampNeg (((xm_gi M (b + 174) (Int32.toNatClampNeg v1)) + ((3 : Int32) * v4)) + (1 : Int32)))), .long ((Int32.toInt64 (xm_gi M7 (b + 160) (Int32.toNatClampNeg (((xm_gi M (b + 174) (Int32.toNatClampNeg v1)) + ((3 : Int32) * v4)) + (2 : Int32))))) + (Int32.toInt64 (xm_gi M7 (b + 160) (Int32.toNatClampNeg (((xm_gi M (b + 174) (Int32.toNatClampNeg v1)) + ((3 : Int32) * v5)) + (2 : Int32))))))]) (rest := []) d11_tapeSteps_227 ml11_107 k11_step rfl (b := (b + 154)) (hS.1 _ _ (sh_154 b)) rfl rfl (Nat.le_of_ble_eq_true rfl) ⟨⟨by decide, by decide⟩, by decide, by decide⟩ ⟨rfl, rfl⟩ h (fun M13 h => ?_)
      obtain ⟨hS, h⟩ := h
      refine x_iinc d11_tapeSteps_230 6 rfl rfl (by decide) (L' := [(5, .int (v5 + Int32.ofInt (1))), (7, .int ((xm_gi M (b + 174) (Int32.toNatClampNeg v1)) + ((3 : Int32) * v5))), (6, .int ((xm_gi M (b + 174) (Int32.toNatClampNeg v1)) + ((3 : Int32) * v4))), (0, .ref (b + 154)), (1, .int v1), (3, .int v3), (4, .int v4)]) rfl ?_
      refine x_goto d11_tapeSteps_233 (t := 108) (by decide) ?_
      exact xm_X.sub [3, 4, 5, 6, 0] rfl (h hS)

set_option maxRecDepth 20000 in
theorem t11_place_0 {l : Launch} {E : xm_E} {b : Nat} {c p : Bool} {Q : Option Value → xm_M → Prop} (M : xm_M)  (hS : xm_st b c p M)
  (h : (xm_st b c p M → Q (some (.int (xm_gi M (b + 154) 9))) M)) :
  xm_X l E y11_place rm11_place Q 0 [(0, .ref (b + 154))] [] 0 0 M := by
  refine x_aload_n d11_place_0 0 rfl rfl ?_
  refine x_getI d11_place_1 fl11_28 (fun _ _ => rfl) (hS.1 _ _ (sh_154 b)) ?_
  exact x_ret (r := (some (.int (xm_gi M (b + 154) 9)))) d11_place_4 xm_rI rfl ⟨Nat.le_refl _, Nat.le_refl _⟩ (h hS)

set_option maxRecDepth 20000 in
theorem t11_receive_0 {l : Launch} {E : xm_E} {b : Nat} {c p : Bool} {Q : Option Value → xm_M → Prop} (M : xm_M) (w1 : Int64) (v3 : Int32) (hS : xm_st b c p M)
  (h : ((v3 < (1 : Int32) → (xm_st b c p M → Q (some (.int (-1 : Int32))) M)) ∧ (¬ v3 < (1 : Int32) → ((v3 ≤ (8 : Int32) → ((((xm_gi M (b + 154) 11) + v3) ≤ (1024 : Int32) → (xm_st b c p M → xm_X l E y11_receive rm11_receive Q 33 [(0, .ref (b + 154)), (1, .long w1), (4, .int (v3 - (1 : Int32)))] [] 0 0 M)) ∧ (¬ ((xm_gi M (b + 154) 11) + v3) ≤ (1024 : Int32) → (xm_st b c p M → Q (some (.int (-3 : Int32))) M)))) ∧ (¬ v3 ≤ (8 : Int32) → (xm_st b c p M → Q (some (.int (-1 : Int32))) M)))))) :
  xm_X l E y11_receive rm11_receive Q 0 [(0, .ref (b + 154)), (1, .long w1), (3, .int v3)] [] 0 0 M := by
  refine x_iload_n d11_receive_0 2 rfl rfl ?_
  refine x_iconst d11_receive_1 qi_1 ?_
  refine x_icmp_lt d11_receive_2 (t := 11) (by decide) (fun g => ?_) (fun g => ?_)
  · have h := h.1 g
    refine x_iconst d11_receive_11 qi_n1 ?_
    exact x_ret (r := (some (.int (-1 : Int32)))) d11_receive_12 xm_rI rfl ⟨Nat.le_refl _, Nat.le_refl _⟩ (h hS)
  · have h := h.2 g
    refine x_iload_n d11_receive_5 2 rfl rfl ?_
    refine x_bipush d11_receive_6 qb_8 ?_
    refine x_icmp_le d11_receive_8 (t := 13) (by decide) (fun g => ?_) (fun g => ?_)
    · have h := h.1 g
      refine x_aload_n d11_receive_13 0 rfl rfl ?_
      refine x_getI d11_receive_14 fl11_269 (fun _ _ => rfl) (hS.1 _ _ (sh_154 b)) ?_
      refine x_iload_n d11_receive_17 2 rfl rfl ?_
      refine x_iadd d11_receive_18 ?_
      refine x_sipush d11_receive_19 qs_1024 ?_
      refine x_icmp_le d11_receive_22 (t := 28) (by decide) (fun g => ?_) (fun g => ?_)
      · have h := h.1 g
        refine x_iload_n d11_receive_28 2 rfl rfl ?_
        refine x_iconst d11_receive_29 qi_1 ?_
        refine x_isub d11_receive_30 ?_
        refine x_istore d11_receive_31 (by decide) (L' := [(4, .int (v3 - (1 : Int32))), (0, .ref (b + 154)), (1, .long w1), (3, .int v3)]) rfl ?_
        exact xm_X.sub [1, 2, 0] rfl (h hS)
      · have h := h.2 g
        refine x_bipush d11_receive_25 qb_n3 ?_
        exact x_ret (r := (some (.int (-3 : Int32)))) d11_receive_27 xm_rI rfl ⟨Nat.le_refl _, Nat.le_refl _⟩ (h hS)
    · have h := h.2 g
      refine x_iconst d11_receive_11 qi_n1 ?_
      exact x_ret (r := (some (.int (-1 : Int32)))) d11_receive_12 xm_rI rfl ⟨Nat.le_refl _, Nat.le_refl _⟩ (h hS)
set_option maxRecDepth 20000 in
theorem t11_receive_33 {l : Launch} {E : xm_E} {b : Nat} {c p : Bool} {Q : Option Value → xm_M → Prop} (M : xm_M) (w1 : Int64) (v4 : Int32) (hS : xm_st b c p M)
  (h : ((v4 < 0 → (xm_st b c p M → Q (some (.int (xm_gi M (b + 154) 11))) M)) ∧ (¬ v4 < 0 → (vp_in (xm_gi M (b + 154) 11) 1024 ∧ (xm_st b c p (xm_pi (xm_pi M (b + 161) (Int32.toNatClampNeg (xm_gi M (b + 154) 11)) (Int32.toInt8 ((Int32.toInt8 (Int64.toInt32 (w1 >>> (Int32.toInt64 ((8 : Int32) * v4) &&& 63)))).toInt32)).toInt32) (b + 154) 11 ((xm_gi (xm_pi M (b + 161) (Int32.toNatClampNeg (xm_gi M (b + 154) 11)) (Int32.toInt8 ((Int32.toInt8 (Int64.toInt32 (w1 >>> (Int32.toInt64 ((8 : Int32) * v4) &&& 63)))).toInt32)).toInt32) (b + 154) 11) + (1 : Int32))) → xm_X l E y11_receive rm11_receive Q 33 [(0, .ref (b + 154)), (1, .long w1), (4, .int (v4 + Int32.ofInt (-1)))] [] 0 0 (xm_pi (xm_pi M (b + 161) (Int32.toNatClampNeg (xm_gi M (b + 154) 11)) (Int32.toInt8 ((Int32.toInt8 (Int64.toInt32 (w1 >>> (Int32.toInt64 ((8 : Int32) * v4) &&& 63)))).toInt32)).toInt32) (b + 154) 11 ((xm_gi (xm_pi M (b + 161) (Int32.toNatClampNeg (xm_gi M (b + 154) 11)) (Int32.toInt8 ((Int32.toInt8 (Int64.toInt32 (w1 >>> (Int32.toInt64 ((8 : Int32) * v4) &&& 63)))).toInt32)).toInt32) (b + 154) 11) + (1 : Int32)))))))) :
  xm_X l E y11_receive rm11_receive Q 33 [(0, .ref (b + 154)), (1, .long w1), (4, .int v4)] [] 0 0 M := by
  refine x_iload d11_receive_33 2 rfl ?_
  refine x_if_lt d11_receive_35 (t := 72) (by decide) (fun g => ?_) (fun g => ?_)
  · have h := h.1 g
    refine x_aload_n d11_receive_72 0 rfl rfl ?_
    refine x_getI d11_receive_73 fl11_269 (fun _ _ => rfl) (hS.1 _ _ (sh_154 b)) ?_
    exact x_ret (r := (some (.int (xm_gi M (b + 154) 11)))) d11_receive_76 xm_rI rfl ⟨Nat.le_refl _, Nat.le_refl _⟩ (h hS)
  · have h := h.2 g
    refine x_aload_n d11_receive_38 0 rfl rfl ?_
    refine x_getR d11_receive_39 fl11_32 (fun _ _ => rfl) (hS.1 _ _ (sh_154 b)) (hS.2.1 _ _ _ (pt_154_10 b)) ?_
    refine x_aload_n d11_receive_42 0 rfl rfl ?_
    refine x_getI d11_receive_43 fl11_269 (fun _ _ => rfl) (hS.1 _ _ (sh_154 b)) ?_
    refine x_lload_n d11_receive_46 1 rfl rfl ?_
    refine x_bipush d11_receive_47 qb_8 ?_
    refine x_iload d11_receive_49 2 rfl ?_
    refine x_imul d11_receive_51 ?_
    refine x_lshr d11_receive_52 ?_
    refine x_l2i d11_receive_53 ?_
    refine x_i2b d11_receive_54 ?_
    obtain ⟨g1, h⟩ := h
    refine x_bast d11_receive_55 (hS.1 _ _ (sh_161 b)) g1 ?_
    refine x_aload_n d11_receive_56 0 rfl rfl ?_
    refine x_dup d11_receive_57 rfl ?_
    refine x_getI d11_receive_58 fl11_269 (fun _ _ => rfl) (hS.pi.1 _ _ (sh_154 b)) ?_
    refine x_iconst d11_receive_61 qi_1 ?_
    refine x_iadd d11_receive_62 ?_
    refine x_putI d11_receive_63 fw11_269 (fun _ _ => rfl) rfl rfl (hS.pi.1 _ _ (sh_154 b)) ?_
    refine x_iinc d11_receive_66 2 rfl rfl (by decide) (L' := [(4, .int (v4 + Int32.ofInt (-1))), (0, .ref (b + 154)), (1, .long w1)]) rfl ?_
    refine x_goto d11_receive_69 (t := 33) (by decide) ?_
    exact xm_X.sub [1, 2, 0] rfl (h hS.pi.pi)

set_option maxRecDepth 20000 in
theorem t11_drop_0 {l : Launch} {E : xm_E} {b : Nat} {c p : Bool} {Q : Option Value → xm_M → Prop} (M : xm_M)  (hS : xm_st b c p M)
  (h : (xm_st b c p (xm_pi M (b + 154) 11 (0 : Int32)) → Q (some (.int (xm_gi M (b + 154) 11))) (xm_pi M (b + 154) 11 (0 : Int32)))) :
  xm_X l E y11_drop rm11_drop Q 0 [(0, .ref (b + 154))] [] 0 0 M := by
  refine x_aload_n d11_drop_0 0 rfl rfl ?_
  refine x_getI d11_drop_1 fl11_269 (fun _ _ => rfl) (hS.1 _ _ (sh_154 b)) ?_
  refine x_istore_n d11_drop_4 rfl (by decide) (L' := [(1, .int (xm_gi M (b + 154) 11)), (0, .ref (b + 154))]) rfl ?_
  refine x_aload_n d11_drop_5 1 rfl rfl ?_
  refine x_iconst d11_drop_6 qi_0 ?_
  refine x_putI d11_drop_7 fw11_269 (fun _ _ => rfl) rfl rfl (hS.1 _ _ (sh_154 b)) ?_
  refine x_iload_n d11_drop_10 0 rfl rfl ?_
  exact x_ret (r := (some (.int (xm_gi M (b + 154) 11)))) d11_drop_11 xm_rI rfl ⟨Nat.le_refl _, Nat.le_refl _⟩ (h hS.pi)

set_option maxRecDepth 20000 in
theorem t11_run_0 {l : Launch} {E : xm_E} {b : Nat} {c p : Bool} {Q : Option Value → xm_M → Prop} (M : xm_M)  (hS : xm_st b c p M)
  (h : xm_C l E y11_wrong rm11_wrong [.ref (b + 154)] M (fun r M1 => ∃ r2 : Int32, r = some (.int r2) ∧ xm_st b c p M1 ∧ ((0 ≤ r2 → (xm_st b c p M1 → Q (some (.int (-1 : Int32))) M1)) ∧ (¬ 0 ≤ r2 → (((xm_gi M1 (b + 154) 0) ≤ (xm_gi M1 (b + 154) 11) → (xm_st b c p (xm_pi (xm_pi M1 (b + 154) 12 (0 : Int32)) (b + 154) 13 (0 : Int32)) → xm_X l E y11_run rm11_run Q 32 [(0, .ref (b + 154)), (1, .int (0 : Int32))] [] 0 0 (xm_pi (xm_pi M1 (b + 154) 12 (0 : Int32)) (b + 154) 13 (0 : Int32)))) ∧ (¬ (xm_gi M1 (b + 154) 0) ≤ (xm_gi M1 (b + 154) 11) → (xm_st b c p M1 → Q (some (.int (-1 : Int32))) M1))))))) :
  xm_X l E y11_run rm11_run Q 0 [(0, .ref (b + 154))] [] 0 0 M := by
  refine x_aload_n d11_run_0 0 rfl rfl ?_
  refine x_cVI (Z := y11_wrong) (S := rm11_wrong) (As := []) (rest := []) d11_run_1 ml11_220 k11_wrong rfl (b := (b + 154)) (hS.1 _ _ (sh_154 b)) rfl rfl (Nat.le_of_ble_eq_true rfl) ⟨⟨by decide, by decide⟩, by decide, by decide⟩ ⟨rfl, rfl⟩ h (fun r2 M1 h => ?_)
  obtain ⟨hS, h⟩ := h
  refine x_if_ge d11_run_4 (t := 18) (by decide) (fun g => ?_) (fun g => ?_)
  · have h := h.1 g
    refine x_iconst d11_run_18 qi_n1 ?_
    exact x_ret (r := (some (.int (-1 : Int32)))) d11_run_19 xm_rI rfl ⟨Nat.le_refl _, Nat.le_refl _⟩ (h hS)
  · have h := h.2 g
    refine x_aload_n d11_run_7 0 rfl rfl ?_
    refine x_getI d11_run_8 fl11_269 (fun _ _ => rfl) (hS.1 _ _ (sh_154 b)) ?_
    refine x_aload_n d11_run_11 0 rfl rfl ?_
    refine x_getI d11_run_12 fl11_86 (fun _ _ => rfl) (hS.1 _ _ (sh_154 b)) ?_
    refine x_icmp_ge d11_run_15 (t := 20) (by decide) (fun g => ?_) (fun g => ?_)
    · have h := h.1 g
      refine x_aload_n d11_run_20 0 rfl rfl ?_
      refine x_iconst d11_run_21 qi_0 ?_
      refine x_putI d11_run_22 fw11_272 (fun _ _ => rfl) rfl rfl (hS.1 _ _ (sh_154 b)) ?_
      refine x_aload_n d11_run_25 0 rfl rfl ?_
      refine x_iconst d11_run_26 qi_0 ?_
      refine x_putI d11_run_27 fw11_275 (fun _ _ => rfl) rfl rfl (hS.pi.1 _ _ (sh_154 b)) ?_
      refine x_iconst d11_run_30 qi_0 ?_
      refine x_istore_n d11_run_31 rfl (by decide) (L' := [(1, .int (0 : Int32)), (0, .ref (b + 154))]) rfl ?_
      exact xm_X.sub [1, 0] rfl (h hS.pi.pi)
    · have h := h.2 g
      refine x_iconst d11_run_18 qi_n1 ?_
      exact x_ret (r := (some (.int (-1 : Int32)))) d11_run_19 xm_rI rfl ⟨Nat.le_refl _, Nat.le_refl _⟩ (h hS)
set_option maxRecDepth 20000 in
theorem t11_run_32 {l : Launch} {E : xm_E} {b : Nat} {c p : Bool} {Q : Option Value → xm_M → Prop} (M : xm_M) (v1 : Int32) (hS : xm_st b c p M)
  (h : (((8 : Int32) ≤ v1 → (xm_st b c p M → xm_X l E y11_run rm11_run Q 65 [(0, .ref (b + 154)), (1, .int (0 : Int32))] [] 0 0 M)) ∧ (¬ (8 : Int32) ≤ v1 → ((¬ v1 = (1 : Int32) → (vp_in v1 8 ∧ (xm_st b c p (xm_pi M (b + 176) (Int32.toNatClampNeg v1) (0 : Int32)) → xm_X l E y11_run rm11_run Q 32 [(0, .ref (b + 154)), (1, .int (v1 + Int32.ofInt (1)))] [] 0 0 (xm_pi M (b + 176) (Int32.toNatClampNeg v1) (0 : Int32))))) ∧ (v1 = (1 : Int32) → (vp_in v1 8 ∧ (xm_st b c p (xm_pi M (b + 176) (Int32.toNatClampNeg v1) (xm_gi M (b + 154) 11)) → xm_X l E y11_run rm11_run Q 32 [(0, .ref (b + 154)), (1, .int (v1 + Int32.ofInt (1)))] [] 0 0 (xm_pi M (b + 176) (Int32.toNatClampNeg v1) (xm_gi M (b + 154) 11))))))))) :
  xm_X l E y11_run rm11_run Q 32 [(0, .ref (b + 154)), (1, .int v1)] [] 0 0 M := by
  refine x_iload_n d11_run_32 1 rfl rfl ?_
  refine x_bipush d11_run_33 qb_8 ?_
  refine x_icmp_ge d11_run_35 (t := 63) (by decide) (fun g => ?_) (fun g => ?_)
  · have h := h.1 g
    refine x_iconst d11_run_63 qi_0 ?_
    refine x_istore_n d11_run_64 rfl (by decide) (L' := [(1, .int (0 : Int32)), (0, .ref (b + 154))]) rfl ?_
    exact xm_X.sub [1, 0] rfl (h hS)
  · have h := h.2 g
    refine x_aload_n d11_run_38 0 rfl rfl ?_
    refine x_getR d11_run_39 fl11_80 (fun _ _ => rfl) (hS.1 _ _ (sh_154 b)) (hS.2.1 _ _ _ (pt_154_34 b)) ?_
    refine x_iload_n d11_run_42 1 rfl rfl ?_
    refine x_iload_n d11_run_43 1 rfl rfl ?_
    refine x_iconst d11_run_44 qi_1 ?_
    refine x_icmp_ne d11_run_45 (t := 55) (by decide) (fun g => ?_) (fun g => ?_)
    · have h := h.1 g
      refine x_iconst d11_run_55 qi_0 ?_
      obtain ⟨g1, h⟩ := h
      refine x_iast d11_run_56 (hS.1 _ _ (sh_176 b)) g1 ?_
      refine x_iinc d11_run_57 1 rfl rfl (by decide) (L' := [(1, .int (v1 + Int32.ofInt (1))), (0, .ref (b + 154))]) rfl ?_
      refine x_goto d11_run_60 (t := 32) (by decide) ?_
      exact xm_X.sub [1, 0] rfl (h hS.pi)
    · have h := h.2 g
      refine x_aload_n d11_run_48 0 rfl rfl ?_
      refine x_getI d11_run_49 fl11_269 (fun _ _ => rfl) (hS.1 _ _ (sh_154 b)) ?_
      refine x_goto d11_run_52 (t := 56) (by decide) ?_
      obtain ⟨g2, h⟩ := h
      refine x_iast d11_run_56 (hS.1 _ _ (sh_176 b)) g2 ?_
      refine x_iinc d11_run_57 1 rfl rfl (by decide) (L' := [(1, .int (v1 + Int32.ofInt (1))), (0, .ref (b + 154))]) rfl ?_
      refine x_goto d11_run_60 (t := 32) (by decide) ?_
      exact xm_X.sub [1, 0] rfl (h hS.pi)
set_option maxRecDepth 20000 in
theorem t11_run_65 {l : Launch} {E : xm_E} {b : Nat} {c p : Bool} {Q : Option Value → xm_M → Prop} (M : xm_M) (v1 : Int32) (hS : xm_st b c p M)
  (h : (((32 : Int32) ≤ v1 → (xm_st b c p M → xm_X l E y11_run rm11_run Q 88 [(0, .ref (b + 154)), (1, .int (0 : Int32)), (2, .int (0 : Int32))] [] 0 0 M)) ∧ (¬ (32 : Int32) ≤ v1 → (vp_in v1 32 ∧ (xm_st b c p (xm_pi M (b + 177) (Int32.toNatClampNeg v1) (0 : Int32)) → xm_X l E y11_run rm11_run Q 65 [(0, .ref (b + 154)), (1, .int (v1 + Int32.ofInt (1)))] [] 0 0 (xm_pi M (b + 177) (Int32.toNatClampNeg v1) (0 : Int32))))))) :
  xm_X l E y11_run rm11_run Q 65 [(0, .ref (b + 154)), (1, .int v1)] [] 0 0 M := by
  refine x_iload_n d11_run_65 1 rfl rfl ?_
  refine x_bipush d11_run_66 qb_32 ?_
  refine x_icmp_ge d11_run_68 (t := 84) (by decide) (fun g => ?_) (fun g => ?_)
  · have h := h.1 g
    refine x_iconst d11_run_84 qi_0 ?_
    refine x_istore_n d11_run_85 rfl (by decide) (L' := [(1, .int (0 : Int32)), (0, .ref (b + 154))]) rfl ?_
    refine x_iconst d11_run_86 qi_0 ?_
    refine x_istore_n d11_run_87 rfl (by decide) (L' := [(2, .int (0 : Int32)), (1, .int (0 : Int32)), (0, .ref (b + 154))]) rfl ?_
    exact xm_X.sub [2, 1, 0] rfl (h hS)
  · have h := h.2 g
    refine x_aload_n d11_run_71 0 rfl rfl ?_
    refine x_getR d11_run_72 fl11_83 (fun _ _ => rfl) (hS.1 _ _ (sh_154 b)) (hS.2.1 _ _ _ (pt_154_35 b)) ?_
    refine x_iload_n d11_run_75 1 rfl rfl ?_
    refine x_iconst d11_run_76 qi_0 ?_
    obtain ⟨g1, h⟩ := h
    refine x_iast d11_run_77 (hS.1 _ _ (sh_177 b)) g1 ?_
    refine x_iinc d11_run_78 1 rfl rfl (by decide) (L' := [(1, .int (v1 + Int32.ofInt (1))), (0, .ref (b + 154))]) rfl ?_
    refine x_goto d11_run_81 (t := 65) (by decide) ?_
    exact xm_X.sub [1, 0] rfl (h hS.pi)
set_option maxRecDepth 20000 in
theorem t11_run_88 {l : Launch} {E : xm_E} {b : Nat} {c p : Bool} {Q : Option Value → xm_M → Prop} (M : xm_M) (v1 : Int32) (v2 : Int32) (hS : xm_st b c p M)
  (h : ((¬ v2 = 0 → ((v2 = 0 → (vp_in v1 48 ∧ (vp_in (xm_gi (xm_pi M (b + 154) 13 ((xm_gi M (b + 154) 13) + (1 : Int32))) (b + 156) (Int32.toNatClampNeg v1)) 8 ∧ (xm_st b c p (xm_pi (xm_pi M (b + 154) 13 ((xm_gi M (b + 154) 13) + (1 : Int32))) (b + 154) 12 (xm_gi (xm_pi M (b + 154) 13 ((xm_gi M (b + 154) 13) + (1 : Int32))) (b + 176) (Int32.toNatClampNeg (xm_gi (xm_pi M (b + 154) 13 ((xm_gi M (b + 154) 13) + (1 : Int32))) (b + 156) (Int32.toNatClampNeg v1))))) → Q (some (.int (0 : Int32))) (xm_pi (xm_pi M (b + 154) 13 ((xm_gi M (b + 154) 13) + (1 : Int32))) (b + 154) 12 (xm_gi (xm_pi M (b + 154) 13 ((xm_gi M (b + 154) 13) + (1 : Int32))) (b + 176) (Int32.toNatClampNeg (xm_gi (xm_pi M (b + 154) 13 ((xm_gi M (b + 154) 13) + (1 : Int32))) (b + 156) (Int32.toNatClampNeg v1))))))))) ∧ (¬ v2 = 0 → (xm_st b c p M → Q (some (.int v2)) M)))) ∧ (v2 = 0 → (vp_in v1 48 ∧ (((xm_gi M (b + 155) (Int32.toNatClampNeg v1)) = 0 → ((v2 = 0 → (vp_in v1 48 ∧ (vp_in (xm_gi (xm_pi M (b + 154) 13 ((xm_gi M (b + 154) 13) + (1 : Int32))) (b + 156) (Int32.toNatClampNeg v1)) 8 ∧ (xm_st b c p (xm_pi (xm_pi M (b + 154) 13 ((xm_gi M (b + 154) 13) + (1 : Int32))) (b + 154) 12 (xm_gi (xm_pi M (b + 154) 13 ((xm_gi M (b + 154) 13) + (1 : Int32))) (b + 176) (Int32.toNatClampNeg (xm_gi (xm_pi M (b + 154) 13 ((xm_gi M (b + 154) 13) + (1 : Int32))) (b + 156) (Int32.toNatClampNeg v1))))) → Q (some (.int (0 : Int32))) (xm_pi (xm_pi M (b + 154) 13 ((xm_gi M (b + 154) 13) + (1 : Int32))) (b + 154) 12 (xm_gi (xm_pi M (b + 154) 13 ((xm_gi M (b + 154) 13) + (1 : Int32))) (b + 176) (Int32.toNatClampNeg (xm_gi (xm_pi M (b + 154) 13 ((xm_gi M (b + 154) 13) + (1 : Int32))) (b + 156) (Int32.toNatClampNeg v1))))))))) ∧ (¬ v2 = 0 → (xm_st b c p M → Q (some (.int v2)) M)))) ∧ (¬ (xm_gi M (b + 155) (Int32.toNatClampNeg v1)) = 0 → xm_C l E y11_one rm11_one [.ref (b + 154), .int v1] (xm_pi M (b + 154) 13 ((xm_gi M (b + 154) 13) + (1 : Int32))) (fun r M6 => ∃ r7 : Int32, r = some (.int r7) ∧ xm_st b c p M6 ∧ (xm_st b c p M6 → xm_X l E y11_run rm11_run Q 88 [(0, .ref (b + 154)), (1, .int (xm_gi M6 (b + 154) 36)), (2, .int r7)] [] 0 0 M6)))))))) :
  xm_X l E y11_run rm11_run Q 88 [(0, .ref (b + 154)), (1, .int v1), (2, .int v2)] [] 0 0 M := by
  refine x_iload_n d11_run_88 2 rfl rfl ?_
  refine x_if_ne d11_run_89 (t := 125) (by decide) (fun g => ?_) (fun g => ?_)
  · have h := h.1 g
    refine x_iload_n d11_run_125 2 rfl rfl ?_
    refine x_if_eq d11_run_126 (t := 131) (by decide) (fun g => ?_) (fun g => ?_)
    · have h := h.1 g
      refine x_aload_n d11_run_131 0 rfl rfl ?_
      refine x_dup d11_run_132 rfl ?_
      refine x_getI d11_run_133 fl11_275 (fun _ _ => rfl) (hS.1 _ _ (sh_154 b)) ?_
      refine x_iconst d11_run_136 qi_1 ?_
      refine x_iadd d11_run_137 ?_
      refine x_putI d11_run_138 fw11_275 (fun _ _ => rfl) rfl rfl (hS.1 _ _ (sh_154 b)) ?_
      refine x_aload_n d11_run_141 0 rfl rfl ?_
      refine x_aload_n d11_run_142 0 rfl rfl ?_
      refine x_getR d11_run_143 fl11_80 (fun _ _ => rfl) (hS.pi.1 _ _ (sh_154 b)) (hS.pi.2.1 _ _ _ (pt_154_34 b)) ?_
      refine x_aload_n d11_run_146 0 rfl rfl ?_
      refine x_getR d11_run_147 fl11_13 (fun _ _ => rfl) (hS.pi.1 _ _ (sh_154 b)) (hS.pi.2.1 _ _ _ (pt_154_3 b)) ?_
      refine x_iload_n d11_run_150 1 rfl rfl ?_
      obtain ⟨g1, h⟩ := h
      refine x_iald d11_run_151 (hS.pi.1 _ _ (sh_156 b)) g1 ?_
      obtain ⟨g2, h⟩ := h
      refine x_iald d11_run_152 (hS.pi.1 _ _ (sh_176 b)) g2 ?_
      refine x_putI d11_run_153 fw11_272 (fun _ _ => rfl) rfl rfl (hS.pi.1 _ _ (sh_154 b)) ?_
      refine x_iconst d11_run_156 qi_0 ?_
      exact x_ret (r := (some (.int (0 : Int32)))) d11_run_157 xm_rI rfl ⟨Nat.le_refl _, Nat.le_refl _⟩ (h hS.pi.pi)
    · have h := h.2 g
      refine x_iload_n d11_run_129 2 rfl rfl ?_
      exact x_ret (r := (some (.int v2))) d11_run_130 xm_rI rfl ⟨Nat.le_refl _, Nat.le_refl _⟩ (h hS)
  · have h := h.2 g
    refine x_aload_n d11_run_92 0 rfl rfl ?_
    refine x_getR d11_run_93 fl11_7 (fun _ _ => rfl) (hS.1 _ _ (sh_154 b)) (hS.2.1 _ _ _ (pt_154_2 b)) ?_
    refine x_iload_n d11_run_96 1 rfl rfl ?_
    obtain ⟨g3, h⟩ := h
    refine x_iald d11_run_97 (hS.1 _ _ (sh_155 b)) g3 ?_
    refine x_if_eq d11_run_98 (t := 125) (by decide) (fun g => ?_) (fun g => ?_)
    · have h := h.1 g
      refine x_iload_n d11_run_125 2 rfl rfl ?_
      refine x_if_eq d11_run_126 (t := 131) (by decide) (fun g => ?_) (fun g => ?_)
      · have h := h.1 g
        refine x_aload_n d11_run_131 0 rfl rfl ?_
        refine x_dup d11_run_132 rfl ?_
        refine x_getI d11_run_133 fl11_275 (fun _ _ => rfl) (hS.1 _ _ (sh_154 b)) ?_
        refine x_iconst d11_run_136 qi_1 ?_
        refine x_iadd d11_run_137 ?_
        refine x_putI d11_run_138 fw11_275 (fun _ _ => rfl) rfl rfl (hS.1 _ _ (sh_154 b)) ?_
        refine x_aload_n d11_run_141 0 rfl rfl ?_
        refine x_aload_n d11_run_142 0 rfl rfl ?_
        refine x_getR d11_run_143 fl11_80 (fun _ _ => rfl) (hS.pi.1 _ _ (sh_154 b)) (hS.pi.2.1 _ _ _ (pt_154_34 b)) ?_
        refine x_aload_n d11_run_146 0 rfl rfl ?_
        refine x_getR d11_run_147 fl11_13 (fun _ _ => rfl) (hS.pi.1 _ _ (sh_154 b)) (hS.pi.2.1 _ _ _ (pt_154_3 b)) ?_
        refine x_iload_n d11_run_150 1 rfl rfl ?_
        obtain ⟨g4, h⟩ := h
        refine x_iald d11_run_151 (hS.pi.1 _ _ (sh_156 b)) g4 ?_
        obtain ⟨g5, h⟩ := h
        refine x_iald d11_run_152 (hS.pi.1 _ _ (sh_176 b)) g5 ?_
        refine x_putI d11_run_153 fw11_272 (fun _ _ => rfl) rfl rfl (hS.pi.1 _ _ (sh_154 b)) ?_
        refine x_iconst d11_run_156 qi_0 ?_
        exact x_ret (r := (some (.int (0 : Int32)))) d11_run_157 xm_rI rfl ⟨Nat.le_refl _, Nat.le_refl _⟩ (h hS.pi.pi)
      · have h := h.2 g
        refine x_iload_n d11_run_129 2 rfl rfl ?_
        exact x_ret (r := (some (.int v2))) d11_run_130 xm_rI rfl ⟨Nat.le_refl _, Nat.le_refl _⟩ (h hS)
    · have h := h.2 g
      refine x_aload_n d11_run_101 0 rfl rfl ?_
      refine x_dup d11_run_102 rfl ?_
      refine x_getI d11_run_103 fl11_275 (fun _ _ => rfl) (hS.1 _ _ (sh_154 b)) ?_
      refine x_iconst d11_run_106 qi_1 ?_
      refine x_iadd d11_run_107 ?_
      refine x_putI d11_run_108 fw11_275 (fun _ _ => rfl) rfl rfl (hS.1 _ _ (sh_154 b)) ?_
      refine x_aload_n d11_run_111 0 rfl rfl ?_
      refine x_iload_n d11_run_112 1 rfl rfl ?_
      refine x_cVI (Z := y11_one) (S := rm11_one) (As := [.int v1]) (rest := []) d11_run_113 ml11_278 k11_one rfl (b := (b + 154)) (hS.pi.1 _ _ (sh_154 b)) rfl rfl (Nat.le_of_ble_eq_true rfl) ⟨⟨by decide, by decide⟩, by decide, by decide⟩ ⟨rfl, rfl⟩ h (fun r7 M6 h => ?_)
      obtain ⟨hS, h⟩ := h
      refine x_istore_n d11_run_116 rfl (by decide) (L' := [(2, .int r7), (0, .ref (b + 154)), (1, .int v1)]) rfl ?_
      refine x_aload_n d11_run_117 1 rfl rfl ?_
      refine x_getI d11_run_118 fl11_281 (fun _ _ => rfl) (hS.1 _ _ (sh_154 b)) ?_
      refine x_istore_n d11_run_121 rfl (by decide) (L' := [(1, .int (xm_gi M6 (b + 154) 36)), (2, .int r7), (0, .ref (b + 154))]) rfl ?_
      refine x_goto d11_run_122 (t := 88) (by decide) ?_
      exact xm_X.sub [2, 0, 1] rfl (h hS)

set_option maxRecDepth 20000 in
theorem t11_one_0 {l : Launch} {E : xm_E} {b : Nat} {c p : Bool} {Q : Option Value → xm_M → Prop} (M : xm_M) (v1 : Int32) (hS : xm_st b c p M)
  (h : (∀ M1 : xm_M, M1 = (xm_pi M (b + 154) 36 (v1 + (1 : Int32))) → (vp_in v1 48 ∧ (vp_in (xm_gi M1 (b + 156) (Int32.toNatClampNeg v1)) 8 ∧ (vp_in v1 48 ∧ (vp_in (xm_gi M1 (b + 157) (Int32.toNatClampNeg v1)) 8 ∧ (vp_in v1 48 ∧ (vp_in v1 48 ∧ (xm_st b c p M1 → xm_X l E y11_one rm11_one Q 47 [(0, .ref (b + 154)), (1, .int v1), (2, .int (xm_gi M1 (b + 176) (Int32.toNatClampNeg (xm_gi M1 (b + 156) (Int32.toNatClampNeg v1))))), (3, .int (xm_gi M1 (b + 176) (Int32.toNatClampNeg (xm_gi M1 (b + 157) (Int32.toNatClampNeg v1))))), (4, .int (xm_gi M1 (b + 158) (Int32.toNatClampNeg v1))), (5, .int (xm_gi M1 (b + 155) (Int32.toNatClampNeg v1)))] [] 0 0 M1))))))))) :
  xm_X l E y11_one rm11_one Q 0 [(0, .ref (b + 154)), (1, .int v1)] [] 0 0 M := by
  refine x_aload_n d11_one_0 0 rfl rfl ?_
  refine x_iload_n d11_one_1 1 rfl rfl ?_
  refine x_iconst d11_one_2 qi_1 ?_
  refine x_iadd d11_one_3 ?_
  refine x_putI d11_one_4 fw11_281 (fun _ _ => rfl) rfl rfl (hS.1 _ _ (sh_154 b)) ?_
  refine xm_nm (fun M1 e2 => ?_)
  have h := h M1 e2
  have hS : xm_st b c p M1 := by rw [e2]; exact hS.pi
  refine x_aload_n d11_one_7 0 rfl rfl ?_
  refine x_getR d11_one_8 fl11_80 (fun _ _ => rfl) (hS.1 _ _ (sh_154 b)) (hS.2.1 _ _ _ (pt_154_34 b)) ?_
  refine x_aload_n d11_one_11 0 rfl rfl ?_
  refine x_getR d11_one_12 fl11_13 (fun _ _ => rfl) (hS.1 _ _ (sh_154 b)) (hS.2.1 _ _ _ (pt_154_3 b)) ?_
  refine x_iload_n d11_one_15 1 rfl rfl ?_
  obtain ⟨g3, h⟩ := h
  refine x_iald d11_one_16 (hS.1 _ _ (sh_156 b)) g3 ?_
  obtain ⟨g4, h⟩ := h
  refine x_iald d11_one_17 (hS.1 _ _ (sh_176 b)) g4 ?_
  refine x_istore_n d11_one_18 rfl (by decide) (L' := [(2, .int (xm_gi M1 (b + 176) (Int32.toNatClampNeg (xm_gi M1 (b + 156) (Int32.toNatClampNeg v1))))), (0, .ref (b + 154)), (1, .int v1)]) rfl ?_
  refine x_aload_n d11_one_19 1 rfl rfl ?_
  refine x_getR d11_one_20 fl11_80 (fun _ _ => rfl) (hS.1 _ _ (sh_154 b)) (hS.2.1 _ _ _ (pt_154_34 b)) ?_
  refine x_aload_n d11_one_23 1 rfl rfl ?_
  refine x_getR d11_one_24 fl11_16 (fun _ _ => rfl) (hS.1 _ _ (sh_154 b)) (hS.2.1 _ _ _ (pt_154_4 b)) ?_
  refine x_iload_n d11_one_27 2 rfl rfl ?_
  obtain ⟨g5, h⟩ := h
  refine x_iald d11_one_28 (hS.1 _ _ (sh_157 b)) g5 ?_
  obtain ⟨g6, h⟩ := h
  refine x_iald d11_one_29 (hS.1 _ _ (sh_176 b)) g6 ?_
  refine x_istore_n d11_one_30 rfl (by decide) (L' := [(3, .int (xm_gi M1 (b + 176) (Int32.toNatClampNeg (xm_gi M1 (b + 157) (Int32.toNatClampNeg v1))))), (2, .int (xm_gi M1 (b + 176) (Int32.toNatClampNeg (xm_gi M1 (b + 156) (Int32.toNatClampNeg v1))))), (0, .ref (b + 154)), (1, .int v1)]) rfl ?_
  refine x_aload_n d11_one_31 2 rfl rfl ?_
  refine x_getR d11_one_32 fl11_19 (fun _ _ => rfl) (hS.1 _ _ (sh_154 b)) (hS.2.1 _ _ _ (pt_154_5 b)) ?_
  refine x_iload_n d11_one_35 3 rfl rfl ?_
  obtain ⟨g7, h⟩ := h
  refine x_iald d11_one_36 (hS.1 _ _ (sh_158 b)) g7 ?_
  refine x_istore d11_one_37 (by decide) (L' := [(4, .int (xm_gi M1 (b + 158) (Int32.toNatClampNeg v1))), (3, .int (xm_gi M1 (b + 176) (Int32.toNatClampNeg (xm_gi M1 (b + 157) (Int32.toNatClampNeg v1))))), (2, .int (xm_gi M1 (b + 176) (Int32.toNatClampNeg (xm_gi M1 (b + 156) (Int32.toNatClampNeg v1))))), (0, .ref (b + 154)), (1, .int v1)]) rfl ?_
  refine x_aload_n d11_one_39 3 rfl rfl ?_
  refine x_getR d11_one_40 fl11_7 (fun _ _ => rfl) (hS.1 _ _ (sh_154 b)) (hS.2.1 _ _ _ (pt_154_2 b)) ?_
  refine x_iload_n d11_one_43 4 rfl rfl ?_
  obtain ⟨g8, h⟩ := h
  refine x_iald d11_one_44 (hS.1 _ _ (sh_155 b)) g8 ?_
  refine x_istore d11_one_45 (by decide) (L' := [(5, .int (xm_gi M1 (b + 155) (Int32.toNatClampNeg v1))), (4, .int (xm_gi M1 (b + 158) (Int32.toNatClampNeg v1))), (3, .int (xm_gi M1 (b + 176) (Int32.toNatClampNeg (xm_gi M1 (b + 157) (Int32.toNatClampNeg v1))))), (2, .int (xm_gi M1 (b + 176) (Int32.toNatClampNeg (xm_gi M1 (b + 156) (Int32.toNatClampNeg v1))))), (0, .ref (b + 154)), (1, .int v1)]) rfl ?_
  exact xm_X.sub [4, 5, 3, 2, 1, 0] rfl (h hS)
set_option maxRecDepth 20000 in
theorem t11_one_47 {l : Launch} {E : xm_E} {b : Nat} {c p : Bool} {Q : Option Value → xm_M → Prop} (M : xm_M) (v1 : Int32) (v2 : Int32) (v3 : Int32) (v4 : Int32) (v5 : Int32) (hS : xm_st b c p M)
  (h : ((v5 ≤ (2 : Int32) → ((v5 ≤ (7 : Int32) → ((v5 = (11 : Int32) → ((((Int32.toInt64 v3) + (Int32.toInt64 v4)) < (0 : Int64) → (xm_st b c p M → Q (some (.int (2 : Int32))) M)) ∧ (¬ ((Int32.toInt64 v3) + (Int32.toInt64 v4)) < (0 : Int64) → ((((Int32.toInt64 v3) + (Int32.toInt64 v4)) ≤ (31 : Int64) → ((¬ v5 = (11 : Int32) → (vp_in (Int64.toInt32 ((Int32.toInt64 v3) + (Int32.toInt64 v4))) 32 ∧ (∀ M2 : xm_M, M2 = (xm_pi M (b + 177) (Int32.toNatClampNeg (Int64.toInt32 ((Int32.toInt64 v3) + (Int32.toInt64 v4)))) (v2 &&& (255 : Int32))) → (xm_st b c p M2 → Q (some (.int (0 : Int32))) M2)))) ∧ (v5 = (11 : Int32) → (vp_in v1 48 ∧ (vp_in (Int64.toInt32 ((Int32.toInt64 v3) + (Int32.toInt64 v4))) 32 ∧ (vp_in (xm_gi M (b + 156) (Int32.toNatClampNeg v1)) 8 ∧ (∀ M7 : xm_M, M7 = (xm_pi M (b + 176) (Int32.toNatClampNeg (xm_gi M (b + 156) (Int32.toNatClampNeg v1))) (xm_gi M (b + 177) (Int32.toNatClampNeg (Int64.toInt32 ((Int32.toInt64 v3) + (Int32.toInt64 v4)))))) → (xm_st b c p M7 → Q (some (.int (0 : Int32))) M7)))))))) ∧ (¬ ((Int32.toInt64 v3) + (Int32.toInt64 v4)) ≤ (31 : Int64) → (xm_st b c p M → Q (some (.int (2 : Int32))) M)))))) ∧ (¬ v5 = (11 : Int32) → ((¬ v5 = (12 : Int32) → ((v5 ≤ (12 : Int32) → (vp_in v1 48 ∧ ((¬ v5 = (1 : Int32) → ((¬ v5 = (2 : Int32) → ((¬ v5 = (6 : Int32) → (vp_in (xm_gi M (b + 156) (Int32.toNatClampNeg v1)) 8 ∧ (∀ M11 : xm_M, M11 = (xm_pi M (b + 176) (Int32.toNatClampNeg (xm_gi M (b + 156) (Int32.toNatClampNeg v1))) ((Int32.toUInt32 v2 >>> (Int32.toUInt32 v4 &&& Int32.toUInt32 31)).toInt32)) → (xm_st b c p M11 → Q (some (.int (0 : Int32))) M11)))) ∧ (v5 = (6 : Int32) → (vp_in (xm_gi M (b + 156) (Int32.toNatClampNeg v1)) 8 ∧ (∀ M14 : xm_M, M14 = (xm_pi M (b + 176) (Int32.toNatClampNeg (xm_gi M (b + 156) (Int32.toNatClampNeg v1))) (v2 &&& v4)) → (xm_st b c p M14 → Q (some (.int (0 : Int32))) M14)))))) ∧ (v5 = (2 : Int32) → (vp_in (xm_gi M (b + 156) (Int32.toNatClampNeg v1)) 8 ∧ (∀ M17 : xm_M, M17 = (xm_pi M (b + 176) (Int32.toNatClampNeg (xm_gi M (b + 156) (Int32.toNatClampNeg v1))) v3) → (xm_st b c p M17 → Q (some (.int (0 : Int32))) M17)))))) ∧ (v5 = (1 : Int32) → (vp_in (xm_gi M (b + 156) (Int32.toNatClampNeg v1)) 8 ∧ (∀ M20 : xm_M, M20 = (xm_pi M (b + 176) (Int32.toNatClampNeg (xm_gi M (b + 156) (Int32.toNatClampNeg v1))) v4) → (xm_st b c p M20 → Q (some (.int (0 : Int32))) M20))))))) ∧ (¬ v5 ≤ (12 : Int32) → ((v5 = (13 : Int32) → (xm_st b c p M → xm_X l E y11_one rm11_one Q 376 [(0, .ref (b + 154)), (1, .int v1), (6, .int (1 : Int32))] [] 0 0 M)) ∧ (¬ v5 = (13 : Int32) → ((¬ v5 = (14 : Int32) → ((¬ v5 = (15 : Int32) → ((¬ v5 = (16 : Int32) → (xm_st b c p M → xm_X l E y11_one rm11_one Q 376 [(0, .ref (b + 154)), (1, .int v1), (6, .int (0 : Int32))] [] 0 0 M)) ∧ (v5 = (16 : Int32) → ((¬ v2 = v3 → (xm_st b c p M → xm_X l E y11_one rm11_one Q 376 [(0, .ref (b + 154)), (1, .int v1), (6, .int (0 : Int32))] [] 0 0 M)) ∧ (v2 = v3 → (xm_st b c p M → xm_X l E y11_one rm11_one Q 376 [(0, .ref (b + 154)), (1, .int v1), (6, .int (1 : Int32))] [] 0 0 M)))))) ∧ (v5 = (15 : Int32) → ((v2 < v4 → (xm_st b c p M → xm_X l E y11_one rm11_one Q 376 [(0, .ref (b + 154)), (1, .int v1), (6, .int (1 : Int32))] [] 0 0 M)) ∧ (¬ v2 < v4 → ((¬ v5 = (16 : Int32) → (xm_st b c p M → xm_X l E y11_one rm11_one Q 376 [(0, .ref (b + 154)), (1, .int v1), (6, .int (0 : Int32))] [] 0 0 M)) ∧ (v5 = (16 : Int32) → ((¬ v2 = v3 → (xm_st b c p M → xm_X l E y11_one rm11_one Q 376 [(0, .ref (b + 154)), (1, .int v1), (6, .int (0 : Int32))] [] 0 0 M)) ∧ (v2 = v3 → (xm_st b c p M → xm_X l E y11_one rm11_one Q 376 [(0, .ref (b + 154)), (1, .int v1), (6, .int (1 : Int32))] [] 0 0 M)))))))))) ∧ (v5 = (14 : Int32) → ((v2 < v3 → (xm_st b c p M → xm_X l E y11_one rm11_one Q 376 [(0, .ref (b + 154)), (1, .int v1), (6, .int (1 : Int32))] [] 0 0 M)) ∧ (¬ v2 < v3 → ((¬ v5 = (15 : Int32) → ((¬ v5 = (16 : Int32) → (xm_st b c p M → xm_X l E y11_one rm11_one Q 376 [(0, .ref (b + 154)), (1, .int v1), (6, .int (0 : Int32))] [] 0 0 M)) ∧ (v5 = (16 : Int32) → ((¬ v2 = v3 → (xm_st b c p M → xm_X l E y11_one rm11_one Q 376 [(0, .ref (b + 154)), (1, .int v1), (6, .int (0 : Int32))] [] 0 0 M)) ∧ (v2 = v3 → (xm_st b c p M → xm_X l E y11_one rm11_one Q 376 [(0, .ref (b + 154)), (1, .int v1), (6, .int (1 : Int32))] [] 0 0 M)))))) ∧ (v5 = (15 : Int32) → ((v2 < v4 → (xm_st b c p M → xm_X l E y11_one rm11_one Q 376 [(0, .ref (b + 154)), (1, .int v1), (6, .int (1 : Int32))] [] 0 0 M)) ∧ (¬ v2 < v4 → ((¬ v5 = (16 : Int32) → (xm_st b c p M → xm_X l E y11_one rm11_one Q 376 [(0, .ref (b + 154)), (1, .int v1), (6, .int (0 : Int32))] [] 0 0 M)) ∧ (v5 = (16 : Int32) → ((¬ v2 = v3 → (xm_st b c p M → xm_X l E y11_one rm11_one Q 376 [(0, .ref (b + 154)), (1, .int v1), (6, .int (0 : Int32))] [] 0 0 M)) ∧ (v2 = v3 → (xm_st b c p M → xm_X l E y11_one rm11_one Q 376 [(0, .ref (b + 154)), (1, .int v1), (6, .int (1 : Int32))] [] 0 0 M)))))))))))))))))) ∧ (v5 = (12 : Int32) → ((((Int32.toInt64 v3) + (Int32.toInt64 v4)) < (0 : Int64) → (xm_st b c p M → Q (some (.int (2 : Int32))) M)) ∧ (¬ ((Int32.toInt64 v3) + (Int32.toInt64 v4)) < (0 : Int64) → ((((Int32.toInt64 v3) + (Int32.toInt64 v4)) ≤ (31 : Int64) → ((¬ v5 = (11 : Int32) → (vp_in (Int64.toInt32 ((Int32.toInt64 v3) + (Int32.toInt64 v4))) 32 ∧ (∀ M23 : xm_M, M23 = (xm_pi M (b + 177) (Int32.toNatClampNeg (Int64.toInt32 ((Int32.toInt64 v3) + (Int32.toInt64 v4)))) (v2 &&& (255 : Int32))) → (xm_st b c p M23 → Q (some (.int (0 : Int32))) M23)))) ∧ (v5 = (11 : Int32) → (vp_in v1 48 ∧ (vp_in (Int64.toInt32 ((Int32.toInt64 v3) + (Int32.toInt64 v4))) 32 ∧ (vp_in (xm_gi M (b + 156) (Int32.toNatClampNeg v1)) 8 ∧ (∀ M28 : xm_M, M28 = (xm_pi M (b + 176) (Int32.toNatClampNeg (xm_gi M (b + 156) (Int32.toNatClampNeg v1))) (xm_gi M (b + 177) (Int32.toNatClampNeg (Int64.toInt32 ((Int32.toInt64 v3) + (Int32.toInt64 v4)))))) → (xm_st b c p M28 → Q (some (.int (0 : Int32))) M28)))))))) ∧ (¬ ((Int32.toInt64 v3) + (Int32.toInt64 v4)) ≤ (31 : Int64) → (xm_st b c p M → Q (some (.int (2 : Int32))) M)))))))))) ∧ (¬ v5 ≤ (7 : Int32) → (((11 : Int32) ≤ v5 → ((v5 = (11 : Int32) → ((((Int32.toInt64 v3) + (Int32.toInt64 v4)) < (0 : Int64) → (xm_st b c p M → Q (some (.int (2 : Int32))) M)) ∧ (¬ ((Int32.toInt64 v3) + (Int32.toInt64 v4)) < (0 : Int64) → ((((Int32.toInt64 v3) + (Int32.toInt64 v4)) ≤ (31 : Int64) → ((¬ v5 = (11 : Int32) → (vp_in (Int64.toInt32 ((Int32.toInt64 v3) + (Int32.toInt64 v4))) 32 ∧ (∀ M31 : xm_M, M31 = (xm_pi M (b + 177) (Int32.toNatClampNeg (Int64.toInt32 ((Int32.toInt64 v3) + (Int32.toInt64 v4)))) (v2 &&& (255 : Int32))) → (xm_st b c p M31 → Q (some (.int (0 : Int32))) M31)))) ∧ (v5 = (11 : Int32) → (vp_in v1 48 ∧ (vp_in (Int64.toInt32 ((Int32.toInt64 v3) + (Int32.toInt64 v4))) 32 ∧ (vp_in (xm_gi M (b + 156) (Int32.toNatClampNeg v1)) 8 ∧ (∀ M36 : xm_M, M36 = (xm_pi M (b + 176) (Int32.toNatClampNeg (xm_gi M (b + 156) (Int32.toNatClampNeg v1))) (xm_gi M (b + 177) (Int32.toNatClampNeg (Int64.toInt32 ((Int32.toInt64 v3) + (Int32.toInt64 v4)))))) → (xm_st b c p M36 → Q (some (.int (0 : Int32))) M36)))))))) ∧ (¬ ((Int32.toInt64 v3) + (Int32.toInt64 v4)) ≤ (31 : Int64) → (xm_st b c p M → Q (some (.int (2 : Int32))) M)))))) ∧ (¬ v5 = (11 : Int32) → ((¬ v5 = (12 : Int32) → ((v5 ≤ (12 : Int32) → (vp_in v1 48 ∧ ((¬ v5 = (1 : Int32) → ((¬ v5 = (2 : Int32) → ((¬ v5 = (6 : Int32) → (vp_in (xm_gi M (b + 156) (Int32.toNatClampNeg v1)) 8 ∧ (∀ M40 : xm_M, M40 = (xm_pi M (b + 176) (Int32.toNatClampNeg (xm_gi M (b + 156) (Int32.toNatClampNeg v1))) ((Int32.toUInt32 v2 >>> (Int32.toUInt32 v4 &&& Int32.toUInt32 31)).toInt32)) → (xm_st b c p M40 → Q (some (.int (0 : Int32))) M40)))) ∧ (v5 = (6 : Int32) → (vp_in (xm_gi M (b + 156) (Int32.toNatClampNeg v1)) 8 ∧ (∀ M43 : xm_M, M43 = (xm_pi M (b + 176) (Int32.toNatClampNeg (xm_gi M (b + 156) (Int32.toNatClampNeg v1))) (v2 &&& v4)) → (xm_st b c p M43 → Q (some (.int (0 : Int32))) M43)))))) ∧ (v5 = (2 : Int32) → (vp_in (xm_gi M (b + 156) (Int32.toNatClampNeg v1)) 8 ∧ (∀ M46 : xm_M, M46 = (xm_pi M (b + 176) (Int32.toNatClampNeg (xm_gi M (b + 156) (Int32.toNatClampNeg v1))) v3) → (xm_st b c p M46 → Q (some (.int (0 : Int32))) M46)))))) ∧ (v5 = (1 : Int32) → (vp_in (xm_gi M (b + 156) (Int32.toNatClampNeg v1)) 8 ∧ (∀ M49 : xm_M, M49 = (xm_pi M (b + 176) (Int32.toNatClampNeg (xm_gi M (b + 156) (Int32.toNatClampNeg v1))) v4) → (xm_st b c p M49 → Q (some (.int (0 : Int32))) M49))))))) ∧ (¬ v5 ≤ (12 : Int32) → ((v5 = (13 : Int32) → (xm_st b c p M → xm_X l E y11_one rm11_one Q 376 [(0, .ref (b + 154)), (1, .int v1), (6, .int (1 : Int32))] [] 0 0 M)) ∧ (¬ v5 = (13 : Int32) → ((¬ v5 = (14 : Int32) → ((¬ v5 = (15 : Int32) → ((¬ v5 = (16 : Int32) → (xm_st b c p M → xm_X l E y11_one rm11_one Q 376 [(0, .ref (b + 154)), (1, .int v1), (6, .int (0 : Int32))] [] 0 0 M)) ∧ (v5 = (16 : Int32) → ((¬ v2 = v3 → (xm_st b c p M → xm_X l E y11_one rm11_one Q 376 [(0, .ref (b + 154)), (1, .int v1), (6, .int (0 : Int32))] [] 0 0 M)) ∧ (v2 = v3 → (xm_st b c p M → xm_X l E y11_one rm11_one Q 376 [(0, .ref (b + 154)), (1, .int v1), (6, .int (1 : Int32))] [] 0 0 M)))))) ∧ (v5 = (15 : Int32) → ((v2 < v4 → (xm_st b c p M → xm_X l E y11_one rm11_one Q 376 [(0, .ref (b + 154)), (1, .int v1), (6, .int (1 : Int32))] [] 0 0 M)) ∧ (¬ v2 < v4 → ((¬ v5 = (16 : Int32) → (xm_st b c p M → xm_X l E y11_one rm11_one Q 376 [(0, .ref (b + 154)), (1, .int v1), (6, .int (0 : Int32))] [] 0 0 M)) ∧ (v5 = (16 : Int32) → ((¬ v2 = v3 → (xm_st b c p M → xm_X l E y11_one rm11_one Q 376 [(0, .ref (b + 154)), (1, .int v1), (6, .int (0 : Int32))] [] 0 0 M)) ∧ (v2 = v3 → (xm_st b c p M → xm_X l E y11_one rm11_one Q 376 [(0, .ref (b + 154)), (1, .int v1), (6, .int (1 : Int32))] [] 0 0 M)))))))))) ∧ (v5 = (14 : Int32) → ((v2 < v3 → (xm_st b c p M → xm_X l E y11_one rm11_one Q 376 [(0, .ref (b + 154)), (1, .int v1), (6, .int (1 : Int32))] [] 0 0 M)) ∧ (¬ v2 < v3 → ((¬ v5 = (15 : Int32) → ((¬ v5 = (16 : Int32) → (xm_st b c p M → xm_X l E y11_one rm11_one Q 376 [(0, .ref (b + 154)), (1, .int v1), (6, .int (0 : Int32))] [] 0 0 M)) ∧ (v5 = (16 : Int32) → ((¬ v2 = v3 → (xm_st b c p M → xm_X l E y11_one rm11_one Q 376 [(0, .ref (b + 154)), (1, .int v1), (6, .int (0 : Int32))] [] 0 0 M)) ∧ (v2 = v3 → (xm_st b c p M → xm_X l E y11_one rm11_one Q 376 [(0, .ref (b + 154)), (1, .int v1), (6, .int (1 : Int32))] [] 0 0 M)))))) ∧ (v5 = (15 : Int32) → ((v2 < v4 → (xm_st b c p M → xm_X l E y11_one rm11_one Q 376 [(0, .ref (b + 154)), (1, .int v1), (6, .int (1 : Int32))] [] 0 0 M)) ∧ (¬ v2 < v4 → ((¬ v5 = (16 : Int32) → (xm_st b c p M → xm_X l E y11_one rm11_one Q 376 [(0, .ref (b + 154)), (1, .int v1), (6, .int (0 : Int32))] [] 0 0 M)) ∧ (v5 = (16 : Int32) → ((¬ v2 = v3 → (xm_st b c p M → xm_X l E y11_one rm11_one Q 376 [(0, .ref (b + 154)), (1, .int v1), (6, .int (0 : Int32))] [] 0 0 M)) ∧ (v2 = v3 → (xm_st b c p M → xm_X l E y11_one rm11_one Q 376 [(0, .ref (b + 154)), (1, .int v1), (6, .int (1 : Int32))] [] 0 0 M)))))))))))))))))) ∧ (v5 = (12 : Int32) → ((((Int32.toInt64 v3) + (Int32.toInt64 v4)) < (0 : Int64) → (xm_st b c p M → Q (some (.int (2 : Int32))) M)) ∧ (¬ ((Int32.toInt64 v3) + (Int32.toInt64 v4)) < (0 : Int64) → ((((Int32.toInt64 v3) + (Int32.toInt64 v4)) ≤ (31 : Int64) → ((¬ v5 = (11 : Int32) → (vp_in (Int64.toInt32 ((Int32.toInt64 v3) + (Int32.toInt64 v4))) 32 ∧ (∀ M52 : xm_M, M52 = (xm_pi M (b + 177) (Int32.toNatClampNeg (Int64.toInt32 ((Int32.toInt64 v3) + (Int32.toInt64 v4)))) (v2 &&& (255 : Int32))) → (xm_st b c p M52 → Q (some (.int (0 : Int32))) M52)))) ∧ (v5 = (11 : Int32) → (vp_in v1 48 ∧ (vp_in (Int64.toInt32 ((Int32.toInt64 v3) + (Int32.toInt64 v4))) 32 ∧ (vp_in (xm_gi M (b + 156) (Int32.toNatClampNeg v1)) 8 ∧ (∀ M57 : xm_M, M57 = (xm_pi M (b + 176) (Int32.toNatClampNeg (xm_gi M (b + 156) (Int32.toNatClampNeg v1))) (xm_gi M (b + 177) (Int32.toNatClampNeg (Int64.toInt32 ((Int32.toInt64 v3) + (Int32.toInt64 v4)))))) → (xm_st b c p M57 → Q (some (.int (0 : Int32))) M57)))))))) ∧ (¬ ((Int32.toInt64 v3) + (Int32.toInt64 v4)) ≤ (31 : Int64) → (xm_st b c p M → Q (some (.int (2 : Int32))) M)))))))))) ∧ (¬ (11 : Int32) ≤ v5 → ((((Int32.toInt64 v3) + (Int32.toInt64 v4)) < (0 : Int64) → (xm_st b c p M → Q (some (.int (1 : Int32))) M)) ∧ (¬ ((Int32.toInt64 v3) + (Int32.toInt64 v4)) < (0 : Int64) → xm_C l E y11_sizeOf rm11_sizeOf [.int v5] M (fun r M59 => ∃ r60 : Int32, r = some (.int r60) ∧ xm_st b c p M59 ∧ (((((Int32.toInt64 v3) + (Int32.toInt64 v4)) + (Int32.toInt64 r60)) ≤ (Int32.toInt64 (xm_gi M59 (b + 154) 11)) → (xm_st b c p M59 → xm_X l E y11_one rm11_one Q 178 [(0, .ref (b + 154)), (1, .int v1), (5, .int v5), (6, .long ((Int32.toInt64 v3) + (Int32.toInt64 v4))), (8, .int (0 : Int32)), (9, .int (0 : Int32))] [] 0 0 M59)) ∧ (¬ (((Int32.toInt64 v3) + (Int32.toInt64 v4)) + (Int32.toInt64 r60)) ≤ (Int32.toInt64 (xm_gi M59 (b + 154) 11)) → (xm_st b c p M59 → Q (some (.int (1 : Int32))) M59))))))))))) ∧ (¬ v5 ≤ (2 : Int32) → (((6 : Int32) ≤ v5 → ((v5 ≤ (7 : Int32) → ((v5 = (11 : Int32) → ((((Int32.toInt64 v3) + (Int32.toInt64 v4)) < (0 : Int64) → (xm_st b c p M → Q (some (.int (2 : Int32))) M)) ∧ (¬ ((Int32.toInt64 v3) + (Int32.toInt64 v4)) < (0 : Int64) → ((((Int32.toInt64 v3) + (Int32.toInt64 v4)) ≤ (31 : Int64) → ((¬ v5 = (11 : Int32) → (vp_in (Int64.toInt32 ((Int32.toInt64 v3) + (Int32.toInt64 v4))) 32 ∧ (∀ M62 : xm_M, M62 = (xm_pi M (b + 177) (Int32.toNatClampNeg (Int64.toInt32 ((Int32.toInt64 v3) + (Int32.toInt64 v4)))) (v2 &&& (255 : Int32))) → (xm_st b c p M62 → Q (some (.int (0 : Int32))) M62)))) ∧ (v5 = (11 : Int32) → (vp_in v1 48 ∧ (vp_in (Int64.toInt32 ((Int32.toInt64 v3) + (Int32.toInt64 v4))) 32 ∧ (vp_in (xm_gi M (b + 156) (Int32.toNatClampNeg v1)) 8 ∧ (∀ M67 : xm_M, M67 = (xm_pi M (b + 176) (Int32.toNatClampNeg (xm_gi M (b + 156) (Int32.toNatClampNeg v1))) (xm_gi M (b + 177) (Int32.toNatClampNeg (Int64.toInt32 ((Int32.toInt64 v3) + (Int32.toInt64 v4)))))) → (xm_st b c p M67 → Q (some (.int (0 : Int32))) M67)))))))) ∧ (¬ ((Int32.toInt64 v3) + (Int32.toInt64 v4)) ≤ (31 : Int64) → (xm_st b c p M → Q (some (.int (2 : Int32))) M)))))) ∧ (¬ v5 = (11 : Int32) → ((¬ v5 = (12 : Int32) → ((v5 ≤ (12 : Int32) → (vp_in v1 48 ∧ ((¬ v5 = (1 : Int32) → ((¬ v5 = (2 : Int32) → ((¬ v5 = (6 : Int32) → (vp_in (xm_gi M (b + 156) (Int32.toNatClampNeg v1)) 8 ∧ (∀ M71 : xm_M, M71 = (xm_pi M (b + 176) (Int32.toNatClampNeg (xm_gi M (b + 156) (Int32.toNatClampNeg v1))) ((Int32.toUInt32 v2 >>> (Int32.toUInt32 v4 &&& Int32.toUInt32 31)).toInt32)) → (xm_st b c p M71 → Q (some (.int (0 : Int32))) M71)))) ∧ (v5 = (6 : Int32) → (vp_in (xm_gi M (b + 156) (Int32.toNatClampNeg v1)) 8 ∧ (∀ M74 : xm_M, M74 = (xm_pi M (b + 176) (Int32.toNatClampNeg (xm_gi M (b + 156) (Int32.toNatClampNeg v1))) (v2 &&& v4)) → (xm_st b c p M74 → Q (some (.int (0 : Int32))) M74)))))) ∧ (v5 = (2 : Int32) → (vp_in (xm_gi M (b + 156) (Int32.toNatClampNeg v1)) 8 ∧ (∀ M77 : xm_M, M77 = (xm_pi M (b + 176) (Int32.toNatClampNeg (xm_gi M (b + 156) (Int32.toNatClampNeg v1))) v3) → (xm_st b c p M77 → Q (some (.int (0 : Int32))) M77)))))) ∧ (v5 = (1 : Int32) → (vp_in (xm_gi M (b + 156) (Int32.toNatClampNeg v1)) 8 ∧ (∀ M80 : xm_M, M80 = (xm_pi M (b + 176) (Int32.toNatClampNeg (xm_gi M (b + 156) (Int32.toNatClampNeg v1))) v4) → (xm_st b c p M80 → Q (some (.int (0 : Int32))) M80))))))) ∧ (¬ v5 ≤ (12 : Int32) → ((v5 = (13 : Int32) → (xm_st b c p M → xm_X l E y11_one rm11_one Q 376 [(0, .ref (b + 154)), (1, .int v1), (6, .int (1 : Int32))] [] 0 0 M)) ∧ (¬ v5 = (13 : Int32) → ((¬ v5 = (14 : Int32) → ((¬ v5 = (15 : Int32) → ((¬ v5 = (16 : Int32) → (xm_st b c p M → xm_X l E y11_one rm11_one Q 376 [(0, .ref (b + 154)), (1, .int v1), (6, .int (0 : Int32))] [] 0 0 M)) ∧ (v5 = (16 : Int32) → ((¬ v2 = v3 → (xm_st b c p M → xm_X l E y11_one rm11_one Q 376 [(0, .ref (b + 154)), (1, .int v1), (6, .int (0 : Int32))] [] 0 0 M)) ∧ (v2 = v3 → (xm_st b c p M → xm_X l E y11_one rm11_one Q 376 [(0, .ref (b + 154)), (1, .int v1), (6, .int (1 : Int32))] [] 0 0 M)))))) ∧ (v5 = (15 : Int32) → ((v2 < v4 → (xm_st b c p M → xm_X l E y11_one rm11_one Q 376 [(0, .ref (b + 154)), (1, .int v1), (6, .int (1 : Int32))] [] 0 0 M)) ∧ (¬ v2 < v4 → ((¬ v5 = (16 : Int32) → (xm_st b c p M → xm_X l E y11_one rm11_one Q 376 [(0, .ref (b + 154)), (1, .int v1), (6, .int (0 : Int32))] [] 0 0 M)) ∧ (v5 = (16 : Int32) → ((¬ v2 = v3 → (xm_st b c p M → xm_X l E y11_one rm11_one Q 376 [(0, .ref (b + 154)), (1, .int v1), (6, .int (0 : Int32))] [] 0 0 M)) ∧ (v2 = v3 → (xm_st b c p M → xm_X l E y11_one rm11_one Q 376 [(0, .ref (b + 154)), (1, .int v1), (6, .int (1 : Int32))] [] 0 0 M)))))))))) ∧ (v5 = (14 : Int32) → ((v2 < v3 → (xm_st b c p M → xm_X l E y11_one rm11_one Q 376 [(0, .ref (b + 154)), (1, .int v1), (6, .int (1 : Int32))] [] 0 0 M)) ∧ (¬ v2 < v3 → ((¬ v5 = (15 : Int32) → ((¬ v5 = (16 : Int32) → (xm_st b c p M → xm_X l E y11_one rm11_one Q 376 [(0, .ref (b + 154)), (1, .int v1), (6, .int (0 : Int32))] [] 0 0 M)) ∧ (v5 = (16 : Int32) → ((¬ v2 = v3 → (xm_st b c p M → xm_X l E y11_one rm11_one Q 376 [(0, .ref (b + 154)), (1, .int v1), (6, .int (0 : Int32))] [] 0 0 M)) ∧ (v2 = v3 → (xm_st b c p M → xm_X l E y11_one rm11_one Q 376 [(0, .ref (b + 154)), (1, .int v1), (6, .int (1 : Int32))] [] 0 0 M)))))) ∧ (v5 = (15 : Int32) → ((v2 < v4 → (xm_st b c p M → xm_X l E y11_one rm11_one Q 376 [(0, .ref (b + 154)), (1, .int v1), (6, .int (1 : Int32))] [] 0 0 M)) ∧ (¬ v2 < v4 → ((¬ v5 = (16 : Int32) → (xm_st b c p M → xm_X l E y11_one rm11_one Q 376 [(0, .ref (b + 154)), (1, .int v1), (6, .int (0 : Int32))] [] 0 0 M)) ∧ (v5 = (16 : Int32) → ((¬ v2 = v3 → (xm_st b c p M → xm_X l E y11_one rm11_one Q 376 [(0, .ref (b + 154)), (1, .int v1), (6, .int (0 : Int32))] [] 0 0 M)) ∧ (v2 = v3 → (xm_st b c p M → xm_X l E y11_one rm11_one Q 376 [(0, .ref (b + 154)), (1, .int v1), (6, .int (1 : Int32))] [] 0 0 M)))))))))))))))))) ∧ (v5 = (12 : Int32) → ((((Int32.toInt64 v3) + (Int32.toInt64 v4)) < (0 : Int64) → (xm_st b c p M → Q (some (.int (2 : Int32))) M)) ∧ (¬ ((Int32.toInt64 v3) + (Int32.toInt64 v4)) < (0 : Int64) → ((((Int32.toInt64 v3) + (Int32.toInt64 v4)) ≤ (31 : Int64) → ((¬ v5 = (11 : Int32) → (vp_in (Int64.toInt32 ((Int32.toInt64 v3) + (Int32.toInt64 v4))) 32 ∧ (∀ M83 : xm_M, M83 = (xm_pi M (b + 177) (Int32.toNatClampNeg (Int64.toInt32 ((Int32.toInt64 v3) + (Int32.toInt64 v4)))) (v2 &&& (255 : Int32))) → (xm_st b c p M83 → Q (some (.int (0 : Int32))) M83)))) ∧ (v5 = (11 : Int32) → (vp_in v1 48 ∧ (vp_in (Int64.toInt32 ((Int32.toInt64 v3) + (Int32.toInt64 v4))) 32 ∧ (vp_in (xm_gi M (b + 156) (Int32.toNatClampNeg v1)) 8 ∧ (∀ M88 : xm_M, M88 = (xm_pi M (b + 176) (Int32.toNatClampNeg (xm_gi M (b + 156) (Int32.toNatClampNeg v1))) (xm_gi M (b + 177) (Int32.toNatClampNeg (Int64.toInt32 ((Int32.toInt64 v3) + (Int32.toInt64 v4)))))) → (xm_st b c p M88 → Q (some (.int (0 : Int32))) M88)))))))) ∧ (¬ ((Int32.toInt64 v3) + (Int32.toInt64 v4)) ≤ (31 : Int64) → (xm_st b c p M → Q (some (.int (2 : Int32))) M)))))))))) ∧ (¬ v5 ≤ (7 : Int32) → (((11 : Int32) ≤ v5 → ((v5 = (11 : Int32) → ((((Int32.toInt64 v3) + (Int32.toInt64 v4)) < (0 : Int64) → (xm_st b c p M → Q (some (.int (2 : Int32))) M)) ∧ (¬ ((Int32.toInt64 v3) + (Int32.toInt64 v4)) < (0 : Int64) → ((((Int32.toInt64 v3) + (Int32.toInt64 v4)) ≤ (31 : Int64) → ((¬ v5 = (11 : Int32) → (vp_in (Int64.toInt32 ((Int32.toInt64 v3) + (Int32.toInt64 v4))) 32 ∧ (∀ M91 : xm_M, M91 = (xm_pi M (b + 177) (Int32.toNatClampNeg (Int64.toInt32 ((Int32.toInt64 v3) + (Int32.toInt64 v4)))) (v2 &&& (255 : Int32))) → (xm_st b c p M91 → Q (some (.int (0 : Int32))) M91)))) ∧ (v5 = (11 : Int32) → (vp_in v1 48 ∧ (vp_in (Int64.toInt32 ((Int32.toInt64 v3) + (Int32.toInt64 v4))) 32 ∧ (vp_in (xm_gi M (b + 156) (Int32.toNatClampNeg v1)) 8 ∧ (∀ M96 : xm_M, M96 = (xm_pi M (b + 176) (Int32.toNatClampNeg (xm_gi M (b + 156) (Int32.toNatClampNeg v1))) (xm_gi M (b + 177) (Int32.toNatClampNeg (Int64.toInt32 ((Int32.toInt64 v3) + (Int32.toInt64 v4)))))) → (xm_st b c p M96 → Q (some (.int (0 : Int32))) M96)))))))) ∧ (¬ ((Int32.toInt64 v3) + (Int32.toInt64 v4)) ≤ (31 : Int64) → (xm_st b c p M → Q (some (.int (2 : Int32))) M)))))) ∧ (¬ v5 = (11 : Int32) → ((¬ v5 = (12 : Int32) → ((v5 ≤ (12 : Int32) → (vp_in v1 48 ∧ ((¬ v5 = (1 : Int32) → ((¬ v5 = (2 : Int32) → ((¬ v5 = (6 : Int32) → (vp_in (xm_gi M (b + 156) (Int32.toNatClampNeg v1)) 8 ∧ (∀ M100 : xm_M, M100 = (xm_pi M (b + 176) (Int32.toNatClampNeg (xm_gi M (b + 156) (Int32.toNatClampNeg v1))) ((Int32.toUInt32 v2 >>> (Int32.toUInt32 v4 &&& Int32.toUInt32 31)).toInt32)) → (xm_st b c p M100 → Q (some (.int (0 : Int32))) M100)))) ∧ (v5 = (6 : Int32) → (vp_in (xm_gi M (b + 156) (Int32.toNatClampNeg v1)) 8 ∧ (∀ M103 : xm_M, M103 = (xm_pi M (b + 176) (Int32.toNatClampNeg (xm_gi M (b + 156) (Int32.toNatClampNeg v1))) (v2 &&& v4)) → (xm_st b c p M103 → Q (some (.int (0 : Int32))) M103)))))) ∧ (v5 = (2 : Int32) → (vp_in (xm_gi M (b + 156) (Int32.toNatClampNeg v1)) 8 ∧ (∀ M106 : xm_M, M106 = (xm_pi M (b + 176) (Int32.toNatClampNeg (xm_gi M (b + 156) (Int32.toNatClampNeg v1))) v3) → (xm_st b c p M106 → Q (some (.int (0 : Int32))) M106)))))) ∧ (v5 = (1 : Int32) → (vp_in (xm_gi M (b + 156) (Int32.toNatClampNeg v1)) 8 ∧ (∀ M109 : xm_M, M109 = (xm_pi M (b + 176) (Int32.toNatClampNeg (xm_gi M (b + 156) (Int32.toNatClampNeg v1))) v4) → (xm_st b c p M109 → Q (some (.int (0 : Int32))) M109))))))) ∧ (¬ v5 ≤ (12 : Int32) → ((v5 = (13 : Int32) → (xm_st b c p M → xm_X l E y11_one rm11_one Q 376 [(0, .ref (b + 154)), (1, .int v1), (6, .int (1 : Int32))] [] 0 0 M)) ∧ (¬ v5 = (13 : Int32) → ((¬ v5 = (14 : Int32) → ((¬ v5 = (15 : Int32) → ((¬ v5 = (16 : Int32) → (xm_st b c p M → xm_X l E y11_one rm11_one Q 376 [(0, .ref (b + 154)), (1, .int v1), (6, .int (0 : Int32))] [] 0 0 M)) ∧ (v5 = (16 : Int32) → ((¬ v2 = v3 → (xm_st b c p M → xm_X l E y11_one rm11_one Q 376 [(0, .ref (b + 154)), (1, .int v1), (6, .int (0 : Int32))] [] 0 0 M)) ∧ (v2 = v3 → (xm_st b c p M → xm_X l E y11_one rm11_one Q 376 [(0, .ref (b + 154)), (1, .int v1), (6, .int (1 : Int32))] [] 0 0 M)))))) ∧ (v5 = (15 : Int32) → ((v2 < v4 → (xm_st b c p M → xm_X l E y11_one rm11_one Q 376 [(0, .ref (b + 154)), (1, .int v1), (6, .int (1 : Int32))] [] 0 0 M)) ∧ (¬ v2 < v4 → ((¬ v5 = (16 : Int32) → (xm_st b c p M → xm_X l E y11_one rm11_one Q 376 [(0, .ref (b + 154)), (1, .int v1), (6, .int (0 : Int32))] [] 0 0 M)) ∧ (v5 = (16 : Int32) → ((¬ v2 = v3 → (xm_st b c p M → xm_X l E y11_one rm11_one Q 376 [(0, .ref (b + 154)), (1, .int v1), (6, .int (0 : Int32))] [] 0 0 M)) ∧ (v2 = v3 → (xm_st b c p M → xm_X l E y11_one rm11_one Q 376 [(0, .ref (b + 154)), (1, .int v1), (6, .int (1 : Int32))] [] 0 0 M)))))))))) ∧ (v5 = (14 : Int32) → ((v2 < v3 → (xm_st b c p M → xm_X l E y11_one rm11_one Q 376 [(0, .ref (b + 154)), (1, .int v1), (6, .int (1 : Int32))] [] 0 0 M)) ∧ (¬ v2 < v3 → ((¬ v5 = (15 : Int32) → ((¬ v5 = (16 : Int32) → (xm_st b c p M → xm_X l E y11_one rm11_one Q 376 [(0, .ref (b + 154)), (1, .int v1), (6, .int (0 : Int32))] [] 0 0 M)) ∧ (v5 = (16 : Int32) → ((¬ v2 = v3 → (xm_st b c p M → xm_X l E y11_one rm11_one Q 376 [(0, .ref (b + 154)), (1, .int v1), (6, .int (0 : Int32))] [] 0 0 M)) ∧ (v2 = v3 → (xm_st b c p M → xm_X l E y11_one rm11_one Q 376 [(0, .ref (b + 154)), (1, .int v1), (6, .int (1 : Int32))] [] 0 0 M)))))) ∧ (v5 = (15 : Int32) → ((v2 < v4 → (xm_st b c p M → xm_X l E y11_one rm11_one Q 376 [(0, .ref (b + 154)), (1, .int v1), (6, .int (1 : Int32))] [] 0 0 M)) ∧ (¬ v2 < v4 → ((¬ v5 = (16 : Int32) → (xm_st b c p M → xm_X l E y11_one rm11_one Q 376 [(0, .ref (b + 154)), (1, .int v1), (6, .int (0 : Int32))] [] 0 0 M)) ∧ (v5 = (16 : Int32) → ((¬ v2 = v3 → (xm_st b c p M → xm_X l E y11_one rm11_one Q 376 [(0, .ref (b + 154)), (1, .int v1), (6, .int (0 : Int32))] [] 0 0 M)) ∧ (v2 = v3 → (xm_st b c p M → xm_X l E y11_one rm11_one Q 376 [(0, .ref (b + 154)), (1, .int v1), (6, .int (1 : Int32))] [] 0 0 M)))))))))))))))))) ∧ (v5 = (12 : Int32) → ((((Int32.toInt64 v3) + (Int32.toInt64 v4)) < (0 : Int64) → (xm_st b c p M → Q (some (.int (2 : Int32))) M)) ∧ (¬ ((Int32.toInt64 v3) + (Int32.toInt64 v4)) < (0 : Int64) → ((((Int32.toInt64 v3) + (Int32.toInt64 v4)) ≤ (31 : Int64) → ((¬ v5 = (11 : Int32) → (vp_in (Int64.toInt32 ((Int32.toInt64 v3) + (Int32.toInt64 v4))) 32 ∧ (∀ M112 : xm_M, M112 = (xm_pi M (b + 177) (Int32.toNatClampNeg (Int64.toInt32 ((Int32.toInt64 v3) + (Int32.toInt64 v4)))) (v2 &&& (255 : Int32))) → (xm_st b c p M112 → Q (some (.int (0 : Int32))) M112)))) ∧ (v5 = (11 : Int32) → (vp_in v1 48 ∧ (vp_in (Int64.toInt32 ((Int32.toInt64 v3) + (Int32.toInt64 v4))) 32 ∧ (vp_in (xm_gi M (b + 156) (Int32.toNatClampNeg v1)) 8 ∧ (∀ M117 : xm_M, M117 = (xm_pi M (b + 176) (Int32.toNatClampNeg (xm_gi M (b + 156) (Int32.toNatClampNeg v1))) (xm_gi M (b + 177) (Int32.toNatClampNeg (Int64.toInt32 ((Int32.toInt64 v3) + (Int32.toInt64 v4)))))) → (xm_st b c p M117 → Q (some (.int (0 : Int32))) M117)))))))) ∧ (¬ ((Int32.toInt64 v3) + (Int32.toInt64 v4)) ≤ (31 : Int64) → (xm_st b c p M → Q (some (.int (2 : Int32))) M)))))))))) ∧ (¬ (11 : Int32) ≤ v5 → ((((Int32.toInt64 v3) + (Int32.toInt64 v4)) < (0 : Int64) → (xm_st b c p M → Q (some (.int (1 : Int32))) M)) ∧ (¬ ((Int32.toInt64 v3) + (Int32.toInt64 v4)) < (0 : Int64) → xm_C l E y11_sizeOf rm11_sizeOf [.int v5] M (fun r M119 => ∃ r120 : Int32, r = some (.int r120) ∧ xm_st b c p M119 ∧ (((((Int32.toInt64 v3) + (Int32.toInt64 v4)) + (Int32.toInt64 r120)) ≤ (Int32.toInt64 (xm_gi M119 (b + 154) 11)) → (xm_st b c p M119 → xm_X l E y11_one rm11_one Q 178 [(0, .ref (b + 154)), (1, .int v1), (5, .int v5), (6, .long ((Int32.toInt64 v3) + (Int32.toInt64 v4))), (8, .int (0 : Int32)), (9, .int (0 : Int32))] [] 0 0 M119)) ∧ (¬ (((Int32.toInt64 v3) + (Int32.toInt64 v4)) + (Int32.toInt64 r120)) ≤ (Int32.toInt64 (xm_gi M119 (b + 154) 11)) → (xm_st b c p M119 → Q (some (.int (1 : Int32))) M119))))))))))) ∧ (¬ (6 : Int32) ≤ v5 → ((¬ v5 = (3 : Int32) → ((¬ v5 = (4 : Int32) → (xm_st b c p M → xm_X l E y11_one rm11_one Q 96 [(0, .ref (b + 154)), (1, .int v1), (6, .long ((Int32.toInt64 v2) - (Int32.toInt64 v3)))] [] 0 0 M)) ∧ (v5 = (4 : Int32) → (xm_st b c p M → xm_X l E y11_one rm11_one Q 96 [(0, .ref (b + 154)), (1, .int v1), (6, .long ((Int32.toInt64 v2) + (Int32.toInt64 v3)))] [] 0 0 M)))) ∧ (v5 = (3 : Int32) → (xm_st b c p M → xm_X l E y11_one rm11_one Q 96 [(0, .ref (b + 154)), (1, .int v1), (6, .long ((Int32.toInt64 v2) + (Int32.toInt64 v4)))] [] 0 0 M)))))))) :
  xm_X l E y11_one rm11_one Q 47 [(0, .ref (b + 154)), (1, .int v1), (2, .int v2), (3, .int v3), (4, .int v4), (5, .int v5)] [] 0 0 M := by
  refine x_iload d11_one_47 5 rfl ?_
  refine x_iconst d11_one_49 qi_2 ?_
  refine x_icmp_le d11_one_50 (t := 123) (by decide) (fun g => ?_) (fun g => ?_)
  · have h := h.1 g
    refine x_iload d11_one_123 5 rfl ?_
    refine x_bipush d11_one_125 qb_7 ?_
    refine x_icmp_le d11_one_127 (t := 233) (by decide) (fun g => ?_) (fun g => ?_)
    · have h := h.1 g
      refine x_iload d11_one_233 5 rfl ?_
      refine x_bipush d11_one_235 qb_11 ?_
      refine x_icmp_eq d11_one_237 (t := 247) (by decide) (fun g => ?_) (fun g => ?_)
      · have h := h.1 g
        refine x_iload_n d11_one_247 3 rfl rfl ?_
        refine x_i2l d11_one_248 ?_
        refine x_iload d11_one_249 4 rfl ?_
        refine x_i2l d11_one_251 ?_
        refine x_ladd d11_one_252 ?_
        refine x_lstore d11_one_253 (by decide) (L' := [(6, .long ((Int32.toInt64 v3) + (Int32.toInt64 v4))), (0, .ref (b + 154)), (1, .int v1), (2, .int v2), (3, .int v3), (4, .int v4), (5, .int v5)]) rfl ?_
        refine x_lload d11_one_255 0 rfl ?_
        refine x_lconst d11_one_257 ql_0 ?_
        refine x_lc_lt d11_one_258 d11_one_259 rfl rfl (t := 271) (by decide) (fun g => ?_) (fun g => ?_)
        · have h := h.1 g
          refine x_iconst d11_one_271 qi_2 ?_
          exact x_ret (r := (some (.int (2 : Int32)))) d11_one_272 xm_rI rfl ⟨Nat.le_refl _, Nat.le_refl _⟩ (h hS)
        · have h := h.2 g
          refine x_lload d11_one_262 0 rfl ?_
          refine x_ldc2 d11_one_264 lc11_177 ?_
          refine x_lc_le d11_one_267 d11_one_268 rfl rfl (t := 273) (by decide) (fun g => ?_) (fun g => ?_)
          · have h := h.1 g
            refine x_iload d11_one_273 6 rfl ?_
            refine x_bipush d11_one_275 qb_11 ?_
            refine x_icmp_ne d11_one_277 (t := 302) (by decide) (fun g => ?_) (fun g => ?_)
            · have h := h.1 g
              refine x_aload_n d11_one_302 1 rfl rfl ?_
              refine x_getR d11_one_303 fl11_83 (fun _ _ => rfl) (hS.1 _ _ (sh_154 b)) (hS.2.1 _ _ _ (pt_154_35 b)) ?_
              refine x_lload d11_one_306 0 rfl ?_
              refine x_l2i d11_one_308 ?_
              refine x_iload_n d11_one_309 3 rfl rfl ?_
              refine x_sipush d11_one_310 qs_255 ?_
              refine x_iand d11_one_313 ?_
              obtain ⟨g1, h⟩ := h
              refine x_iast d11_one_314 (hS.1 _ _ (sh_177 b)) g1 ?_
              refine xm_nm (fun M2 e3 => ?_)
              have h := h M2 e3
              have hS : xm_st b c p M2 := by rw [e3]; exact hS.pi
              refine x_goto d11_one_315 (t := 444) (by decide) ?_
              refine x_iconst d11_one_444 qi_0 ?_
              exact x_ret (r := (some (.int (0 : Int32)))) d11_one_445 xm_rI rfl ⟨Nat.le_refl _, Nat.le_refl _⟩ (h hS)
            · have h := h.2 g
              refine x_aload_n d11_one_280 1 rfl rfl ?_
              refine x_getR d11_one_281 fl11_80 (fun _ _ => rfl) (hS.1 _ _ (sh_154 b)) (hS.2.1 _ _ _ (pt_154_34 b)) ?_
              refine x_aload_n d11_one_284 1 rfl rfl ?_
              refine x_getR d11_one_285 fl11_13 (fun _ _ => rfl) (hS.1 _ _ (sh_154 b)) (hS.2.1 _ _ _ (pt_154_3 b)) ?_
              refine x_iload_n d11_one_288 2 rfl rfl ?_
              obtain ⟨g4, h⟩ := h
              refine x_iald d11_one_289 (hS.1 _ _ (sh_156 b)) g4 ?_
              refine x_aload_n d11_one_290 1 rfl rfl ?_
              refine x_getR d11_one_291 fl11_83 (fun _ _ => rfl) (hS.1 _ _ (sh_154 b)) (hS.2.1 _ _ _ (pt_154_35 b)) ?_
              refine x_lload d11_one_294 0 rfl ?_
              refine x_l2i d11_one_296 ?_
              obtain ⟨g5, h⟩ := h
              refine x_iald d11_one_297 (hS.1 _ _ (sh_177 b)) g5 ?_
              obtain ⟨g6, h⟩ := h
              refine x_iast d11_one_298 (hS.1 _ _ (sh_176 b)) g6 ?_
              refine xm_nm (fun M7 e8 => ?_)
              have h := h M7 e8
              have hS : xm_st b c p M7 := by rw [e8]; exact hS.pi
              refine x_goto d11_one_299 (t := 315) (by decide) ?_
              refine x_goto d11_one_315 (t := 444) (by decide) ?_
              refine x_iconst d11_one_444 qi_0 ?_
              exact x_ret (r := (some (.int (0 : Int32)))) d11_one_445 xm_rI rfl ⟨Nat.le_refl _, Nat.le_refl _⟩ (h hS)
          · have h := h.2 g
            refine x_iconst d11_one_271 qi_2 ?_
            exact x_ret (r := (some (.int (2 : Int32)))) d11_one_272 xm_rI rfl ⟨Nat.le_refl _, Nat.le_refl _⟩ (h hS)
      · have h := h.2 g
        refine x_iload d11_one_240 5 rfl ?_
        refine x_bipush d11_one_242 qb_12 ?_
        refine x_icmp_ne d11_one_244 (t := 318) (by decide) (fun g => ?_) (fun g => ?_)
        · have h := h.1 g
          refine x_iload d11_one_318 5 rfl ?_
          refine x_bipush d11_one_320 qb_12 ?_
          refine x_icmp_le d11_one_322 (t := 394) (by decide) (fun g => ?_) (fun g => ?_)
          · have h := h.1 g
            refine x_aload_n d11_one_394 0 rfl rfl ?_
            refine x_getR d11_one_395 fl11_80 (fun _ _ => rfl) (hS.1 _ _ (sh_154 b)) (hS.2.1 _ _ _ (pt_154_34 b)) ?_
            refine x_aload_n d11_one_398 0 rfl rfl ?_
            refine x_getR d11_one_399 fl11_13 (fun _ _ => rfl) (hS.1 _ _ (sh_154 b)) (hS.2.1 _ _ _ (pt_154_3 b)) ?_
            refine x_iload_n d11_one_402 1 rfl rfl ?_
            obtain ⟨g9, h⟩ := h
            refine x_iald d11_one_403 (hS.1 _ _ (sh_156 b)) g9 ?_
            refine x_iload d11_one_404 5 rfl ?_
            refine x_iconst d11_one_406 qi_1 ?_
            refine x_icmp_ne d11_one_407 (t := 415) (by decide) (fun g => ?_) (fun g => ?_)
            · have h := h.1 g
              refine x_iload d11_one_415 5 rfl ?_
              refine x_iconst d11_one_417 qi_2 ?_
              refine x_icmp_ne d11_one_418 (t := 425) (by decide) (fun g => ?_) (fun g => ?_)
              · have h := h.1 g
                refine x_iload d11_one_425 5 rfl ?_
                refine x_bipush d11_one_427 qb_6 ?_
                refine x_icmp_ne d11_one_429 (t := 439) (by decide) (fun g => ?_) (fun g => ?_)
                · have h := h.1 g
                  refine x_iload_n d11_one_439 2 rfl rfl ?_
                  refine x_iload d11_one_440 4 rfl ?_
                  refine x_iushr d11_one_442 ?_
                  obtain ⟨g10, h⟩ := h
                  refine x_iast d11_one_443 (hS.1 _ _ (sh_176 b)) g10 ?_
                  refine xm_nm (fun M11 e12 => ?_)
                  have h := h M11 e12
                  have hS : xm_st b c p M11 := by rw [e12]; exact hS.pi
                  refine x_iconst d11_one_444 qi_0 ?_
                  exact x_ret (r := (some (.int (0 : Int32)))) d11_one_445 xm_rI rfl ⟨Nat.le_refl _, Nat.le_refl _⟩ (h hS)
                · have h := h.2 g
                  refine x_iload_n d11_one_432 2 rfl rfl ?_
                  refine x_iload d11_one_433 4 rfl ?_
                  refine x_iand d11_one_435 ?_
                  refine x_goto d11_one_436 (t := 443) (by decide) ?_
                  obtain ⟨g13, h⟩ := h
                  refine x_iast d11_one_443 (hS.1 _ _ (sh_176 b)) g13 ?_
                  refine xm_nm (fun M14 e15 => ?_)
                  have h := h M14 e15
                  have hS : xm_st b c p M14 := by rw [e15]; exact hS.pi
                  refine x_iconst d11_one_444 qi_0 ?_
                  exact x_ret (r := (some (.int (0 : Int32)))) d11_one_445 xm_rI rfl ⟨Nat.le_refl _, Nat.le_refl _⟩ (h hS)
              · have h := h.2 g
                refine x_iload_n d11_one_421 3 rfl rfl ?_
                refine x_goto d11_one_422 (t := 443) (by decide) ?_
                obtain ⟨g16, h⟩ := h
                refine x_iast d11_one_443 (hS.1 _ _ (sh_176 b)) g16 ?_
                refine xm_nm (fun M17 e18 => ?_)
                have h := h M17 e18
                have hS : xm_st b c p M17 := by rw [e18]; exact hS.pi
                refine x_iconst d11_one_444 qi_0 ?_
                exact x_ret (r := (some (.int (0 : Int32)))) d11_one_445 xm_rI rfl ⟨Nat.le_refl _, Nat.le_refl _⟩ (h hS)
            · have h := h.2 g
              refine x_iload d11_one_410 4 rfl ?_
              refine x_goto d11_one_412 (t := 443) (by decide) ?_
              obtain ⟨g19, h⟩ := h
              refine x_iast d11_one_443 (hS.1 _ _ (sh_176 b)) g19 ?_
              refine xm_nm (fun M20 e21 => ?_)
              have h := h M20 e21
              have hS : xm_st b c p M20 := by rw [e21]; exact hS.pi
              refine x_iconst d11_one_444 qi_0 ?_
              exact x_ret (r := (some (.int (0 : Int32)))) d11_one_445 xm_rI rfl ⟨Nat.le_refl _, Nat.le_refl _⟩ (h hS)
          · have h := h.2 g
            refine x_iload d11_one_325 5 rfl ?_
            refine x_bipush d11_one_327 qb_13 ?_
            refine x_icmp_eq d11_one_329 (t := 369) (by decide) (fun g => ?_) (fun g => ?_)
            · have h := h.1 g
              refine x_iconst d11_one_369 qi_1 ?_
              refine x_goto d11_one_370 (t := 374) (by decide) ?_
              refine x_istore d11_one_374 (by decide) (L' := [(6, .int (1 : Int32)), (0, .ref (b + 154)), (1, .int v1), (2, .int v2), (3, .int v3), (4, .int v4), (5, .int v5)]) rfl ?_
              exact xm_X.sub [1, 2, 0] rfl (h hS)
            · have h := h.2 g
              refine x_iload d11_one_332 5 rfl ?_
              refine x_bipush d11_one_334 qb_14 ?_
              refine x_icmp_ne d11_one_336 (t := 344) (by decide) (fun g => ?_) (fun g => ?_)
              · have h := h.1 g
                refine x_iload d11_one_344 5 rfl ?_
                refine x_bipush d11_one_346 qb_15 ?_
                refine x_icmp_ne d11_one_348 (t := 357) (by decide) (fun g => ?_) (fun g => ?_)
                · have h := h.1 g
                  refine x_iload d11_one_357 5 rfl ?_
                  refine x_bipush d11_one_359 qb_16 ?_
                  refine x_icmp_ne d11_one_361 (t := 373) (by decide) (fun g => ?_) (fun g => ?_)
                  · have h := h.1 g
                    refine x_iconst d11_one_373 qi_0 ?_
                    refine x_istore d11_one_374 (by decide) (L' := [(6, .int (0 : Int32)), (0, .ref (b + 154)), (1, .int v1), (2, .int v2), (3, .int v3), (4, .int v4), (5, .int v5)]) rfl ?_
                    exact xm_X.sub [1, 2, 0] rfl (h hS)
                  · have h := h.2 g
                    refine x_iload_n d11_one_364 2 rfl rfl ?_
                    refine x_iload_n d11_one_365 3 rfl rfl ?_
                    refine x_icmp_ne d11_one_366 (t := 373) (by decide) (fun g => ?_) (fun g => ?_)
                    · have h := h.1 g
                      refine x_iconst d11_one_373 qi_0 ?_
                      refine x_istore d11_one_374 (by decide) (L' := [(6, .int (0 : Int32)), (0, .ref (b + 154)), (1, .int v1), (2, .int v2), (3, .int v3), (4, .int v4), (5, .int v5)]) rfl ?_
                      exact xm_X.sub [1, 2, 0] rfl (h hS)
                    · have h := h.2 g
                      refine x_iconst d11_one_369 qi_1 ?_
                      refine x_goto d11_one_370 (t := 374) (by decide) ?_
                      refine x_istore d11_one_374 (by decide) (L' := [(6, .int (1 : Int32)), (0, .ref (b + 154)), (1, .int v1), (2, .int v2), (3, .int v3), (4, .int v4), (5, .int v5)]) rfl ?_
                      exact xm_X.sub [1, 2, 0] rfl (h hS)
                · have h := h.2 g
                  refine x_iload_n d11_one_351 2 rfl rfl ?_
                  refine x_iload d11_one_352 4 rfl ?_
                  refine x_icmp_lt d11_one_354 (t := 369) (by decide) (fun g => ?_) (fun g => ?_)
                  · have h := h.1 g
                    refine x_iconst d11_one_369 qi_1 ?_
                    refine x_goto d11_one_370 (t := 374) (by decide) ?_
                    refine x_istore d11_one_374 (by decide) (L' := [(6, .int (1 : Int32)), (0, .ref (b + 154)), (1, .int v1), (2, .int v2), (3, .int v3), (4, .int v4), (5, .int v5)]) rfl ?_
                    exact xm_X.sub [1, 2, 0] rfl (h hS)
                  · have h := h.2 g
                    refine x_iload d11_one_357 5 rfl ?_
                    refine x_bipush d11_one_359 qb_16 ?_
                    refine x_icmp_ne d11_one_361 (t := 373) (by decide) (fun g => ?_) (fun g => ?_)
                    · have h := h.1 g
                      refine x_iconst d11_one_373 qi_0 ?_
                      refine x_istore d11_one_374 (by decide) (L' := [(6, .int (0 : Int32)), (0, .ref (b + 154)), (1, .int v1), (2, .int v2), (3, .int v3), (4, .int v4), (5, .int v5)]) rfl ?_
                      exact xm_X.sub [1, 2, 0] rfl (h hS)
                    · have h := h.2 g
                      refine x_iload_n d11_one_364 2 rfl rfl ?_
                      refine x_iload_n d11_one_365 3 rfl rfl ?_
                      refine x_icmp_ne d11_one_366 (t := 373) (by decide) (fun g => ?_) (fun g => ?_)
                      · have h := h.1 g
                        refine x_iconst d11_one_373 qi_0 ?_
                        refine x_istore d11_one_374 (by decide) (L' := [(6, .int (0 : Int32)), (0, .ref (b + 154)), (1, .int v1), (2, .int v2), (3, .int v3), (4, .int v4), (5, .int v5)]) rfl ?_
                        exact xm_X.sub [1, 2, 0] rfl (h hS)
                      · have h := h.2 g
                        refine x_iconst d11_one_369 qi_1 ?_
                        refine x_goto d11_one_370 (t := 374) (by decide) ?_
                        refine x_istore d11_one_374 (by decide) (L' := [(6, .int (1 : Int32)), (0, .ref (b + 154)), (1, .int v1), (2, .int v2), (3, .int v3), (4, .int v4), (5, .int v5)]) rfl ?_
                        exact xm_X.sub [1, 2, 0] rfl (h hS)
              · have h := h.2 g
                refine x_iload_n d11_one_339 2 rfl rfl ?_
                refine x_iload_n d11_one_340 3 rfl rfl ?_
                refine x_icmp_lt d11_one_341 (t := 369) (by decide) (fun g => ?_) (fun g => ?_)
                · have h := h.1 g
                  refine x_iconst d11_one_369 qi_1 ?_
                  refine x_goto d11_one_370 (t := 374) (by decide) ?_
                  refine x_istore d11_one_374 (by decide) (L' := [(6, .int (1 : Int32)), (0, .ref (b + 154)), (1, .int v1), (2, .int v2), (3, .int v3), (4, .int v4), (5, .int v5)]) rfl ?_
                  exact xm_X.sub [1, 2, 0] rfl (h hS)
                · have h := h.2 g
                  refine x_iload d11_one_344 5 rfl ?_
                  refine x_bipush d11_one_346 qb_15 ?_
                  refine x_icmp_ne d11_one_348 (t := 357) (by decide) (fun g => ?_) (fun g => ?_)
                  · have h := h.1 g
                    refine x_iload d11_one_357 5 rfl ?_
                    refine x_bipush d11_one_359 qb_16 ?_
                    refine x_icmp_ne d11_one_361 (t := 373) (by decide) (fun g => ?_) (fun g => ?_)
                    · have h := h.1 g
                      refine x_iconst d11_one_373 qi_0 ?_
                      refine x_istore d11_one_374 (by decide) (L' := [(6, .int (0 : Int32)), (0, .ref (b + 154)), (1, .int v1), (2, .int v2), (3, .int v3), (4, .int v4), (5, .int v5)]) rfl ?_
                      exact xm_X.sub [1, 2, 0] rfl (h hS)
                    · have h := h.2 g
                      refine x_iload_n d11_one_364 2 rfl rfl ?_
                      refine x_iload_n d11_one_365 3 rfl rfl ?_
                      refine x_icmp_ne d11_one_366 (t := 373) (by decide) (fun g => ?_) (fun g => ?_)
                      · have h := h.1 g
                        refine x_iconst d11_one_373 qi_0 ?_
                        refine x_istore d11_one_374 (by decide) (L' := [(6, .int (0 : Int32)), (0, .ref (b + 154)), (1, .int v1), (2, .int v2), (3, .int v3), (4, .int v4), (5, .int v5)]) rfl ?_
                        exact xm_X.sub [1, 2, 0] rfl (h hS)
                      · have h := h.2 g
                        refine x_iconst d11_one_369 qi_1 ?_
                        refine x_goto d11_one_370 (t := 374) (by decide) ?_
                        refine x_istore d11_one_374 (by decide) (L' := [(6, .int (1 : Int32)), (0, .ref (b + 154)), (1, .int v1), (2, .int v2), (3, .int v3), (4, .int v4), (5, .int v5)]) rfl ?_
                        exact xm_X.sub [1, 2, 0] rfl (h hS)
                  · have h := h.2 g
                    refine x_iload_n d11_one_351 2 rfl rfl ?_
                    refine x_iload d11_one_352 4 rfl ?_
                    refine x_icmp_lt d11_one_354 (t := 369) (by decide) (fun g => ?_) (fun g => ?_)
                    · have h := h.1 g
                      refine x_iconst d11_one_369 qi_1 ?_
                      refine x_goto d11_one_370 (t := 374) (by decide) ?_
                      refine x_istore d11_one_374 (by decide) (L' := [(6, .int (1 : Int32)), (0, .ref (b + 154)), (1, .int v1), (2, .int v2), (3, .int v3), (4, .int v4), (5, .int v5)]) rfl ?_
                      exact xm_X.sub [1, 2, 0] rfl (h hS)
                    · have h := h.2 g
                      refine x_iload d11_one_357 5 rfl ?_
                      refine x_bipush d11_one_359 qb_16 ?_
                      refine x_icmp_ne d11_one_361 (t := 373) (by decide) (fun g => ?_) (fun g => ?_)
                      · have h := h.1 g
                        refine x_iconst d11_one_373 qi_0 ?_
                        refine x_istore d11_one_374 (by decide) (L' := [(6, .int (0 : Int32)), (0, .ref (b + 154)), (1, .int v1), (2, .int v2), (3, .int v3), (4, .int v4), (5, .int v5)]) rfl ?_
                        exact xm_X.sub [1, 2, 0] rfl (h hS)
                      · have h := h.2 g
                        refine x_iload_n d11_one_364 2 rfl rfl ?_
                        refine x_iload_n d11_one_365 3 rfl rfl ?_
                        refine x_icmp_ne d11_one_366 (t := 373) (by decide) (fun g => ?_) (fun g => ?_)
                        · have h := h.1 g
                          refine x_iconst d11_one_373 qi_0 ?_
                          refine x_istore d11_one_374 (by decide) (L' := [(6, .int (0 : Int32)), (0, .ref (b + 154)), (1, .int v1), (2, .int v2), (3, .int v3), (4, .int v4), (5, .int v5)]) rfl ?_
                          exact xm_X.sub [1, 2, 0] rfl (h hS)
                        · have h := h.2 g
                          refine x_iconst d11_one_369 qi_1 ?_
                          refine x_goto d11_one_370 (t := 374) (by decide) ?_
                          refine x_istore d11_one_374 (by decide) (L' := [(6, .int (1 : Int32)), (0, .ref (b + 154)), (1, .int v1), (2, .int v2), (3, .int v3), (4, .int v4), (5, .int v5)]) rfl ?_
                          exact xm_X.sub [1, 2, 0] rfl (h hS)
        · have h := h.2 g
          refine x_iload_n d11_one_247 3 rfl rfl ?_
          refine x_i2l d11_one_248 ?_
          refine x_iload d11_one_249 4 rfl ?_
          refine x_i2l d11_one_251 ?_
          refine x_ladd d11_one_252 ?_
          refine x_lstore d11_one_253 (by decide) (L' := [(6, .long ((Int32.toInt64 v3) + (Int32.toInt64 v4))), (0, .ref (b + 154)), (1, .int v1), (2, .int v2), (3, .int v3), (4, .int v4), (5, .int v5)]) rfl ?_
          refine x_lload d11_one_255 0 rfl ?_
          refine x_lconst d11_one_257 ql_0 ?_
          refine x_lc_lt d11_one_258 d11_one_259 rfl rfl (t := 271) (by decide) (fun g => ?_) (fun g => ?_)
          · have h := h.1 g
            refine x_iconst d11_one_271 qi_2 ?_
            exact x_ret (r := (some (.int (2 : Int32)))) d11_one_272 xm_rI rfl ⟨Nat.le_refl _, Nat.le_refl _⟩ (h hS)
          · have h := h.2 g
            refine x_lload d11_one_262 0 rfl ?_
            refine x_ldc2 d11_one_264 lc11_177 ?_
            refine x_lc_le d11_one_267 d11_one_268 rfl rfl (t := 273) (by decide) (fun g => ?_) (fun g => ?_)
            · have h := h.1 g
              refine x_iload d11_one_273 6 rfl ?_
              refine x_bipush d11_one_275 qb_11 ?_
              refine x_icmp_ne d11_one_277 (t := 302) (by decide) (fun g => ?_) (fun g => ?_)
              · have h := h.1 g
                refine x_aload_n d11_one_302 1 rfl rfl ?_
                refine x_getR d11_one_303 fl11_83 (fun _ _ => rfl) (hS.1 _ _ (sh_154 b)) (hS.2.1 _ _ _ (pt_154_35 b)) ?_
                refine x_lload d11_one_306 0 rfl ?_
                refine x_l2i d11_one_308 ?_
                refine x_iload_n d11_one_309 3 rfl rfl ?_
                refine x_sipush d11_one_310 qs_255 ?_
                refine x_iand d11_one_313 ?_
                obtain ⟨g22, h⟩ := h
                refine x_iast d11_one_314 (hS.1 _ _ (sh_177 b)) g22 ?_
                refine xm_nm (fun M23 e24 => ?_)
                have h := h M23 e24
                have hS : xm_st b c p M23 := by rw [e24]; exact hS.pi
                refine x_goto d11_one_315 (t := 444) (by decide) ?_
                refine x_iconst d11_one_444 qi_0 ?_
                exact x_ret (r := (some (.int (0 : Int32)))) d11_one_445 xm_rI rfl ⟨Nat.le_refl _, Nat.le_refl _⟩ (h hS)
              · have h := h.2 g
                refine x_aload_n d11_one_280 1 rfl rfl ?_
                refine x_getR d11_one_281 fl11_80 (fun _ _ => rfl) (hS.1 _ _ (sh_154 b)) (hS.2.1 _ _ _ (pt_154_34 b)) ?_
                refine x_aload_n d11_one_284 1 rfl rfl ?_
                refine x_getR d11_one_285 fl11_13 (fun _ _ => rfl) (hS.1 _ _ (sh_154 b)) (hS.2.1 _ _ _ (pt_154_3 b)) ?_
                refine x_iload_n d11_one_288 2 rfl rfl ?_
                obtain ⟨g25, h⟩ := h
                refine x_iald d11_one_289 (hS.1 _ _ (sh_156 b)) g25 ?_
                refine x_aload_n d11_one_290 1 rfl rfl ?_
                refine x_getR d11_one_291 fl11_83 (fun _ _ => rfl) (hS.1 _ _ (sh_154 b)) (hS.2.1 _ _ _ (pt_154_35 b)) ?_
                refine x_lload d11_one_294 0 rfl ?_
                refine x_l2i d11_one_296 ?_
                obtain ⟨g26, h⟩ := h
                refine x_iald d11_one_297 (hS.1 _ _ (sh_177 b)) g26 ?_
                obtain ⟨g27, h⟩ := h
                refine x_iast d11_one_298 (hS.1 _ _ (sh_176 b)) g27 ?_
                refine xm_nm (fun M28 e29 => ?_)
                have h := h M28 e29
                have hS : xm_st b c p M28 := by rw [e29]; exact hS.pi
                refine x_goto d11_one_299 (t := 315) (by decide) ?_
                refine x_goto d11_one_315 (t := 444) (by decide) ?_
                refine x_iconst d11_one_444 qi_0 ?_
                exact x_ret (r := (some (.int (0 : Int32)))) d11_one_445 xm_rI rfl ⟨Nat.le_refl _, Nat.le_refl _⟩ (h hS)
            · have h := h.2 g
              refine x_iconst d11_one_271 qi_2 ?_
              exact x_ret (r := (some (.int (2 : Int32)))) d11_one_272 xm_rI rfl ⟨Nat.le_refl _, Nat.le_refl _⟩ (h hS)
    · have h := h.2 g
      refine x_iload d11_one_130 5 rfl ?_
      refine x_bipush d11_one_132 qb_11 ?_
      refine x_icmp_ge d11_one_134 (t := 233) (by decide) (fun g => ?_) (fun g => ?_)
      · have h := h.1 g
        refine x_iload d11_one_233 5 rfl ?_
        refine x_bipush d11_one_235 qb_11 ?_
        refine x_icmp_eq d11_one_237 (t := 247) (by decide) (fun g => ?_) (fun g => ?_)
        · have h := h.1 g
          refine x_iload_n d11_one_247 3 rfl rfl ?_
          refine x_i2l d11_one_248 ?_
          refine x_iload d11_one_249 4 rfl ?_
          refine x_i2l d11_one_251 ?_
          refine x_ladd d11_one_252 ?_
          refine x_lstore d11_one_253 (by decide) (L' := [(6, .long ((Int32.toInt64 v3) + (Int32.toInt64 v4))), (0, .ref (b + 154)), (1, .int v1), (2, .int v2), (3, .int v3), (4, .int v4), (5, .int v5)]) rfl ?_
          refine x_lload d11_one_255 0 rfl ?_
          refine x_lconst d11_one_257 ql_0 ?_
          refine x_lc_lt d11_one_258 d11_one_259 rfl rfl (t := 271) (by decide) (fun g => ?_) (fun g => ?_)
          · have h := h.1 g
            refine x_iconst d11_one_271 qi_2 ?_
            exact x_ret (r := (some (.int (2 : Int32)))) d11_one_272 xm_rI rfl ⟨Nat.le_refl _, Nat.le_refl _⟩ (h hS)
          · have h := h.2 g
            refine x_lload d11_one_262 0 rfl ?_
            refine x_ldc2 d11_one_264 lc11_177 ?_
            refine x_lc_le d11_one_267 d11_one_268 rfl rfl (t := 273) (by decide) (fun g => ?_) (fun g => ?_)
            · have h := h.1 g
              refine x_iload d11_one_273 6 rfl ?_
              refine x_bipush d11_one_275 qb_11 ?_
              refine x_icmp_ne d11_one_277 (t := 302) (by decide) (fun g => ?_) (fun g => ?_)
              · have h := h.1 g
                refine x_aload_n d11_one_302 1 rfl rfl ?_
                refine x_getR d11_one_303 fl11_83 (fun _ _ => rfl) (hS.1 _ _ (sh_154 b)) (hS.2.1 _ _ _ (pt_154_35 b)) ?_
                refine x_lload d11_one_306 0 rfl ?_
                refine x_l2i d11_one_308 ?_
                refine x_iload_n d11_one_309 3 rfl rfl ?_
                refine x_sipush d11_one_310 qs_255 ?_
                refine x_iand d11_one_313 ?_
                obtain ⟨g30, h⟩ := h
                refine x_iast d11_one_314 (hS.1 _ _ (sh_177 b)) g30 ?_
                refine xm_nm (fun M31 e32 => ?_)
                have h := h M31 e32
                have hS : xm_st b c p M31 := by rw [e32]; exact hS.pi
                refine x_goto d11_one_315 (t := 444) (by decide) ?_
                refine x_iconst d11_one_444 qi_0 ?_
                exact x_ret (r := (some (.int (0 : Int32)))) d11_one_445 xm_rI rfl ⟨Nat.le_refl _, Nat.le_refl _⟩ (h hS)
              · have h := h.2 g
                refine x_aload_n d11_one_280 1 rfl rfl ?_
                refine x_getR d11_one_281 fl11_80 (fun _ _ => rfl) (hS.1 _ _ (sh_154 b)) (hS.2.1 _ _ _ (pt_154_34 b)) ?_
                refine x_aload_n d11_one_284 1 rfl rfl ?_
                refine x_getR d11_one_285 fl11_13 (fun _ _ => rfl) (hS.1 _ _ (sh_154 b)) (hS.2.1 _ _ _ (pt_154_3 b)) ?_
                refine x_iload_n d11_one_288 2 rfl rfl ?_
                obtain ⟨g33, h⟩ := h
                refine x_iald d11_one_289 (hS.1 _ _ (sh_156 b)) g33 ?_
                refine x_aload_n d11_one_290 1 rfl rfl ?_
                refine x_getR d11_one_291 fl11_83 (fun _ _ => rfl) (hS.1 _ _ (sh_154 b)) (hS.2.1 _ _ _ (pt_154_35 b)) ?_
                refine x_lload d11_one_294 0 rfl ?_
                refine x_l2i d11_one_296 ?_
                obtain ⟨g34, h⟩ := h
                refine x_iald d11_one_297 (hS.1 _ _ (sh_177 b)) g34 ?_
                obtain ⟨g35, h⟩ := h
                refine x_iast d11_one_298 (hS.1 _ _ (sh_176 b)) g35 ?_
                refine xm_nm (fun M36 e37 => ?_)
                have h := h M36 e37
                have hS : xm_st b c p M36 := by rw [e37]; exact hS.pi
                refine x_goto d11_one_299 (t := 315) (by decide) ?_
                refine x_goto d11_one_315 (t := 444) (by decide) ?_
                refine x_iconst d11_one_444 qi_0 ?_
                exact x_ret (r := (some (.int (0 : Int32)))) d11_one_445 xm_rI rfl ⟨Nat.le_refl _, Nat.le_refl _⟩ (h hS)
            · have h := h.2 g
              refine x_iconst d11_one_271 qi_2 ?_
              exact x_ret (r := (some (.int (2 : Int32)))) d11_one_272 xm_rI rfl ⟨Nat.le_refl _, Nat.le_refl _⟩ (h hS)
        · have h := h.2 g
          refine x_iload d11_one_240 5 rfl ?_
          refine x_bipush d11_one_242 qb_12 ?_
          refine x_icmp_ne d11_one_244 (t := 318) (by decide) (fun g => ?_) (fun g => ?_)
          · have h := h.1 g
            refine x_iload d11_one_318 5 rfl ?_
            refine x_bipush d11_one_320 qb_12 ?_
            refine x_icmp_le d11_one_322 (t := 394) (by decide) (fun g => ?_) (fun g => ?_)
            · have h := h.1 g
              refine x_aload_n d11_one_394 0 rfl rfl ?_
              refine x_getR d11_one_395 fl11_80 (fun _ _ => rfl) (hS.1 _ _ (sh_154 b)) (hS.2.1 _ _ _ (pt_154_34 b)) ?_
              refine x_aload_n d11_one_398 0 rfl rfl ?_
              refine x_getR d11_one_399 fl11_13 (fun _ _ => rfl) (hS.1 _ _ (sh_154 b)) (hS.2.1 _ _ _ (pt_154_3 b)) ?_
              refine x_iload_n d11_one_402 1 rfl rfl ?_
              obtain ⟨g38, h⟩ := h
              refine x_iald d11_one_403 (hS.1 _ _ (sh_156 b)) g38 ?_
              refine x_iload d11_one_404 5 rfl ?_
              refine x_iconst d11_one_406 qi_1 ?_
              refine x_icmp_ne d11_one_407 (t := 415) (by decide) (fun g => ?_) (fun g => ?_)
              · have h := h.1 g
                refine x_iload d11_one_415 5 rfl ?_
                refine x_iconst d11_one_417 qi_2 ?_
                refine x_icmp_ne d11_one_418 (t := 425) (by decide) (fun g => ?_) (fun g => ?_)
                · have h := h.1 g
                  refine x_iload d11_one_425 5 rfl ?_
                  refine x_bipush d11_one_427 qb_6 ?_
                  refine x_icmp_ne d11_one_429 (t := 439) (by decide) (fun g => ?_) (fun g => ?_)
                  · have h := h.1 g
                    refine x_iload_n d11_one_439 2 rfl rfl ?_
                    refine x_iload d11_one_440 4 rfl ?_
                    refine x_iushr d11_one_442 ?_
                    obtain ⟨g39, h⟩ := h
                    refine x_iast d11_one_443 (hS.1 _ _ (sh_176 b)) g39 ?_
                    refine xm_nm (fun M40 e41 => ?_)
                    have h := h M40 e41
                    have hS : xm_st b c p M40 := by rw [e41]; exact hS.pi
                    refine x_iconst d11_one_444 qi_0 ?_
                    exact x_ret (r := (some (.int (0 : Int32)))) d11_one_445 xm_rI rfl ⟨Nat.le_refl _, Nat.le_refl _⟩ (h hS)
                  · have h := h.2 g
                    refine x_iload_n d11_one_432 2 rfl rfl ?_
                    refine x_iload d11_one_433 4 rfl ?_
                    refine x_iand d11_one_435 ?_
                    refine x_goto d11_one_436 (t := 443) (by decide) ?_
                    obtain ⟨g42, h⟩ := h
                    refine x_iast d11_one_443 (hS.1 _ _ (sh_176 b)) g42 ?_
                    refine xm_nm (fun M43 e44 => ?_)
                    have h := h M43 e44
                    have hS : xm_st b c p M43 := by rw [e44]; exact hS.pi
                    refine x_iconst d11_one_444 qi_0 ?_
                    exact x_ret (r := (some (.int (0 : Int32)))) d11_one_445 xm_rI rfl ⟨Nat.le_refl _, Nat.le_refl _⟩ (h hS)
                · have h := h.2 g
                  refine x_iload_n d11_one_421 3 rfl rfl ?_
                  refine x_goto d11_one_422 (t := 443) (by decide) ?_
                  obtain ⟨g45, h⟩ := h
                  refine x_iast d11_one_443 (hS.1 _ _ (sh_176 b)) g45 ?_
                  refine xm_nm (fun M46 e47 => ?_)
                  have h := h M46 e47
                  have hS : xm_st b c p M46 := by rw [e47]; exact hS.pi
                  refine x_iconst d11_one_444 qi_0 ?_
                  exact x_ret (r := (some (.int (0 : Int32)))) d11_one_445 xm_rI rfl ⟨Nat.le_refl _, Nat.le_refl _⟩ (h hS)
              · have h := h.2 g
                refine x_iload d11_one_410 4 rfl ?_
                refine x_goto d11_one_412 (t := 443) (by decide) ?_
                obtain ⟨g48, h⟩ := h
                refine x_iast d11_one_443 (hS.1 _ _ (sh_176 b)) g48 ?_
                refine xm_nm (fun M49 e50 => ?_)
                have h := h M49 e50
                have hS : xm_st b c p M49 := by rw [e50]; exact hS.pi
                refine x_iconst d11_one_444 qi_0 ?_
                exact x_ret (r := (some (.int (0 : Int32)))) d11_one_445 xm_rI rfl ⟨Nat.le_refl _, Nat.le_refl _⟩ (h hS)
            · have h := h.2 g
              refine x_iload d11_one_325 5 rfl ?_
              refine x_bipush d11_one_327 qb_13 ?_
              refine x_icmp_eq d11_one_329 (t := 369) (by decide) (fun g => ?_) (fun g => ?_)
              · have h := h.1 g
                refine x_iconst d11_one_369 qi_1 ?_
                refine x_goto d11_one_370 (t := 374) (by decide) ?_
                refine x_istore d11_one_374 (by decide) (L' := [(6, .int (1 : Int32)), (0, .ref (b + 154)), (1, .int v1), (2, .int v2), (3, .int v3), (4, .int v4), (5, .int v5)]) rfl ?_
                exact xm_X.sub [1, 2, 0] rfl (h hS)
              · have h := h.2 g
                refine x_iload d11_one_332 5 rfl ?_
                refine x_bipush d11_one_334 qb_14 ?_
                refine x_icmp_ne d11_one_336 (t := 344) (by decide) (fun g => ?_) (fun g => ?_)
                · have h := h.1 g
                  refine x_iload d11_one_344 5 rfl ?_
                  refine x_bipush d11_one_346 qb_15 ?_
                  refine x_icmp_ne d11_one_348 (t := 357) (by decide) (fun g => ?_) (fun g => ?_)
                  · have h := h.1 g
                    refine x_iload d11_one_357 5 rfl ?_
                    refine x_bipush d11_one_359 qb_16 ?_
                    refine x_icmp_ne d11_one_361 (t := 373) (by decide) (fun g => ?_) (fun g => ?_)
                    · have h := h.1 g
                      refine x_iconst d11_one_373 qi_0 ?_
                      refine x_istore d11_one_374 (by decide) (L' := [(6, .int (0 : Int32)), (0, .ref (b + 154)), (1, .int v1), (2, .int v2), (3, .int v3), (4, .int v4), (5, .int v5)]) rfl ?_
                      exact xm_X.sub [1, 2, 0] rfl (h hS)
                    · have h := h.2 g
                      refine x_iload_n d11_one_364 2 rfl rfl ?_
                      refine x_iload_n d11_one_365 3 rfl rfl ?_
                      refine x_icmp_ne d11_one_366 (t := 373) (by decide) (fun g => ?_) (fun g => ?_)
                      · have h := h.1 g
                        refine x_iconst d11_one_373 qi_0 ?_
                        refine x_istore d11_one_374 (by decide) (L' := [(6, .int (0 : Int32)), (0, .ref (b + 154)), (1, .int v1), (2, .int v2), (3, .int v3), (4, .int v4), (5, .int v5)]) rfl ?_
                        exact xm_X.sub [1, 2, 0] rfl (h hS)
                      · have h := h.2 g
                        refine x_iconst d11_one_369 qi_1 ?_
                        refine x_goto d11_one_370 (t := 374) (by decide) ?_
                        refine x_istore d11_one_374 (by decide) (L' := [(6, .int (1 : Int32)), (0, .ref (b + 154)), (1, .int v1), (2, .int v2), (3, .int v3), (4, .int v4), (5, .int v5)]) rfl ?_
                        exact xm_X.sub [1, 2, 0] rfl (h hS)
                  · have h := h.2 g
                    refine x_iload_n d11_one_351 2 rfl rfl ?_
                    refine x_iload d11_one_352 4 rfl ?_
                    refine x_icmp_lt d11_one_354 (t := 369) (by decide) (fun g => ?_) (fun g => ?_)
                    · have h := h.1 g
                      refine x_iconst d11_one_369 qi_1 ?_
                      refine x_goto d11_one_370 (t := 374) (by decide) ?_
                      refine x_istore d11_one_374 (by decide) (L' := [(6, .int (1 : Int32)), (0, .ref (b + 154)), (1, .int v1), (2, .int v2), (3, .int v3), (4, .int v4), (5, .int v5)]) rfl ?_
                      exact xm_X.sub [1, 2, 0] rfl (h hS)
                    · have h := h.2 g
                      refine x_iload d11_one_357 5 rfl ?_
                      refine x_bipush d11_one_359 qb_16 ?_
                      refine x_icmp_ne d11_one_361 (t := 373) (by decide) (fun g => ?_) (fun g => ?_)
                      · have h := h.1 g
                        refine x_iconst d11_one_373 qi_0 ?_
                        refine x_istore d11_one_374 (by decide) (L' := [(6, .int (0 : Int32)), (0, .ref (b + 154)), (1, .int v1), (2, .int v2), (3, .int v3), (4, .int v4), (5, .int v5)]) rfl ?_
                        exact xm_X.sub [1, 2, 0] rfl (h hS)
                      · have h := h.2 g
                        refine x_iload_n d11_one_364 2 rfl rfl ?_
                        refine x_iload_n d11_one_365 3 rfl rfl ?_
                        refine x_icmp_ne d11_one_366 (t := 373) (by decide) (fun g => ?_) (fun g => ?_)
                        · have h := h.1 g
                          refine x_iconst d11_one_373 qi_0 ?_
                          refine x_istore d11_one_374 (by decide) (L' := [(6, .int (0 : Int32)), (0, .ref (b + 154)), (1, .int v1), (2, .int v2), (3, .int v3), (4, .int v4), (5, .int v5)]) rfl ?_
                          exact xm_X.sub [1, 2, 0] rfl (h hS)
                        · have h := h.2 g
                          refine x_iconst d11_one_369 qi_1 ?_
                          refine x_goto d11_one_370 (t := 374) (by decide) ?_
                          refine x_istore d11_one_374 (by decide) (L' := [(6, .int (1 : Int32)), (0, .ref (b + 154)), (1, .int v1), (2, .int v2), (3, .int v3), (4, .int v4), (5, .int v5)]) rfl ?_
                          exact xm_X.sub [1, 2, 0] rfl (h hS)
                · have h := h.2 g
                  refine x_iload_n d11_one_339 2 rfl rfl ?_
                  refine x_iload_n d11_one_340 3 rfl rfl ?_
                  refine x_icmp_lt d11_one_341 (t := 369) (by decide) (fun g => ?_) (fun g => ?_)
                  · have h := h.1 g
                    refine x_iconst d11_one_369 qi_1 ?_
                    refine x_goto d11_one_370 (t := 374) (by decide) ?_
                    refine x_istore d11_one_374 (by decide) (L' := [(6, .int (1 : Int32)), (0, .ref (b + 154)), (1, .int v1), (2, .int v2), (3, .int v3), (4, .int v4), (5, .int v5)]) rfl ?_
                    exact xm_X.sub [1, 2, 0] rfl (h hS)
                  · have h := h.2 g
                    refine x_iload d11_one_344 5 rfl ?_
                    refine x_bipush d11_one_346 qb_15 ?_
                    refine x_icmp_ne d11_one_348 (t := 357) (by decide) (fun g => ?_) (fun g => ?_)
                    · have h := h.1 g
                      refine x_iload d11_one_357 5 rfl ?_
                      refine x_bipush d11_one_359 qb_16 ?_
                      refine x_icmp_ne d11_one_361 (t := 373) (by decide) (fun g => ?_) (fun g => ?_)
                      · have h := h.1 g
                        refine x_iconst d11_one_373 qi_0 ?_
                        refine x_istore d11_one_374 (by decide) (L' := [(6, .int (0 : Int32)), (0, .ref (b + 154)), (1, .int v1), (2, .int v2), (3, .int v3), (4, .int v4), (5, .int v5)]) rfl ?_
                        exact xm_X.sub [1, 2, 0] rfl (h hS)
                      · have h := h.2 g
                        refine x_iload_n d11_one_364 2 rfl rfl ?_
                        refine x_iload_n d11_one_365 3 rfl rfl ?_
                        refine x_icmp_ne d11_one_366 (t := 373) (by decide) (fun g => ?_) (fun g => ?_)
                        · have h := h.1 g
                          refine x_iconst d11_one_373 qi_0 ?_
                          refine x_istore d11_one_374 (by decide) (L' := [(6, .int (0 : Int32)), (0, .ref (b + 154)), (1, .int v1), (2, .int v2), (3, .int v3), (4, .int v4), (5, .int v5)]) rfl ?_
                          exact xm_X.sub [1, 2, 0] rfl (h hS)
                        · have h := h.2 g
                          refine x_iconst d11_one_369 qi_1 ?_
                          refine x_goto d11_one_370 (t := 374) (by decide) ?_
                          refine x_istore d11_one_374 (by decide) (L' := [(6, .int (1 : Int32)), (0, .ref (b + 154)), (1, .int v1), (2, .int v2), (3, .int v3), (4, .int v4), (5, .int v5)]) rfl ?_
                          exact xm_X.sub [1, 2, 0] rfl (h hS)
                    · have h := h.2 g
                      refine x_iload_n d11_one_351 2 rfl rfl ?_
                      refine x_iload d11_one_352 4 rfl ?_
                      refine x_icmp_lt d11_one_354 (t := 369) (by decide) (fun g => ?_) (fun g => ?_)
                      · have h := h.1 g
                        refine x_iconst d11_one_369 qi_1 ?_
                        refine x_goto d11_one_370 (t := 374) (by decide) ?_
                        refine x_istore d11_one_374 (by decide) (L' := [(6, .int (1 : Int32)), (0, .ref (b + 154)), (1, .int v1), (2, .int v2), (3, .int v3), (4, .int v4), (5, .int v5)]) rfl ?_
                        exact xm_X.sub [1, 2, 0] rfl (h hS)
                      · have h := h.2 g
                        refine x_iload d11_one_357 5 rfl ?_
                        refine x_bipush d11_one_359 qb_16 ?_
                        refine x_icmp_ne d11_one_361 (t := 373) (by decide) (fun g => ?_) (fun g => ?_)
                        · have h := h.1 g
                          refine x_iconst d11_one_373 qi_0 ?_
                          refine x_istore d11_one_374 (by decide) (L' := [(6, .int (0 : Int32)), (0, .ref (b + 154)), (1, .int v1), (2, .int v2), (3, .int v3), (4, .int v4), (5, .int v5)]) rfl ?_
                          exact xm_X.sub [1, 2, 0] rfl (h hS)
                        · have h := h.2 g
                          refine x_iload_n d11_one_364 2 rfl rfl ?_
                          refine x_iload_n d11_one_365 3 rfl rfl ?_
                          refine x_icmp_ne d11_one_366 (t := 373) (by decide) (fun g => ?_) (fun g => ?_)
                          · have h := h.1 g
                            refine x_iconst d11_one_373 qi_0 ?_
                            refine x_istore d11_one_374 (by decide) (L' := [(6, .int (0 : Int32)), (0, .ref (b + 154)), (1, .int v1), (2, .int v2), (3, .int v3), (4, .int v4), (5, .int v5)]) rfl ?_
                            exact xm_X.sub [1, 2, 0] rfl (h hS)
                          · have h := h.2 g
                            refine x_iconst d11_one_369 qi_1 ?_
                            refine x_goto d11_one_370 (t := 374) (by decide) ?_
                            refine x_istore d11_one_374 (by decide) (L' := [(6, .int (1 : Int32)), (0, .ref (b + 154)), (1, .int v1), (2, .int v2), (3, .int v3), (4, .int v4), (5, .int v5)]) rfl ?_
                            exact xm_X.sub [1, 2, 0] rfl (h hS)
          · have h := h.2 g
            refine x_iload_n d11_one_247 3 rfl rfl ?_
            refine x_i2l d11_one_248 ?_
            refine x_iload d11_one_249 4 rfl ?_
            refine x_i2l d11_one_251 ?_
            refine x_ladd d11_one_252 ?_
            refine x_lstore d11_one_253 (by decide) (L' := [(6, .long ((Int32.toInt64 v3) + (Int32.toInt64 v4))), (0, .ref (b + 154)), (1, .int v1), (2, .int v2), (3, .int v3), (4, .int v4), (5, .int v5)]) rfl ?_
            refine x_lload d11_one_255 0 rfl ?_
            refine x_lconst d11_one_257 ql_0 ?_
            refine x_lc_lt d11_one_258 d11_one_259 rfl rfl (t := 271) (by decide) (fun g => ?_) (fun g => ?_)
            · have h := h.1 g
              refine x_iconst d11_one_271 qi_2 ?_
              exact x_ret (r := (some (.int (2 : Int32)))) d11_one_272 xm_rI rfl ⟨Nat.le_refl _, Nat.le_refl _⟩ (h hS)
            · have h := h.2 g
              refine x_lload d11_one_262 0 rfl ?_
              refine x_ldc2 d11_one_264 lc11_177 ?_
              refine x_lc_le d11_one_267 d11_one_268 rfl rfl (t := 273) (by decide) (fun g => ?_) (fun g => ?_)
              · have h := h.1 g
                refine x_iload d11_one_273 6 rfl ?_
                refine x_bipush d11_one_275 qb_11 ?_
                refine x_icmp_ne d11_one_277 (t := 302) (by decide) (fun g => ?_) (fun g => ?_)
                · have h := h.1 g
                  refine x_aload_n d11_one_302 1 rfl rfl ?_
                  refine x_getR d11_one_303 fl11_83 (fun _ _ => rfl) (hS.1 _ _ (sh_154 b)) (hS.2.1 _ _ _ (pt_154_35 b)) ?_
                  refine x_lload d11_one_306 0 rfl ?_
                  refine x_l2i d11_one_308 ?_
                  refine x_iload_n d11_one_309 3 rfl rfl ?_
                  refine x_sipush d11_one_310 qs_255 ?_
                  refine x_iand d11_one_313 ?_
                  obtain ⟨g51, h⟩ := h
                  refine x_iast d11_one_314 (hS.1 _ _ (sh_177 b)) g51 ?_
                  refine xm_nm (fun M52 e53 => ?_)
                  have h := h M52 e53
                  have hS : xm_st b c p M52 := by rw [e53]; exact hS.pi
                  refine x_goto d11_one_315 (t := 444) (by decide) ?_
                  refine x_iconst d11_one_444 qi_0 ?_
                  exact x_ret (r := (some (.int (0 : Int32)))) d11_one_445 xm_rI rfl ⟨Nat.le_refl _, Nat.le_refl _⟩ (h hS)
                · have h := h.2 g
                  refine x_aload_n d11_one_280 1 rfl rfl ?_
                  refine x_getR d11_one_281 fl11_80 (fun _ _ => rfl) (hS.1 _ _ (sh_154 b)) (hS.2.1 _ _ _ (pt_154_34 b)) ?_
                  refine x_aload_n d11_one_284 1 rfl rfl ?_
                  refine x_getR d11_one_285 fl11_13 (fun _ _ => rfl) (hS.1 _ _ (sh_154 b)) (hS.2.1 _ _ _ (pt_154_3 b)) ?_
                  refine x_iload_n d11_one_288 2 rfl rfl ?_
                  obtain ⟨g54, h⟩ := h
                  refine x_iald d11_one_289 (hS.1 _ _ (sh_156 b)) g54 ?_
                  refine x_aload_n d11_one_290 1 rfl rfl ?_
                  refine x_getR d11_one_291 fl11_83 (fun _ _ => rfl) (hS.1 _ _ (sh_154 b)) (hS.2.1 _ _ _ (pt_154_35 b)) ?_
                  refine x_lload d11_one_294 0 rfl ?_
                  refine x_l2i d11_one_296 ?_
                  obtain ⟨g55, h⟩ := h
                  refine x_iald d11_one_297 (hS.1 _ _ (sh_177 b)) g55 ?_
                  obtain ⟨g56, h⟩ := h
                  refine x_iast d11_one_298 (hS.1 _ _ (sh_176 b)) g56 ?_
                  refine xm_nm (fun M57 e58 => ?_)
                  have h := h M57 e58
                  have hS : xm_st b c p M57 := by rw [e58]; exact hS.pi
                  refine x_goto d11_one_299 (t := 315) (by decide) ?_
                  refine x_goto d11_one_315 (t := 444) (by decide) ?_
                  refine x_iconst d11_one_444 qi_0 ?_
                  exact x_ret (r := (some (.int (0 : Int32)))) d11_one_445 xm_rI rfl ⟨Nat.le_refl _, Nat.le_refl _⟩ (h hS)
              · have h := h.2 g
                refine x_iconst d11_one_271 qi_2 ?_
                exact x_ret (r := (some (.int (2 : Int32)))) d11_one_272 xm_rI rfl ⟨Nat.le_refl _, Nat.le_refl _⟩ (h hS)
      · have h := h.2 g
        refine x_iload_n d11_one_137 3 rfl rfl ?_
        refine x_i2l d11_one_138 ?_
        refine x_iload d11_one_139 4 rfl ?_
        refine x_i2l d11_one_141 ?_
        refine x_ladd d11_one_142 ?_
        refine x_lstore d11_one_143 (by decide) (L' := [(6, .long ((Int32.toInt64 v3) + (Int32.toInt64 v4))), (0, .ref (b + 154)), (1, .int v1), (2, .int v2), (3, .int v3), (4, .int v4), (5, .int v5)]) rfl ?_
        refine x_lload d11_one_145 0 rfl ?_
        refine x_lconst d11_one_147 ql_0 ?_
        refine x_lc_lt d11_one_148 d11_one_149 rfl rfl (t := 170) (by decide) (fun g => ?_) (fun g => ?_)
        · have h := h.1 g
          refine x_iconst d11_one_170 qi_1 ?_
          exact x_ret (r := (some (.int (1 : Int32)))) d11_one_171 xm_rI rfl ⟨Nat.le_refl _, Nat.le_refl _⟩ (h hS)
        · have h := h.2 g
          refine x_lload d11_one_152 0 rfl ?_
          refine x_iload d11_one_154 6 rfl ?_
          refine x_cSI (Z := y11_sizeOf) (S := rm11_sizeOf) (As := [.int v5]) (rest := [.long ((Int32.toInt64 v3) + (Int32.toInt64 v4))]) d11_one_156 ml11_179 k11_sizeOf rfl rfl (Nat.le_of_ble_eq_true rfl) ⟨⟨by decide, by decide⟩, by decide, by decide⟩ ⟨rfl, rfl⟩ h (fun r60 M59 h => ?_)
          obtain ⟨hS, h⟩ := h
          refine x_i2l d11_one_159 ?_
          refine x_ladd d11_one_160 ?_
          refine x_aload_n d11_one_161 1 rfl rfl ?_
          refine x_getI d11_one_162 fl11_269 (fun _ _ => rfl) (hS.1 _ _ (sh_154 b)) ?_
          refine x_i2l d11_one_165 ?_
          refine x_lc_le d11_one_166 d11_one_167 rfl rfl (t := 172) (by decide) (fun g => ?_) (fun g => ?_)
          · have h := h.1 g
            refine x_iconst d11_one_172 qi_0 ?_
            refine x_istore d11_one_173 (by decide) (L' := [(8, .int (0 : Int32)), (6, .long ((Int32.toInt64 v3) + (Int32.toInt64 v4))), (0, .ref (b + 154)), (1, .int v1), (2, .int v2), (3, .int v3), (4, .int v4), (5, .int v5)]) rfl ?_
            refine x_iconst d11_one_175 qi_0 ?_
            refine x_istore d11_one_176 (by decide) (L' := [(9, .int (0 : Int32)), (8, .int (0 : Int32)), (6, .long ((Int32.toInt64 v3) + (Int32.toInt64 v4))), (0, .ref (b + 154)), (1, .int v1), (2, .int v2), (3, .int v3), (4, .int v4), (5, .int v5)]) rfl ?_
            exact xm_X.sub [3, 4, 8, 2, 1, 0] rfl (h hS)
          · have h := h.2 g
            refine x_iconst d11_one_170 qi_1 ?_
            exact x_ret (r := (some (.int (1 : Int32)))) d11_one_171 xm_rI rfl ⟨Nat.le_refl _, Nat.le_refl _⟩ (h hS)
  · have h := h.2 g
    refine x_iload d11_one_53 5 rfl ?_
    refine x_bipush d11_one_55 qb_6 ?_
    refine x_icmp_ge d11_one_57 (t := 123) (by decide) (fun g => ?_) (fun g => ?_)
    · have h := h.1 g
      refine x_iload d11_one_123 5 rfl ?_
      refine x_bipush d11_one_125 qb_7 ?_
      refine x_icmp_le d11_one_127 (t := 233) (by decide) (fun g => ?_) (fun g => ?_)
      · have h := h.1 g
        refine x_iload d11_one_233 5 rfl ?_
        refine x_bipush d11_one_235 qb_11 ?_
        refine x_icmp_eq d11_one_237 (t := 247) (by decide) (fun g => ?_) (fun g => ?_)
        · have h := h.1 g
          refine x_iload_n d11_one_247 3 rfl rfl ?_
          refine x_i2l d11_one_248 ?_
          refine x_iload d11_one_249 4 rfl ?_
          refine x_i2l d11_one_251 ?_
          refine x_ladd d11_one_252 ?_
          refine x_lstore d11_one_253 (by decide) (L' := [(6, .long ((Int32.toInt64 v3) + (Int32.toInt64 v4))), (0, .ref (b + 154)), (1, .int v1), (2, .int v2), (3, .int v3), (4, .int v4), (5, .int v5)]) rfl ?_
          refine x_lload d11_one_255 0 rfl ?_
          refine x_lconst d11_one_257 ql_0 ?_
          refine x_lc_lt d11_one_258 d11_one_259 rfl rfl (t := 271) (by decide) (fun g => ?_) (fun g => ?_)
          · have h := h.1 g
            refine x_iconst d11_one_271 qi_2 ?_
            exact x_ret (r := (some (.int (2 : Int32)))) d11_one_272 xm_rI rfl ⟨Nat.le_refl _, Nat.le_refl _⟩ (h hS)
          · have h := h.2 g
            refine x_lload d11_one_262 0 rfl ?_
            refine x_ldc2 d11_one_264 lc11_177 ?_
            refine x_lc_le d11_one_267 d11_one_268 rfl rfl (t := 273) (by decide) (fun g => ?_) (fun g => ?_)
            · have h := h.1 g
              refine x_iload d11_one_273 6 rfl ?_
              refine x_bipush d11_one_275 qb_11 ?_
              refine x_icmp_ne d11_one_277 (t := 302) (by decide) (fun g => ?_) (fun g => ?_)
              · have h := h.1 g
                refine x_aload_n d11_one_302 1 rfl rfl ?_
                refine x_getR d11_one_303 fl11_83 (fun _ _ => rfl) (hS.1 _ _ (sh_154 b)) (hS.2.1 _ _ _ (pt_154_35 b)) ?_
                refine x_lload d11_one_306 0 rfl ?_
                refine x_l2i d11_one_308 ?_
                refine x_iload_n d11_one_309 3 rfl rfl ?_
                refine x_sipush d11_one_310 qs_255 ?_
                refine x_iand d11_one_313 ?_
                obtain ⟨g61, h⟩ := h
                refine x_iast d11_one_314 (hS.1 _ _ (sh_177 b)) g61 ?_
                refine xm_nm (fun M62 e63 => ?_)
                have h := h M62 e63
                have hS : xm_st b c p M62 := by rw [e63]; exact hS.pi
                refine x_goto d11_one_315 (t := 444) (by decide) ?_
                refine x_iconst d11_one_444 qi_0 ?_
                exact x_ret (r := (some (.int (0 : Int32)))) d11_one_445 xm_rI rfl ⟨Nat.le_refl _, Nat.le_refl _⟩ (h hS)
              · have h := h.2 g
                refine x_aload_n d11_one_280 1 rfl rfl ?_
                refine x_getR d11_one_281 fl11_80 (fun _ _ => rfl) (hS.1 _ _ (sh_154 b)) (hS.2.1 _ _ _ (pt_154_34 b)) ?_
                refine x_aload_n d11_one_284 1 rfl rfl ?_
                refine x_getR d11_one_285 fl11_13 (fun _ _ => rfl) (hS.1 _ _ (sh_154 b)) (hS.2.1 _ _ _ (pt_154_3 b)) ?_
                refine x_iload_n d11_one_288 2 rfl rfl ?_
                obtain ⟨g64, h⟩ := h
                refine x_iald d11_one_289 (hS.1 _ _ (sh_156 b)) g64 ?_
                refine x_aload_n d11_one_290 1 rfl rfl ?_
                refine x_getR d11_one_291 fl11_83 (fun _ _ => rfl) (hS.1 _ _ (sh_154 b)) (hS.2.1 _ _ _ (pt_154_35 b)) ?_
                refine x_lload d11_one_294 0 rfl ?_
                refine x_l2i d11_one_296 ?_
                obtain ⟨g65, h⟩ := h
                refine x_iald d11_one_297 (hS.1 _ _ (sh_177 b)) g65 ?_
                obtain ⟨g66, h⟩ := h
                refine x_iast d11_one_298 (hS.1 _ _ (sh_176 b)) g66 ?_
                refine xm_nm (fun M67 e68 => ?_)
                have h := h M67 e68
                have hS : xm_st b c p M67 := by rw [e68]; exact hS.pi
                refine x_goto d11_one_299 (t := 315) (by decide) ?_
                refine x_goto d11_one_315 (t := 444) (by decide) ?_
                refine x_iconst d11_one_444 qi_0 ?_
                exact x_ret (r := (some (.int (0 : Int32)))) d11_one_445 xm_rI rfl ⟨Nat.le_refl _, Nat.le_refl _⟩ (h hS)
            · have h := h.2 g
              refine x_iconst d11_one_271 qi_2 ?_
              exact x_ret (r := (some (.int (2 : Int32)))) d11_one_272 xm_rI rfl ⟨Nat.le_refl _, Nat.le_refl _⟩ (h hS)
        · have h := h.2 g
          refine x_iload d11_one_240 5 rfl ?_
          refine x_bipush d11_one_242 qb_12 ?_
          refine x_icmp_ne d11_one_244 (t := 318) (by decide) (fun g => ?_) (fun g => ?_)
          · have h := h.1 g
            refine x_iload d11_one_318 5 rfl ?_
            refine x_bipush d11_one_320 qb_12 ?_
            refine x_icmp_le d11_one_322 (t := 394) (by decide) (fun g => ?_) (fun g => ?_)
            · have h := h.1 g
              refine x_aload_n d11_one_394 0 rfl rfl ?_
              refine x_getR d11_one_395 fl11_80 (fun _ _ => rfl) (hS.1 _ _ (sh_154 b)) (hS.2.1 _ _ _ (pt_154_34 b)) ?_
              refine x_aload_n d11_one_398 0 rfl rfl ?_
              refine x_getR d11_one_399 fl11_13 (fun _ _ => rfl) (hS.1 _ _ (sh_154 b)) (hS.2.1 _ _ _ (pt_154_3 b)) ?_
              refine x_iload_n d11_one_402 1 rfl rfl ?_
              obtain ⟨g69, h⟩ := h
              refine x_iald d11_one_403 (hS.1 _ _ (sh_156 b)) g69 ?_
              refine x_iload d11_one_404 5 rfl ?_
              refine x_iconst d11_one_406 qi_1 ?_
              refine x_icmp_ne d11_one_407 (t := 415) (by decide) (fun g => ?_) (fun g => ?_)
              · have h := h.1 g
                refine x_iload d11_one_415 5 rfl ?_
                refine x_iconst d11_one_417 qi_2 ?_
                refine x_icmp_ne d11_one_418 (t := 425) (by decide) (fun g => ?_) (fun g => ?_)
                · have h := h.1 g
                  refine x_iload d11_one_425 5 rfl ?_
                  refine x_bipush d11_one_427 qb_6 ?_
                  refine x_icmp_ne d11_one_429 (t := 439) (by decide) (fun g => ?_) (fun g => ?_)
                  · have h := h.1 g
                    refine x_iload_n d11_one_439 2 rfl rfl ?_
                    refine x_iload d11_one_440 4 rfl ?_
                    refine x_iushr d11_one_442 ?_
                    obtain ⟨g70, h⟩ := h
                    refine x_iast d11_one_443 (hS.1 _ _ (sh_176 b)) g70 ?_
                    refine xm_nm (fun M71 e72 => ?_)
                    have h := h M71 e72
                    have hS : xm_st b c p M71 := by rw [e72]; exact hS.pi
                    refine x_iconst d11_one_444 qi_0 ?_
                    exact x_ret (r := (some (.int (0 : Int32)))) d11_one_445 xm_rI rfl ⟨Nat.le_refl _, Nat.le_refl _⟩ (h hS)
                  · have h := h.2 g
                    refine x_iload_n d11_one_432 2 rfl rfl ?_
                    refine x_iload d11_one_433 4 rfl ?_
                    refine x_iand d11_one_435 ?_
                    refine x_goto d11_one_436 (t := 443) (by decide) ?_
                    obtain ⟨g73, h⟩ := h
                    refine x_iast d11_one_443 (hS.1 _ _ (sh_176 b)) g73 ?_
                    refine xm_nm (fun M74 e75 => ?_)
                    have h := h M74 e75
                    have hS : xm_st b c p M74 := by rw [e75]; exact hS.pi
                    refine x_iconst d11_one_444 qi_0 ?_
                    exact x_ret (r := (some (.int (0 : Int32)))) d11_one_445 xm_rI rfl ⟨Nat.le_refl _, Nat.le_refl _⟩ (h hS)
                · have h := h.2 g
                  refine x_iload_n d11_one_421 3 rfl rfl ?_
                  refine x_goto d11_one_422 (t := 443) (by decide) ?_
                  obtain ⟨g76, h⟩ := h
                  refine x_iast d11_one_443 (hS.1 _ _ (sh_176 b)) g76 ?_
                  refine xm_nm (fun M77 e78 => ?_)
                  have h := h M77 e78
                  have hS : xm_st b c p M77 := by rw [e78]; exact hS.pi
                  refine x_iconst d11_one_444 qi_0 ?_
                  exact x_ret (r := (some (.int (0 : Int32)))) d11_one_445 xm_rI rfl ⟨Nat.le_refl _, Nat.le_refl _⟩ (h hS)
              · have h := h.2 g
                refine x_iload d11_one_410 4 rfl ?_
                refine x_goto d11_one_412 (t := 443) (by decide) ?_
                obtain ⟨g79, h⟩ := h
                refine x_iast d11_one_443 (hS.1 _ _ (sh_176 b)) g79 ?_
                refine xm_nm (fun M80 e81 => ?_)
                have h := h M80 e81
                have hS : xm_st b c p M80 := by rw [e81]; exact hS.pi
                refine x_iconst d11_one_444 qi_0 ?_
                exact x_ret (r := (some (.int (0 : Int32)))) d11_one_445 xm_rI rfl ⟨Nat.le_refl _, Nat.le_refl _⟩ (h hS)
            · have h := h.2 g
              refine x_iload d11_one_325 5 rfl ?_
              refine x_bipush d11_one_327 qb_13 ?_
              refine x_icmp_eq d11_one_329 (t := 369) (by decide) (fun g => ?_) (fun g => ?_)
              · have h := h.1 g
                refine x_iconst d11_one_369 qi_1 ?_
                refine x_goto d11_one_370 (t := 374) (by decide) ?_
                refine x_istore d11_one_374 (by decide) (L' := [(6, .int (1 : Int32)), (0, .ref (b + 154)), (1, .int v1), (2, .int v2), (3, .int v3), (4, .int v4), (5, .int v5)]) rfl ?_
                exact xm_X.sub [1, 2, 0] rfl (h hS)
              · have h := h.2 g
                refine x_iload d11_one_332 5 rfl ?_
                refine x_bipush d11_one_334 qb_14 ?_
                refine x_icmp_ne d11_one_336 (t := 344) (by decide) (fun g => ?_) (fun g => ?_)
                · have h := h.1 g
                  refine x_iload d11_one_344 5 rfl ?_
                  refine x_bipush d11_one_346 qb_15 ?_
                  refine x_icmp_ne d11_one_348 (t := 357) (by decide) (fun g => ?_) (fun g => ?_)
                  · have h := h.1 g
                    refine x_iload d11_one_357 5 rfl ?_
                    refine x_bipush d11_one_359 qb_16 ?_
                    refine x_icmp_ne d11_one_361 (t := 373) (by decide) (fun g => ?_) (fun g => ?_)
                    · have h := h.1 g
                      refine x_iconst d11_one_373 qi_0 ?_
                      refine x_istore d11_one_374 (by decide) (L' := [(6, .int (0 : Int32)), (0, .ref (b + 154)), (1, .int v1), (2, .int v2), (3, .int v3), (4, .int v4), (5, .int v5)]) rfl ?_
                      exact xm_X.sub [1, 2, 0] rfl (h hS)
                    · have h := h.2 g
                      refine x_iload_n d11_one_364 2 rfl rfl ?_
                      refine x_iload_n d11_one_365 3 rfl rfl ?_
                      refine x_icmp_ne d11_one_366 (t := 373) (by decide) (fun g => ?_) (fun g => ?_)
                      · have h := h.1 g
                        refine x_iconst d11_one_373 qi_0 ?_
                        refine x_istore d11_one_374 (by decide) (L' := [(6, .int (0 : Int32)), (0, .ref (b + 154)), (1, .int v1), (2, .int v2), (3, .int v3), (4, .int v4), (5, .int v5)]) rfl ?_
                        exact xm_X.sub [1, 2, 0] rfl (h hS)
                      · have h := h.2 g
                        refine x_iconst d11_one_369 qi_1 ?_
                        refine x_goto d11_one_370 (t := 374) (by decide) ?_
                        refine x_istore d11_one_374 (by decide) (L' := [(6, .int (1 : Int32)), (0, .ref (b + 154)), (1, .int v1), (2, .int v2), (3, .int v3), (4, .int v4), (5, .int v5)]) rfl ?_
                        exact xm_X.sub [1, 2, 0] rfl (h hS)
                  · have h := h.2 g
                    refine x_iload_n d11_one_351 2 rfl rfl ?_
                    refine x_iload d11_one_352 4 rfl ?_
                    refine x_icmp_lt d11_one_354 (t := 369) (by decide) (fun g => ?_) (fun g => ?_)
                    · have h := h.1 g
                      refine x_iconst d11_one_369 qi_1 ?_
                      refine x_goto d11_one_370 (t := 374) (by decide) ?_
                      refine x_istore d11_one_374 (by decide) (L' := [(6, .int (1 : Int32)), (0, .ref (b + 154)), (1, .int v1), (2, .int v2), (3, .int v3), (4, .int v4), (5, .int v5)]) rfl ?_
                      exact xm_X.sub [1, 2, 0] rfl (h hS)
                    · have h := h.2 g
                      refine x_iload d11_one_357 5 rfl ?_
                      refine x_bipush d11_one_359 qb_16 ?_
                      refine x_icmp_ne d11_one_361 (t := 373) (by decide) (fun g => ?_) (fun g => ?_)
                      · have h := h.1 g
                        refine x_iconst d11_one_373 qi_0 ?_
                        refine x_istore d11_one_374 (by decide) (L' := [(6, .int (0 : Int32)), (0, .ref (b + 154)), (1, .int v1), (2, .int v2), (3, .int v3), (4, .int v4), (5, .int v5)]) rfl ?_
                        exact xm_X.sub [1, 2, 0] rfl (h hS)
                      · have h := h.2 g
                        refine x_iload_n d11_one_364 2 rfl rfl ?_
                        refine x_iload_n d11_one_365 3 rfl rfl ?_
                        refine x_icmp_ne d11_one_366 (t := 373) (by decide) (fun g => ?_) (fun g => ?_)
                        · have h := h.1 g
                          refine x_iconst d11_one_373 qi_0 ?_
                          refine x_istore d11_one_374 (by decide) (L' := [(6, .int (0 : Int32)), (0, .ref (b + 154)), (1, .int v1), (2, .int v2), (3, .int v3), (4, .int v4), (5, .int v5)]) rfl ?_
                          exact xm_X.sub [1, 2, 0] rfl (h hS)
                        · have h := h.2 g
                          refine x_iconst d11_one_369 qi_1 ?_
                          refine x_goto d11_one_370 (t := 374) (by decide) ?_
                          refine x_istore d11_one_374 (by decide) (L' := [(6, .int (1 : Int32)), (0, .ref (b + 154)), (1, .int v1), (2, .int v2), (3, .int v3), (4, .int v4), (5, .int v5)]) rfl ?_
                          exact xm_X.sub [1, 2, 0] rfl (h hS)
                · have h := h.2 g
                  refine x_iload_n d11_one_339 2 rfl rfl ?_
                  refine x_iload_n d11_one_340 3 rfl rfl ?_
                  refine x_icmp_lt d11_one_341 (t := 369) (by decide) (fun g => ?_) (fun g => ?_)
                  · have h := h.1 g
                    refine x_iconst d11_one_369 qi_1 ?_
                    refine x_goto d11_one_370 (t := 374) (by decide) ?_
                    refine x_istore d11_one_374 (by decide) (L' := [(6, .int (1 : Int32)), (0, .ref (b + 154)), (1, .int v1), (2, .int v2), (3, .int v3), (4, .int v4), (5, .int v5)]) rfl ?_
                    exact xm_X.sub [1, 2, 0] rfl (h hS)
                  · have h := h.2 g
                    refine x_iload d11_one_344 5 rfl ?_
                    refine x_bipush d11_one_346 qb_15 ?_
                    refine x_icmp_ne d11_one_348 (t := 357) (by decide) (fun g => ?_) (fun g => ?_)
                    · have h := h.1 g
                      refine x_iload d11_one_357 5 rfl ?_
                      refine x_bipush d11_one_359 qb_16 ?_
                      refine x_icmp_ne d11_one_361 (t := 373) (by decide) (fun g => ?_) (fun g => ?_)
                      · have h := h.1 g
                        refine x_iconst d11_one_373 qi_0 ?_
                        refine x_istore d11_one_374 (by decide) (L' := [(6, .int (0 : Int32)), (0, .ref (b + 154)), (1, .int v1), (2, .int v2), (3, .int v3), (4, .int v4), (5, .int v5)]) rfl ?_
                        exact xm_X.sub [1, 2, 0] rfl (h hS)
                      · have h := h.2 g
                        refine x_iload_n d11_one_364 2 rfl rfl ?_
                        refine x_iload_n d11_one_365 3 rfl rfl ?_
                        refine x_icmp_ne d11_one_366 (t := 373) (by decide) (fun g => ?_) (fun g => ?_)
                        · have h := h.1 g
                          refine x_iconst d11_one_373 qi_0 ?_
                          refine x_istore d11_one_374 (by decide) (L' := [(6, .int (0 : Int32)), (0, .ref (b + 154)), (1, .int v1), (2, .int v2), (3, .int v3), (4, .int v4), (5, .int v5)]) rfl ?_
                          exact xm_X.sub [1, 2, 0] rfl (h hS)
                        · have h := h.2 g
                          refine x_iconst d11_one_369 qi_1 ?_
                          refine x_goto d11_one_370 (t := 374) (by decide) ?_
                          refine x_istore d11_one_374 (by decide) (L' := [(6, .int (1 : Int32)), (0, .ref (b + 154)), (1, .int v1), (2, .int v2), (3, .int v3), (4, .int v4), (5, .int v5)]) rfl ?_
                          exact xm_X.sub [1, 2, 0] rfl (h hS)
                    · have h := h.2 g
                      refine x_iload_n d11_one_351 2 rfl rfl ?_
                      refine x_iload d11_one_352 4 rfl ?_
                      refine x_icmp_lt d11_one_354 (t := 369) (by decide) (fun g => ?_) (fun g => ?_)
                      · have h := h.1 g
                        refine x_iconst d11_one_369 qi_1 ?_
                        refine x_goto d11_one_370 (t := 374) (by decide) ?_
                        refine x_istore d11_one_374 (by decide) (L' := [(6, .int (1 : Int32)), (0, .ref (b + 154)), (1, .int v1), (2, .int v2), (3, .int v3), (4, .int v4), (5, .int v5)]) rfl ?_
                        exact xm_X.sub [1, 2, 0] rfl (h hS)
                      · have h := h.2 g
                        refine x_iload d11_one_357 5 rfl ?_
                        refine x_bipush d11_one_359 qb_16 ?_
                        refine x_icmp_ne d11_one_361 (t := 373) (by decide) (fun g => ?_) (fun g => ?_)
                        · have h := h.1 g
                          refine x_iconst d11_one_373 qi_0 ?_
                          refine x_istore d11_one_374 (by decide) (L' := [(6, .int (0 : Int32)), (0, .ref (b + 154)), (1, .int v1), (2, .int v2), (3, .int v3), (4, .int v4), (5, .int v5)]) rfl ?_
                          exact xm_X.sub [1, 2, 0] rfl (h hS)
                        · have h := h.2 g
                          refine x_iload_n d11_one_364 2 rfl rfl ?_
                          refine x_iload_n d11_one_365 3 rfl rfl ?_
                          refine x_icmp_ne d11_one_366 (t := 373) (by decide) (fun g => ?_) (fun g => ?_)
                          · have h := h.1 g
                            refine x_iconst d11_one_373 qi_0 ?_
                            refine x_istore d11_one_374 (by decide) (L' := [(6, .int (0 : Int32)), (0, .ref (b + 154)), (1, .int v1), (2, .int v2), (3, .int v3), (4, .int v4), (5, .int v5)]) rfl ?_
                            exact xm_X.sub [1, 2, 0] rfl (h hS)
                          · have h := h.2 g
                            refine x_iconst d11_one_369 qi_1 ?_
                            refine x_goto d11_one_370 (t := 374) (by decide) ?_
                            refine x_istore d11_one_374 (by decide) (L' := [(6, .int (1 : Int32)), (0, .ref (b + 154)), (1, .int v1), (2, .int v2), (3, .int v3), (4, .int v4), (5, .int v5)]) rfl ?_
                            exact xm_X.sub [1, 2, 0] rfl (h hS)
          · have h := h.2 g
            refine x_iload_n d11_one_247 3 rfl rfl ?_
            refine x_i2l d11_one_248 ?_
            refine x_iload d11_one_249 4 rfl ?_
            refine x_i2l d11_one_251 ?_
            refine x_ladd d11_one_252 ?_
            refine x_lstore d11_one_253 (by decide) (L' := [(6, .long ((Int32.toInt64 v3) + (Int32.toInt64 v4))), (0, .ref (b + 154)), (1, .int v1), (2, .int v2), (3, .int v3), (4, .int v4), (5, .int v5)]) rfl ?_
            refine x_lload d11_one_255 0 rfl ?_
            refine x_lconst d11_one_257 ql_0 ?_
            refine x_lc_lt d11_one_258 d11_one_259 rfl rfl (t := 271) (by decide) (fun g => ?_) (fun g => ?_)
            · have h := h.1 g
              refine x_iconst d11_one_271 qi_2 ?_
              exact x_ret (r := (some (.int (2 : Int32)))) d11_one_272 xm_rI rfl ⟨Nat.le_refl _, Nat.le_refl _⟩ (h hS)
            · have h := h.2 g
              refine x_lload d11_one_262 0 rfl ?_
              refine x_ldc2 d11_one_264 lc11_177 ?_
              refine x_lc_le d11_one_267 d11_one_268 rfl rfl (t := 273) (by decide) (fun g => ?_) (fun g => ?_)
              · have h := h.1 g
                refine x_iload d11_one_273 6 rfl ?_
                refine x_bipush d11_one_275 qb_11 ?_
                refine x_icmp_ne d11_one_277 (t := 302) (by decide) (fun g => ?_) (fun g => ?_)
                · have h := h.1 g
                  refine x_aload_n d11_one_302 1 rfl rfl ?_
                  refine x_getR d11_one_303 fl11_83 (fun _ _ => rfl) (hS.1 _ _ (sh_154 b)) (hS.2.1 _ _ _ (pt_154_35 b)) ?_
                  refine x_lload d11_one_306 0 rfl ?_
                  refine x_l2i d11_one_308 ?_
                  refine x_iload_n d11_one_309 3 rfl rfl ?_
                  refine x_sipush d11_one_310 qs_255 ?_
                  refine x_iand d11_one_313 ?_
                  obtain ⟨g82, h⟩ := h
                  refine x_iast d11_one_314 (hS.1 _ _ (sh_177 b)) g82 ?_
                  refine xm_nm (fun M83 e84 => ?_)
                  have h := h M83 e84
                  have hS : xm_st b c p M83 := by rw [e84]; exact hS.pi
                  refine x_goto d11_one_315 (t := 444) (by decide) ?_
                  refine x_iconst d11_one_444 qi_0 ?_
                  exact x_ret (r := (some (.int (0 : Int32)))) d11_one_445 xm_rI rfl ⟨Nat.le_refl _, Nat.le_refl _⟩ (h hS)
                · have h := h.2 g
                  refine x_aload_n d11_one_280 1 rfl rfl ?_
                  refine x_getR d11_one_281 fl11_80 (fun _ _ => rfl) (hS.1 _ _ (sh_154 b)) (hS.2.1 _ _ _ (pt_154_34 b)) ?_
                  refine x_aload_n d11_one_284 1 rfl rfl ?_
                  refine x_getR d11_one_285 fl11_13 (fun _ _ => rfl) (hS.1 _ _ (sh_154 b)) (hS.2.1 _ _ _ (pt_154_3 b)) ?_
                  refine x_iload_n d11_one_288 2 rfl rfl ?_
                  obtain ⟨g85, h⟩ := h
                  refine x_iald d11_one_289 (hS.1 _ _ (sh_156 b)) g85 ?_
                  refine x_aload_n d11_one_290 1 rfl rfl ?_
                  refine x_getR d11_one_291 fl11_83 (fun _ _ => rfl) (hS.1 _ _ (sh_154 b)) (hS.2.1 _ _ _ (pt_154_35 b)) ?_
                  refine x_lload d11_one_294 0 rfl ?_
                  refine x_l2i d11_one_296 ?_
                  obtain ⟨g86, h⟩ := h
                  refine x_iald d11_one_297 (hS.1 _ _ (sh_177 b)) g86 ?_
                  obtain ⟨g87, h⟩ := h
                  refine x_iast d11_one_298 (hS.1 _ _ (sh_176 b)) g87 ?_
                  refine xm_nm (fun M88 e89 => ?_)
                  have h := h M88 e89
                  have hS : xm_st b c p M88 := by rw [e89]; exact hS.pi
                  refine x_goto d11_one_299 (t := 315) (by decide) ?_
                  refine x_goto d11_one_315 (t := 444) (by decide) ?_
                  refine x_iconst d11_one_444 qi_0 ?_
                  exact x_ret (r := (some (.int (0 : Int32)))) d11_one_445 xm_rI rfl ⟨Nat.le_refl _, Nat.le_refl _⟩ (h hS)
              · have h := h.2 g
                refine x_iconst d11_one_271 qi_2 ?_
                exact x_ret (r := (some (.int (2 : Int32)))) d11_one_272 xm_rI rfl ⟨Nat.le_refl _, Nat.le_refl _⟩ (h hS)
      · have h := h.2 g
        refine x_iload d11_one_130 5 rfl ?_
        refine x_bipush d11_one_132 qb_11 ?_
        refine x_icmp_ge d11_one_134 (t := 233) (by decide) (fun g => ?_) (fun g => ?_)
        · have h := h.1 g
          refine x_iload d11_one_233 5 rfl ?_
          refine x_bipush d11_one_235 qb_11 ?_
          refine x_icmp_eq d11_one_237 (t := 247) (by decide) (fun g => ?_) (fun g => ?_)
          · have h := h.1 g
            refine x_iload_n d11_one_247 3 rfl rfl ?_
            refine x_i2l d11_one_248 ?_
            refine x_iload d11_one_249 4 rfl ?_
            refine x_i2l d11_one_251 ?_
            refine x_ladd d11_one_252 ?_
            refine x_lstore d11_one_253 (by decide) (L' := [(6, .long ((Int32.toInt64 v3) + (Int32.toInt64 v4))), (0, .ref (b + 154)), (1, .int v1), (2, .int v2), (3, .int v3), (4, .int v4), (5, .int v5)]) rfl ?_
            refine x_lload d11_one_255 0 rfl ?_
            refine x_lconst d11_one_257 ql_0 ?_
            refine x_lc_lt d11_one_258 d11_one_259 rfl rfl (t := 271) (by decide) (fun g => ?_) (fun g => ?_)
            · have h := h.1 g
              refine x_iconst d11_one_271 qi_2 ?_
              exact x_ret (r := (some (.int (2 : Int32)))) d11_one_272 xm_rI rfl ⟨Nat.le_refl _, Nat.le_refl _⟩ (h hS)
            · have h := h.2 g
              refine x_lload d11_one_262 0 rfl ?_
              refine x_ldc2 d11_one_264 lc11_177 ?_
              refine x_lc_le d11_one_267 d11_one_268 rfl rfl (t := 273) (by decide) (fun g => ?_) (fun g => ?_)
              · have h := h.1 g
                refine x_iload d11_one_273 6 rfl ?_
                refine x_bipush d11_one_275 qb_11 ?_
                refine x_icmp_ne d11_one_277 (t := 302) (by decide) (fun g => ?_) (fun g => ?_)
                · have h := h.1 g
                  refine x_aload_n d11_one_302 1 rfl rfl ?_
                  refine x_getR d11_one_303 fl11_83 (fun _ _ => rfl) (hS.1 _ _ (sh_154 b)) (hS.2.1 _ _ _ (pt_154_35 b)) ?_
                  refine x_lload d11_one_306 0 rfl ?_
                  refine x_l2i d11_one_308 ?_
                  refine x_iload_n d11_one_309 3 rfl rfl ?_
                  refine x_sipush d11_one_310 qs_255 ?_
                  refine x_iand d11_one_313 ?_
                  obtain ⟨g90, h⟩ := h
                  refine x_iast d11_one_314 (hS.1 _ _ (sh_177 b)) g90 ?_
                  refine xm_nm (fun M91 e92 => ?_)
                  have h := h M91 e92
                  have hS : xm_st b c p M91 := by rw [e92]; exact hS.pi
                  refine x_goto d11_one_315 (t := 444) (by decide) ?_
                  refine x_iconst d11_one_444 qi_0 ?_
                  exact x_ret (r := (some (.int (0 : Int32)))) d11_one_445 xm_rI rfl ⟨Nat.le_refl _, Nat.le_refl _⟩ (h hS)
                · have h := h.2 g
                  refine x_aload_n d11_one_280 1 rfl rfl ?_
                  refine x_getR d11_one_281 fl11_80 (fun _ _ => rfl) (hS.1 _ _ (sh_154 b)) (hS.2.1 _ _ _ (pt_154_34 b)) ?_
                  refine x_aload_n d11_one_284 1 rfl rfl ?_
                  refine x_getR d11_one_285 fl11_13 (fun _ _ => rfl) (hS.1 _ _ (sh_154 b)) (hS.2.1 _ _ _ (pt_154_3 b)) ?_
                  refine x_iload_n d11_one_288 2 rfl rfl ?_
                  obtain ⟨g93, h⟩ := h
                  refine x_iald d11_one_289 (hS.1 _ _ (sh_156 b)) g93 ?_
                  refine x_aload_n d11_one_290 1 rfl rfl ?_
                  refine x_getR d11_one_291 fl11_83 (fun _ _ => rfl) (hS.1 _ _ (sh_154 b)) (hS.2.1 _ _ _ (pt_154_35 b)) ?_
                  refine x_lload d11_one_294 0 rfl ?_
                  refine x_l2i d11_one_296 ?_
                  obtain ⟨g94, h⟩ := h
                  refine x_iald d11_one_297 (hS.1 _ _ (sh_177 b)) g94 ?_
                  obtain ⟨g95, h⟩ := h
                  refine x_iast d11_one_298 (hS.1 _ _ (sh_176 b)) g95 ?_
                  refine xm_nm (fun M96 e97 => ?_)
                  have h := h M96 e97
                  have hS : xm_st b c p M96 := by rw [e97]; exact hS.pi
                  refine x_goto d11_one_299 (t := 315) (by decide) ?_
                  refine x_goto d11_one_315 (t := 444) (by decide) ?_
                  refine x_iconst d11_one_444 qi_0 ?_
                  exact x_ret (r := (some (.int (0 : Int32)))) d11_one_445 xm_rI rfl ⟨Nat.le_refl _, Nat.le_refl _⟩ (h hS)
              · have h := h.2 g
                refine x_iconst d11_one_271 qi_2 ?_
                exact x_ret (r := (some (.int (2 : Int32)))) d11_one_272 xm_rI rfl ⟨Nat.le_refl _, Nat.le_refl _⟩ (h hS)
          · have h := h.2 g
            refine x_iload d11_one_240 5 rfl ?_
            refine x_bipush d11_one_242 qb_12 ?_
            refine x_icmp_ne d11_one_244 (t := 318) (by decide) (fun g => ?_) (fun g => ?_)
            · have h := h.1 g
              refine x_iload d11_one_318 5 rfl ?_
              refine x_bipush d11_one_320 qb_12 ?_
              refine x_icmp_le d11_one_322 (t := 394) (by decide) (fun g => ?_) (fun g => ?_)
              · have h := h.1 g
                refine x_aload_n d11_one_394 0 rfl rfl ?_
                refine x_getR d11_one_395 fl11_80 (fun _ _ => rfl) (hS.1 _ _ (sh_154 b)) (hS.2.1 _ _ _ (pt_154_34 b)) ?_
                refine x_aload_n d11_one_398 0 rfl rfl ?_
                refine x_getR d11_one_399 fl11_13 (fun _ _ => rfl) (hS.1 _ _ (sh_154 b)) (hS.2.1 _ _ _ (pt_154_3 b)) ?_
                refine x_iload_n d11_one_402 1 rfl rfl ?_
                obtain ⟨g98, h⟩ := h
                refine x_iald d11_one_403 (hS.1 _ _ (sh_156 b)) g98 ?_
                refine x_iload d11_one_404 5 rfl ?_
                refine x_iconst d11_one_406 qi_1 ?_
                refine x_icmp_ne d11_one_407 (t := 415) (by decide) (fun g => ?_) (fun g => ?_)
                · have h := h.1 g
                  refine x_iload d11_one_415 5 rfl ?_
                  refine x_iconst d11_one_417 qi_2 ?_
                  refine x_icmp_ne d11_one_418 (t := 425) (by decide) (fun g => ?_) (fun g => ?_)
                  · have h := h.1 g
                    refine x_iload d11_one_425 5 rfl ?_
                    refine x_bipush d11_one_427 qb_6 ?_
                    refine x_icmp_ne d11_one_429 (t := 439) (by decide) (fun g => ?_) (fun g => ?_)
                    · have h := h.1 g
                      refine x_iload_n d11_one_439 2 rfl rfl ?_
                      refine x_iload d11_one_440 4 rfl ?_
                      refine x_iushr d11_one_442 ?_
                      obtain ⟨g99, h⟩ := h
                      refine x_iast d11_one_443 (hS.1 _ _ (sh_176 b)) g99 ?_
                      refine xm_nm (fun M100 e101 => ?_)
                      have h := h M100 e101
                      have hS : xm_st b c p M100 := by rw [e101]; exact hS.pi
                      refine x_iconst d11_one_444 qi_0 ?_
                      exact x_ret (r := (some (.int (0 : Int32)))) d11_one_445 xm_rI rfl ⟨Nat.le_refl _, Nat.le_refl _⟩ (h hS)
                    · have h := h.2 g
                      refine x_iload_n d11_one_432 2 rfl rfl ?_
                      refine x_iload d11_one_433 4 rfl ?_
                      refine x_iand d11_one_435 ?_
                      refine x_goto d11_one_436 (t := 443) (by decide) ?_
                      obtain ⟨g102, h⟩ := h
                      refine x_iast d11_one_443 (hS.1 _ _ (sh_176 b)) g102 ?_
                      refine xm_nm (fun M103 e104 => ?_)
                      have h := h M103 e104
                      have hS : xm_st b c p M103 := by rw [e104]; exact hS.pi
                      refine x_iconst d11_one_444 qi_0 ?_
                      exact x_ret (r := (some (.int (0 : Int32)))) d11_one_445 xm_rI rfl ⟨Nat.le_refl _, Nat.le_refl _⟩ (h hS)
                  · have h := h.2 g
                    refine x_iload_n d11_one_421 3 rfl rfl ?_
                    refine x_goto d11_one_422 (t := 443) (by decide) ?_
                    obtain ⟨g105, h⟩ := h
                    refine x_iast d11_one_443 (hS.1 _ _ (sh_176 b)) g105 ?_
                    refine xm_nm (fun M106 e107 => ?_)
                    have h := h M106 e107
                    have hS : xm_st b c p M106 := by rw [e107]; exact hS.pi
                    refine x_iconst d11_one_444 qi_0 ?_
                    exact x_ret (r := (some (.int (0 : Int32)))) d11_one_445 xm_rI rfl ⟨Nat.le_refl _, Nat.le_refl _⟩ (h hS)
                · have h := h.2 g
                  refine x_iload d11_one_410 4 rfl ?_
                  refine x_goto d11_one_412 (t := 443) (by decide) ?_
                  obtain ⟨g108, h⟩ := h
                  refine x_iast d11_one_443 (hS.1 _ _ (sh_176 b)) g108 ?_
                  refine xm_nm (fun M109 e110 => ?_)
                  have h := h M109 e110
                  have hS : xm_st b c p M109 := by rw [e110]; exact hS.pi
                  refine x_iconst d11_one_444 qi_0 ?_
                  exact x_ret (r := (some (.int (0 : Int32)))) d11_one_445 xm_rI rfl ⟨Nat.le_refl _, Nat.le_refl _⟩ (h hS)
              · have h := h.2 g
                refine x_iload d11_one_325 5 rfl ?_
                refine x_bipush d11_one_327 qb_13 ?_
                refine x_icmp_eq d11_one_329 (t := 369) (by decide) (fun g => ?_) (fun g => ?_)
                · have h := h.1 g
                  refine x_iconst d11_one_369 qi_1 ?_
                  refine x_goto d11_one_370 (t := 374) (by decide) ?_
                  refine x_istore d11_one_374 (by decide) (L' := [(6, .int (1 : Int32)), (0, .ref (b + 154)), (1, .int v1), (2, .int v2), (3, .int v3), (4, .int v4), (5, .int v5)]) rfl ?_
                  exact xm_X.sub [1, 2, 0] rfl (h hS)
                · have h := h.2 g
                  refine x_iload d11_one_332 5 rfl ?_
                  refine x_bipush d11_one_334 qb_14 ?_
                  refine x_icmp_ne d11_one_336 (t := 344) (by decide) (fun g => ?_) (fun g => ?_)
                  · have h := h.1 g
                    refine x_iload d11_one_344 5 rfl ?_
                    refine x_bipush d11_one_346 qb_15 ?_
                    refine x_icmp_ne d11_one_348 (t := 357) (by decide) (fun g => ?_) (fun g => ?_)
                    · have h := h.1 g
                      refine x_iload d11_one_357 5 rfl ?_
                      refine x_bipush d11_one_359 qb_16 ?_
                      refine x_icmp_ne d11_one_361 (t := 373) (by decide) (fun g => ?_) (fun g => ?_)
                      · have h := h.1 g
                        refine x_iconst d11_one_373 qi_0 ?_
                        refine x_istore d11_one_374 (by decide) (L' := [(6, .int (0 : Int32)), (0, .ref (b + 154)), (1, .int v1), (2, .int v2), (3, .int v3), (4, .int v4), (5, .int v5)]) rfl ?_
                        exact xm_X.sub [1, 2, 0] rfl (h hS)
                      · have h := h.2 g
                        refine x_iload_n d11_one_364 2 rfl rfl ?_
                        refine x_iload_n d11_one_365 3 rfl rfl ?_
                        refine x_icmp_ne d11_one_366 (t := 373) (by decide) (fun g => ?_) (fun g => ?_)
                        · have h := h.1 g
                          refine x_iconst d11_one_373 qi_0 ?_
                          refine x_istore d11_one_374 (by decide) (L' := [(6, .int (0 : Int32)), (0, .ref (b + 154)), (1, .int v1), (2, .int v2), (3, .int v3), (4, .int v4), (5, .int v5)]) rfl ?_
                          exact xm_X.sub [1, 2, 0] rfl (h hS)
                        · have h := h.2 g
                          refine x_iconst d11_one_369 qi_1 ?_
                          refine x_goto d11_one_370 (t := 374) (by decide) ?_
                          refine x_istore d11_one_374 (by decide) (L' := [(6, .int (1 : Int32)), (0, .ref (b + 154)), (1, .int v1), (2, .int v2), (3, .int v3), (4, .int v4), (5, .int v5)]) rfl ?_
                          exact xm_X.sub [1, 2, 0] rfl (h hS)
                    · have h := h.2 g
                      refine x_iload_n d11_one_351 2 rfl rfl ?_
                      refine x_iload d11_one_352 4 rfl ?_
                      refine x_icmp_lt d11_one_354 (t := 369) (by decide) (fun g => ?_) (fun g => ?_)
                      · have h := h.1 g
                        refine x_iconst d11_one_369 qi_1 ?_
                        refine x_goto d11_one_370 (t := 374) (by decide) ?_
                        refine x_istore d11_one_374 (by decide) (L' := [(6, .int (1 : Int32)), (0, .ref (b + 154)), (1, .int v1), (2, .int v2), (3, .int v3), (4, .int v4), (5, .int v5)]) rfl ?_
                        exact xm_X.sub [1, 2, 0] rfl (h hS)
                      · have h := h.2 g
                        refine x_iload d11_one_357 5 rfl ?_
                        refine x_bipush d11_one_359 qb_16 ?_
                        refine x_icmp_ne d11_one_361 (t := 373) (by decide) (fun g => ?_) (fun g => ?_)
                        · have h := h.1 g
                          refine x_iconst d11_one_373 qi_0 ?_
                          refine x_istore d11_one_374 (by decide) (L' := [(6, .int (0 : Int32)), (0, .ref (b + 154)), (1, .int v1), (2, .int v2), (3, .int v3), (4, .int v4), (5, .int v5)]) rfl ?_
                          exact xm_X.sub [1, 2, 0] rfl (h hS)
                        · have h := h.2 g
                          refine x_iload_n d11_one_364 2 rfl rfl ?_
                          refine x_iload_n d11_one_365 3 rfl rfl ?_
                          refine x_icmp_ne d11_one_366 (t := 373) (by decide) (fun g => ?_) (fun g => ?_)
                          · have h := h.1 g
                            refine x_iconst d11_one_373 qi_0 ?_
                            refine x_istore d11_one_374 (by decide) (L' := [(6, .int (0 : Int32)), (0, .ref (b + 154)), (1, .int v1), (2, .int v2), (3, .int v3), (4, .int v4), (5, .int v5)]) rfl ?_
                            exact xm_X.sub [1, 2, 0] rfl (h hS)
                          · have h := h.2 g
                            refine x_iconst d11_one_369 qi_1 ?_
                            refine x_goto d11_one_370 (t := 374) (by decide) ?_
                            refine x_istore d11_one_374 (by decide) (L' := [(6, .int (1 : Int32)), (0, .ref (b + 154)), (1, .int v1), (2, .int v2), (3, .int v3), (4, .int v4), (5, .int v5)]) rfl ?_
                            exact xm_X.sub [1, 2, 0] rfl (h hS)
                  · have h := h.2 g
                    refine x_iload_n d11_one_339 2 rfl rfl ?_
                    refine x_iload_n d11_one_340 3 rfl rfl ?_
                    refine x_icmp_lt d11_one_341 (t := 369) (by decide) (fun g => ?_) (fun g => ?_)
                    · have h := h.1 g
                      refine x_iconst d11_one_369 qi_1 ?_
                      refine x_goto d11_one_370 (t := 374) (by decide) ?_
                      refine x_istore d11_one_374 (by decide) (L' := [(6, .int (1 : Int32)), (0, .ref (b + 154)), (1, .int v1), (2, .int v2), (3, .int v3), (4, .int v4), (5, .int v5)]) rfl ?_
                      exact xm_X.sub [1, 2, 0] rfl (h hS)
                    · have h := h.2 g
                      refine x_iload d11_one_344 5 rfl ?_
                      refine x_bipush d11_one_346 qb_15 ?_
                      refine x_icmp_ne d11_one_348 (t := 357) (by decide) (fun g => ?_) (fun g => ?_)
                      · have h := h.1 g
                        refine x_iload d11_one_357 5 rfl ?_
                        refine x_bipush d11_one_359 qb_16 ?_
                        refine x_icmp_ne d11_one_361 (t := 373) (by decide) (fun g => ?_) (fun g => ?_)
                        · have h := h.1 g
                          refine x_iconst d11_one_373 qi_0 ?_
                          refine x_istore d11_one_374 (by decide) (L' := [(6, .int (0 : Int32)), (0, .ref (b + 154)), (1, .int v1), (2, .int v2), (3, .int v3), (4, .int v4), (5, .int v5)]) rfl ?_
                          exact xm_X.sub [1, 2, 0] rfl (h hS)
                        · have h := h.2 g
                          refine x_iload_n d11_one_364 2 rfl rfl ?_
                          refine x_iload_n d11_one_365 3 rfl rfl ?_
                          refine x_icmp_ne d11_one_366 (t := 373) (by decide) (fun g => ?_) (fun g => ?_)
                          · have h := h.1 g
                            refine x_iconst d11_one_373 qi_0 ?_
                            refine x_istore d11_one_374 (by decide) (L' := [(6, .int (0 : Int32)), (0, .ref (b + 154)), (1, .int v1), (2, .int v2), (3, .int v3), (4, .int v4), (5, .int v5)]) rfl ?_
                            exact xm_X.sub [1, 2, 0] rfl (h hS)
                          · have h := h.2 g
                            refine x_iconst d11_one_369 qi_1 ?_
                            refine x_goto d11_one_370 (t := 374) (by decide) ?_
                            refine x_istore d11_one_374 (by decide) (L' := [(6, .int (1 : Int32)), (0, .ref (b + 154)), (1, .int v1), (2, .int v2), (3, .int v3), (4, .int v4), (5, .int v5)]) rfl ?_
                            exact xm_X.sub [1, 2, 0] rfl (h hS)
                      · have h := h.2 g
                        refine x_iload_n d11_one_351 2 rfl rfl ?_
                        refine x_iload d11_one_352 4 rfl ?_
                        refine x_icmp_lt d11_one_354 (t := 369) (by decide) (fun g => ?_) (fun g => ?_)
                        · have h := h.1 g
                          refine x_iconst d11_one_369 qi_1 ?_
                          refine x_goto d11_one_370 (t := 374) (by decide) ?_
                          refine x_istore d11_one_374 (by decide) (L' := [(6, .int (1 : Int32)), (0, .ref (b + 154)), (1, .int v1), (2, .int v2), (3, .int v3), (4, .int v4), (5, .int v5)]) rfl ?_
                          exact xm_X.sub [1, 2, 0] rfl (h hS)
                        · have h := h.2 g
                          refine x_iload d11_one_357 5 rfl ?_
                          refine x_bipush d11_one_359 qb_16 ?_
                          refine x_icmp_ne d11_one_361 (t := 373) (by decide) (fun g => ?_) (fun g => ?_)
                          · have h := h.1 g
                            refine x_iconst d11_one_373 qi_0 ?_
                            refine x_istore d11_one_374 (by decide) (L' := [(6, .int (0 : Int32)), (0, .ref (b + 154)), (1, .int v1), (2, .int v2), (3, .int v3), (4, .int v4), (5, .int v5)]) rfl ?_
                            exact xm_X.sub [1, 2, 0] rfl (h hS)
                          · have h := h.2 g
                            refine x_iload_n d11_one_364 2 rfl rfl ?_
                            refine x_iload_n d11_one_365 3 rfl rfl ?_
                            refine x_icmp_ne d11_one_366 (t := 373) (by decide) (fun g => ?_) (fun g => ?_)
                            · have h := h.1 g
                              refine x_iconst d11_one_373 qi_0 ?_
                              refine x_istore d11_one_374 (by decide) (L' := [(6, .int (0 : Int32)), (0, .ref (b + 154)), (1, .int v1), (2, .int v2), (3, .int v3), (4, .int v4), (5, .int v5)]) rfl ?_
                              exact xm_X.sub [1, 2, 0] rfl (h hS)
                            · have h := h.2 g
                              refine x_iconst d11_one_369 qi_1 ?_
                              refine x_goto d11_one_370 (t := 374) (by decide) ?_
                              refine x_istore d11_one_374 (by decide) (L' := [(6, .int (1 : Int32)), (0, .ref (b + 154)), (1, .int v1), (2, .int v2), (3, .int v3), (4, .int v4), (5, .int v5)]) rfl ?_
                              exact xm_X.sub [1, 2, 0] rfl (h hS)
            · have h := h.2 g
              refine x_iload_n d11_one_247 3 rfl rfl ?_
              refine x_i2l d11_one_248 ?_
              refine x_iload d11_one_249 4 rfl ?_
              refine x_i2l d11_one_251 ?_
              refine x_ladd d11_one_252 ?_
              refine x_lstore d11_one_253 (by decide) (L' := [(6, .long ((Int32.toInt64 v3) + (Int32.toInt64 v4))), (0, .ref (b + 154)), (1, .int v1), (2, .int v2), (3, .int v3), (4, .int v4), (5, .int v5)]) rfl ?_
              refine x_lload d11_one_255 0 rfl ?_
              refine x_lconst d11_one_257 ql_0 ?_
              refine x_lc_lt d11_one_258 d11_one_259 rfl rfl (t := 271) (by decide) (fun g => ?_) (fun g => ?_)
              · have h := h.1 g
                refine x_iconst d11_one_271 qi_2 ?_
                exact x_ret (r := (some (.int (2 : Int32)))) d11_one_272 xm_rI rfl ⟨Nat.le_refl _, Nat.le_refl _⟩ (h hS)
              · have h := h.2 g
                refine x_lload d11_one_262 0 rfl ?_
                refine x_ldc2 d11_one_264 lc11_177 ?_
                refine x_lc_le d11_one_267 d11_one_268 rfl rfl (t := 273) (by decide) (fun g => ?_) (fun g => ?_)
                · have h := h.1 g
                  refine x_iload d11_one_273 6 rfl ?_
                  refine x_bipush d11_one_275 qb_11 ?_
                  refine x_icmp_ne d11_one_277 (t := 302) (by decide) (fun g => ?_) (fun g => ?_)
                  · have h := h.1 g
                    refine x_aload_n d11_one_302 1 rfl rfl ?_
                    refine x_getR d11_one_303 fl11_83 (fun _ _ => rfl) (hS.1 _ _ (sh_154 b)) (hS.2.1 _ _ _ (pt_154_35 b)) ?_
                    refine x_lload d11_one_306 0 rfl ?_
                    refine x_l2i d11_one_308 ?_
                    refine x_iload_n d11_one_309 3 rfl rfl ?_
                    refine x_sipush d11_one_310 qs_255 ?_
                    refine x_iand d11_one_313 ?_
                    obtain ⟨g111, h⟩ := h
                    refine x_iast d11_one_314 (hS.1 _ _ (sh_177 b)) g111 ?_
                    refine xm_nm (fun M112 e113 => ?_)
                    have h := h M112 e113
                    have hS : xm_st b c p M112 := by rw [e113]; exact hS.pi
                    refine x_goto d11_one_315 (t := 444) (by decide) ?_
                    refine x_iconst d11_one_444 qi_0 ?_
                    exact x_ret (r := (some (.int (0 : Int32)))) d11_one_445 xm_rI rfl ⟨Nat.le_refl _, Nat.le_refl _⟩ (h hS)
                  · have h := h.2 g
                    refine x_aload_n d11_one_280 1 rfl rfl ?_
                    refine x_getR d11_one_281 fl11_80 (fun _ _ => rfl) (hS.1 _ _ (sh_154 b)) (hS.2.1 _ _ _ (pt_154_34 b)) ?_
                    refine x_aload_n d11_one_284 1 rfl rfl ?_
                    refine x_getR d11_one_285 fl11_13 (fun _ _ => rfl) (hS.1 _ _ (sh_154 b)) (hS.2.1 _ _ _ (pt_154_3 b)) ?_
                    refine x_iload_n d11_one_288 2 rfl rfl ?_
                    obtain ⟨g114, h⟩ := h
                    refine x_iald d11_one_289 (hS.1 _ _ (sh_156 b)) g114 ?_
                    refine x_aload_n d11_one_290 1 rfl rfl ?_
                    refine x_getR d11_one_291 fl11_83 (fun _ _ => rfl) (hS.1 _ _ (sh_154 b)) (hS.2.1 _ _ _ (pt_154_35 b)) ?_
                    refine x_lload d11_one_294 0 rfl ?_
                    refine x_l2i d11_one_296 ?_
                    obtain ⟨g115, h⟩ := h
                    refine x_iald d11_one_297 (hS.1 _ _ (sh_177 b)) g115 ?_
                    obtain ⟨g116, h⟩ := h
                    refine x_iast d11_one_298 (hS.1 _ _ (sh_176 b)) g116 ?_
                    refine xm_nm (fun M117 e118 => ?_)
                    have h := h M117 e118
                    have hS : xm_st b c p M117 := by rw [e118]; exact hS.pi
                    refine x_goto d11_one_299 (t := 315) (by decide) ?_
                    refine x_goto d11_one_315 (t := 444) (by decide) ?_
                    refine x_iconst d11_one_444 qi_0 ?_
                    exact x_ret (r := (some (.int (0 : Int32)))) d11_one_445 xm_rI rfl ⟨Nat.le_refl _, Nat.le_refl _⟩ (h hS)
                · have h := h.2 g
                  refine x_iconst d11_one_271 qi_2 ?_
                  exact x_ret (r := (some (.int (2 : Int32)))) d11_one_272 xm_rI rfl ⟨Nat.le_refl _, Nat.le_refl _⟩ (h hS)
        · have h := h.2 g
          refine x_iload_n d11_one_137 3 rfl rfl ?_
          refine x_i2l d11_one_138 ?_
          refine x_iload d11_one_139 4 rfl ?_
          refine x_i2l d11_one_141 ?_
          refine x_ladd d11_one_142 ?_
          refine x_lstore d11_one_143 (by decide) (L' := [(6, .long ((Int32.toInt64 v3) + (Int32.toInt64 v4))), (0, .ref (b + 154)), (1, .int v1), (2, .int v2), (3, .int v3), (4, .int v4), (5, .int v5)]) rfl ?_
          refine x_lload d11_one_145 0 rfl ?_
          refine x_lconst d11_one_147 ql_0 ?_
          refine x_lc_lt d11_one_148 d11_one_149 rfl rfl (t := 170) (by decide) (fun g => ?_) (fun g => ?_)
          · have h := h.1 g
            refine x_iconst d11_one_170 qi_1 ?_
            exact x_ret (r := (some (.int (1 : Int32)))) d11_one_171 xm_rI rfl ⟨Nat.le_refl _, Nat.le_refl _⟩ (h hS)
          · have h := h.2 g
            refine x_lload d11_one_152 0 rfl ?_
            refine x_iload d11_one_154 6 rfl ?_
            refine x_cSI (Z := y11_sizeOf) (S := rm11_sizeOf) (As := [.int v5]) (rest := [.long ((Int32.toInt64 v3) + (Int32.toInt64 v4))]) d11_one_156 ml11_179 k11_sizeOf rfl rfl (Nat.le_of_ble_eq_true rfl) ⟨⟨by decide, by decide⟩, by decide, by decide⟩ ⟨rfl, rfl⟩ h (fun r120 M119 h => ?_)
            obtain ⟨hS, h⟩ := h
            refine x_i2l d11_one_159 ?_
            refine x_ladd d11_one_160 ?_
            refine x_aload_n d11_one_161 1 rfl rfl ?_
            refine x_getI d11_one_162 fl11_269 (fun _ _ => rfl) (hS.1 _ _ (sh_154 b)) ?_
            refine x_i2l d11_one_165 ?_
            refine x_lc_le d11_one_166 d11_one_167 rfl rfl (t := 172) (by decide) (fun g => ?_) (fun g => ?_)
            · have h := h.1 g
              refine x_iconst d11_one_172 qi_0 ?_
              refine x_istore d11_one_173 (by decide) (L' := [(8, .int (0 : Int32)), (6, .long ((Int32.toInt64 v3) + (Int32.toInt64 v4))), (0, .ref (b + 154)), (1, .int v1), (2, .int v2), (3, .int v3), (4, .int v4), (5, .int v5)]) rfl ?_
              refine x_iconst d11_one_175 qi_0 ?_
              refine x_istore d11_one_176 (by decide) (L' := [(9, .int (0 : Int32)), (8, .int (0 : Int32)), (6, .long ((Int32.toInt64 v3) + (Int32.toInt64 v4))), (0, .ref (b + 154)), (1, .int v1), (2, .int v2), (3, .int v3), (4, .int v4), (5, .int v5)]) rfl ?_
              exact xm_X.sub [3, 4, 8, 2, 1, 0] rfl (h hS)
            · have h := h.2 g
              refine x_iconst d11_one_170 qi_1 ?_
              exact x_ret (r := (some (.int (1 : Int32)))) d11_one_171 xm_rI rfl ⟨Nat.le_refl _, Nat.le_refl _⟩ (h hS)
    · have h := h.2 g
      refine x_iload d11_one_60 5 rfl ?_
      refine x_iconst d11_one_62 qi_3 ?_
      refine x_icmp_ne d11_one_63 (t := 75) (by decide) (fun g => ?_) (fun g => ?_)
      · have h := h.1 g
        refine x_iload d11_one_75 5 rfl ?_
        refine x_iconst d11_one_77 qi_4 ?_
        refine x_icmp_ne d11_one_78 (t := 89) (by decide) (fun g => ?_) (fun g => ?_)
        · have h := h.1 g
          refine x_iload_n d11_one_89 2 rfl rfl ?_
          refine x_i2l d11_one_90 ?_
          refine x_iload_n d11_one_91 3 rfl rfl ?_
          refine x_i2l d11_one_92 ?_
          refine x_lsub d11_one_93 ?_
          refine x_lstore d11_one_94 (by decide) (L' := [(6, .long ((Int32.toInt64 v2) - (Int32.toInt64 v3))), (0, .ref (b + 154)), (1, .int v1), (2, .int v2), (3, .int v3), (4, .int v4), (5, .int v5)]) rfl ?_
          exact xm_X.sub [1, 2, 0] rfl (h hS)
        · have h := h.2 g
          refine x_iload_n d11_one_81 2 rfl rfl ?_
          refine x_i2l d11_one_82 ?_
          refine x_iload_n d11_one_83 3 rfl rfl ?_
          refine x_i2l d11_one_84 ?_
          refine x_ladd d11_one_85 ?_
          refine x_goto d11_one_86 (t := 94) (by decide) ?_
          refine x_lstore d11_one_94 (by decide) (L' := [(6, .long ((Int32.toInt64 v2) + (Int32.toInt64 v3))), (0, .ref (b + 154)), (1, .int v1), (2, .int v2), (3, .int v3), (4, .int v4), (5, .int v5)]) rfl ?_
          exact xm_X.sub [1, 2, 0] rfl (h hS)
      · have h := h.2 g
        refine x_iload_n d11_one_66 2 rfl rfl ?_
        refine x_i2l d11_one_67 ?_
        refine x_iload d11_one_68 4 rfl ?_
        refine x_i2l d11_one_70 ?_
        refine x_ladd d11_one_71 ?_
        refine x_goto d11_one_72 (t := 94) (by decide) ?_
        refine x_lstore d11_one_94 (by decide) (L' := [(6, .long ((Int32.toInt64 v2) + (Int32.toInt64 v4))), (0, .ref (b + 154)), (1, .int v1), (2, .int v2), (3, .int v3), (4, .int v4), (5, .int v5)]) rfl ?_
        exact xm_X.sub [1, 2, 0] rfl (h hS)
set_option maxRecDepth 20000 in
theorem t11_one_376 {l : Launch} {E : xm_E} {b : Nat} {c p : Bool} {Q : Option Value → xm_M → Prop} (M : xm_M) (v1 : Int32) (v6 : Int32) (hS : xm_st b c p M)
  (h : ((v6 = 0 → (xm_st b c p M → Q (some (.int (0 : Int32))) M)) ∧ (¬ v6 = 0 → (vp_in v1 48 ∧ (∀ M2 : xm_M, M2 = (xm_pi M (b + 154) 36 (xm_gi M (b + 159) (Int32.toNatClampNeg v1))) → (xm_st b c p M2 → Q (some (.int (0 : Int32))) M2)))))) :
  xm_X l E y11_one rm11_one Q 376 [(0, .ref (b + 154)), (1, .int v1), (6, .int v6)] [] 0 0 M := by
  refine x_iload d11_one_376 2 rfl ?_
  refine x_if_eq d11_one_378 (t := 391) (by decide) (fun g => ?_) (fun g => ?_)
  · have h := h.1 g
    refine x_goto d11_one_391 (t := 444) (by decide) ?_
    refine x_iconst d11_one_444 qi_0 ?_
    exact x_ret (r := (some (.int (0 : Int32)))) d11_one_445 xm_rI rfl ⟨Nat.le_refl _, Nat.le_refl _⟩ (h hS)
  · have h := h.2 g
    refine x_aload_n d11_one_381 0 rfl rfl ?_
    refine x_aload_n d11_one_382 0 rfl rfl ?_
    refine x_getR d11_one_383 fl11_22 (fun _ _ => rfl) (hS.1 _ _ (sh_154 b)) (hS.2.1 _ _ _ (pt_154_6 b)) ?_
    refine x_iload_n d11_one_386 1 rfl rfl ?_
    obtain ⟨g1, h⟩ := h
    refine x_iald d11_one_387 (hS.1 _ _ (sh_159 b)) g1 ?_
    refine x_putI d11_one_388 fw11_281 (fun _ _ => rfl) rfl rfl (hS.1 _ _ (sh_154 b)) ?_
    refine xm_nm (fun M2 e3 => ?_)
    have h := h M2 e3
    have hS : xm_st b c p M2 := by rw [e3]; exact hS.pi
    refine x_goto d11_one_391 (t := 444) (by decide) ?_
    refine x_iconst d11_one_444 qi_0 ?_
    exact x_ret (r := (some (.int (0 : Int32)))) d11_one_445 xm_rI rfl ⟨Nat.le_refl _, Nat.le_refl _⟩ (h hS)
set_option maxRecDepth 20000 in
theorem t11_one_178 {l : Launch} {E : xm_E} {b : Nat} {c p : Bool} {Q : Option Value → xm_M → Prop} (M : xm_M) (v1 : Int32) (v5 : Int32) (w6 : Int64) (v8 : Int32) (v9 : Int32) (hS : xm_st b c p M)
  (h : xm_C l E y11_sizeOf rm11_sizeOf [.int v5] M (fun r M1 => ∃ r2 : Int32, r = some (.int r2) ∧ xm_st b c p M1 ∧ ((r2 ≤ v9 → (vp_in v1 48 ∧ (vp_in (xm_gi M1 (b + 156) (Int32.toNatClampNeg v1)) 8 ∧ (∀ M5 : xm_M, M5 = (xm_pi M1 (b + 176) (Int32.toNatClampNeg (xm_gi M1 (b + 156) (Int32.toNatClampNeg v1))) v8) → (xm_st b c p M5 → Q (some (.int (0 : Int32))) M5))))) ∧ (¬ r2 ≤ v9 → (vp_in ((Int64.toInt32 w6) + v9) 1024 ∧ (xm_st b c p M1 → xm_X l E y11_one rm11_one Q 178 [(0, .ref (b + 154)), (1, .int v1), (5, .int v5), (6, .long w6), (8, .int ((v8 <<< ((8 : Int32) &&& 31)) ||| ((xm_gi M1 (b + 161) (Int32.toNatClampNeg ((Int64.toInt32 w6) + v9))) &&& (255 : Int32)))), (9, .int (v9 + Int32.ofInt (1)))] [] 0 0 M1)))))) :
  xm_X l E y11_one rm11_one Q 178 [(0, .ref (b + 154)), (1, .int v1), (5, .int v5), (6, .long w6), (8, .int v8), (9, .int v9)] [] 0 0 M := by
  refine x_iload d11_one_178 5 rfl ?_
  refine x_iload d11_one_180 2 rfl ?_
  refine x_cSI (Z := y11_sizeOf) (S := rm11_sizeOf) (As := [.int v5]) (rest := [.int v9]) d11_one_182 ml11_179 k11_sizeOf rfl rfl (Nat.le_of_ble_eq_true rfl) ⟨⟨by decide, by decide⟩, by decide, by decide⟩ ⟨rfl, rfl⟩ h (fun r2 M1 h => ?_)
  obtain ⟨hS, h⟩ := h
  refine x_icmp_ge d11_one_185 (t := 217) (by decide) (fun g => ?_) (fun g => ?_)
  · have h := h.1 g
    refine x_aload_n d11_one_217 0 rfl rfl ?_
    refine x_getR d11_one_218 fl11_80 (fun _ _ => rfl) (hS.1 _ _ (sh_154 b)) (hS.2.1 _ _ _ (pt_154_34 b)) ?_
    refine x_aload_n d11_one_221 0 rfl rfl ?_
    refine x_getR d11_one_222 fl11_13 (fun _ _ => rfl) (hS.1 _ _ (sh_154 b)) (hS.2.1 _ _ _ (pt_154_3 b)) ?_
    refine x_iload_n d11_one_225 1 rfl rfl ?_
    obtain ⟨g3, h⟩ := h
    refine x_iald d11_one_226 (hS.1 _ _ (sh_156 b)) g3 ?_
    refine x_iload d11_one_227 4 rfl ?_
    obtain ⟨g4, h⟩ := h
    refine x_iast d11_one_229 (hS.1 _ _ (sh_176 b)) g4 ?_
    refine xm_nm (fun M5 e6 => ?_)
    have h := h M5 e6
    have hS : xm_st b c p M5 := by rw [e6]; exact hS.pi
    refine x_goto d11_one_230 (t := 444) (by decide) ?_
    refine x_iconst d11_one_444 qi_0 ?_
    exact x_ret (r := (some (.int (0 : Int32)))) d11_one_445 xm_rI rfl ⟨Nat.le_refl _, Nat.le_refl _⟩ (h hS)
  · have h := h.2 g
    refine x_iload d11_one_188 4 rfl ?_
    refine x_bipush d11_one_190 qb_8 ?_
    refine x_ishl d11_one_192 ?_
    refine x_aload_n d11_one_193 0 rfl rfl ?_
    refine x_getR d11_one_194 fl11_32 (fun _ _ => rfl) (hS.1 _ _ (sh_154 b)) (hS.2.1 _ _ _ (pt_154_10 b)) ?_
    refine x_lload d11_one_197 3 rfl ?_
    refine x_l2i d11_one_199 ?_
    refine x_iload d11_one_200 5 rfl ?_
    refine x_iadd d11_one_202 ?_
    obtain ⟨g7, h⟩ := h
    refine x_bald d11_one_203 (hS.1 _ _ (sh_161 b)) g7 ?_
    refine x_sipush d11_one_204 qs_255 ?_
    refine x_iand d11_one_207 ?_
    refine x_ior d11_one_208 ?_
    refine x_istore d11_one_209 (by decide) (L' := [(8, .int ((v8 <<< ((8 : Int32) &&& 31)) ||| ((xm_gi M1 (b + 161) (Int32.toNatClampNeg ((Int64.toInt32 w6) + v9))) &&& (255 : Int32)))), (0, .ref (b + 154)), (1, .int v1), (5, .int v5), (6, .long w6), (9, .int v9)]) rfl ?_
    refine x_iinc d11_one_211 5 rfl rfl (by decide) (L' := [(9, .int (v9 + Int32.ofInt (1))), (8, .int ((v8 <<< ((8 : Int32) &&& 31)) ||| ((xm_gi M1 (b + 161) (Int32.toNatClampNeg ((Int64.toInt32 w6) + v9))) &&& (255 : Int32)))), (0, .ref (b + 154)), (1, .int v1), (5, .int v5), (6, .long w6)]) rfl ?_
    refine x_goto d11_one_214 (t := 178) (by decide) ?_
    exact xm_X.sub [2, 3, 4, 5, 1, 0] rfl (h hS)
set_option maxRecDepth 20000 in
theorem t11_one_96 {l : Launch} {E : xm_E} {b : Nat} {c p : Bool} {Q : Option Value → xm_M → Prop} (M : xm_M) (v1 : Int32) (w6 : Int64) (hS : xm_st b c p M)
  (h : xm_C l E y11_isInt rm11_isInt [.long w6] M (fun r M1 => ∃ r2 : Bool, r = some (.int (xz r2)) ∧ xm_st b c p M1 ∧ ((¬ (xz r2) = 0 → (vp_in v1 48 ∧ (vp_in (xm_gi M1 (b + 156) (Int32.toNatClampNeg v1)) 8 ∧ (∀ M5 : xm_M, M5 = (xm_pi M1 (b + 176) (Int32.toNatClampNeg (xm_gi M1 (b + 156) (Int32.toNatClampNeg v1))) (Int64.toInt32 w6)) → (xm_st b c p M5 → Q (some (.int (0 : Int32))) M5))))) ∧ ((xz r2) = 0 → (xm_st b c p M1 → Q (some (.int (3 : Int32))) M1))))) :
  xm_X l E y11_one rm11_one Q 96 [(0, .ref (b + 154)), (1, .int v1), (6, .long w6)] [] 0 0 M := by
  refine x_lload d11_one_96 2 rfl ?_
  refine x_cSZ (Z := y11_isInt) (S := rm11_isInt) (As := [.long w6]) (rest := []) d11_one_98 ml11_96 k11_isInt rfl rfl (Nat.le_of_ble_eq_true rfl) ⟨⟨by decide, by decide⟩, by decide, by decide⟩ ⟨rfl, rfl⟩ h (fun r2 M1 h => ?_)
  obtain ⟨hS, h⟩ := h
  refine x_if_ne d11_one_101 (t := 106) (by decide) (fun g => ?_) (fun g => ?_)
  · have h := h.1 g
    refine x_aload_n d11_one_106 0 rfl rfl ?_
    refine x_getR d11_one_107 fl11_80 (fun _ _ => rfl) (hS.1 _ _ (sh_154 b)) (hS.2.1 _ _ _ (pt_154_34 b)) ?_
    refine x_aload_n d11_one_110 0 rfl rfl ?_
    refine x_getR d11_one_111 fl11_13 (fun _ _ => rfl) (hS.1 _ _ (sh_154 b)) (hS.2.1 _ _ _ (pt_154_3 b)) ?_
    refine x_iload_n d11_one_114 1 rfl rfl ?_
    obtain ⟨g3, h⟩ := h
    refine x_iald d11_one_115 (hS.1 _ _ (sh_156 b)) g3 ?_
    refine x_lload d11_one_116 2 rfl ?_
    refine x_l2i d11_one_118 ?_
    obtain ⟨g4, h⟩ := h
    refine x_iast d11_one_119 (hS.1 _ _ (sh_176 b)) g4 ?_
    refine xm_nm (fun M5 e6 => ?_)
    have h := h M5 e6
    have hS : xm_st b c p M5 := by rw [e6]; exact hS.pi
    refine x_goto d11_one_120 (t := 444) (by decide) ?_
    refine x_iconst d11_one_444 qi_0 ?_
    exact x_ret (r := (some (.int (0 : Int32)))) d11_one_445 xm_rI rfl ⟨Nat.le_refl _, Nat.le_refl _⟩ (h hS)
  · have h := h.2 g
    refine x_iconst d11_one_104 qi_3 ?_
    exact x_ret (r := (some (.int (3 : Int32)))) d11_one_105 xm_rI rfl ⟨Nat.le_refl _, Nat.le_refl _⟩ (h hS)

set_option maxRecDepth 20000 in
theorem t11_result_0 {l : Launch} {E : xm_E} {b : Nat} {c p : Bool} {Q : Option Value → xm_M → Prop} (M : xm_M)  (hS : xm_st b c p M)
  (h : (xm_st b c p M → Q (some (.int (xm_gi M (b + 154) 12))) M)) :
  xm_X l E y11_result rm11_result Q 0 [(0, .ref (b + 154))] [] 0 0 M := by
  refine x_aload_n d11_result_0 0 rfl rfl ?_
  refine x_getI d11_result_1 fl11_272 (fun _ _ => rfl) (hS.1 _ _ (sh_154 b)) ?_
  exact x_ret (r := (some (.int (xm_gi M (b + 154) 12)))) d11_result_4 xm_rI rfl ⟨Nat.le_refl _, Nat.le_refl _⟩ (h hS)

set_option maxRecDepth 20000 in
theorem t11_steps_0 {l : Launch} {E : xm_E} {b : Nat} {c p : Bool} {Q : Option Value → xm_M → Prop} (M : xm_M)  (hS : xm_st b c p M)
  (h : (xm_st b c p M → Q (some (.int (xm_gi M (b + 154) 13))) M)) :
  xm_X l E y11_steps rm11_steps Q 0 [(0, .ref (b + 154))] [] 0 0 M := by
  refine x_aload_n d11_steps_0 0 rfl rfl ?_
  refine x_getI d11_steps_1 fl11_275 (fun _ _ => rfl) (hS.1 _ _ (sh_154 b)) ?_
  exact x_ret (r := (some (.int (xm_gi M (b + 154) 13)))) d11_steps_4 xm_rI rfl ⟨Nat.le_refl _, Nat.le_refl _⟩ (h hS)
