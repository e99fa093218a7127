set_option maxRecDepth 20000 in
theorem t0_instruction_0 {l : Launch} {E : xm_E} {b : Nat} {c p : Bool} {Q : Option Value → xm_M → Prop} (M : xm_M) (v1 : Int32) (v2 : Int32) (v3 : Int32) (v4 : Int32) (v5 : Int32) (hS : xm_st b c p M)
  (h : ((v1 < 0 → (xm_st b c p M → Q (some (.int (-1 : Int32))) M)) ∧ (¬ v1 < 0 → ((v1 ≤ (16 : Int32) → xm_C l E y1_append rm1_append [.ref (b + 1), .int v1, .int v2, .int v3, .int v4, .int v5] M (fun r M1 => ∃ r2 : Bool, r = some (.int (xz r2)) ∧ xm_st b c p M1 ∧ (((xz r2) = 0 → (xm_st b c p M1 → Q (some (.int (-3 : Int32))) M1)) ∧ (¬ (xz r2) = 0 → (xm_st b c p M1 → Q (some (.int (xm_gi M1 (b + 1) 2))) M1))))) ∧ (¬ v1 ≤ (16 : Int32) → (xm_st b c p M → Q (some (.int (-1 : Int32))) M)))))) :
  xm_X l E y0_instruction rm0_instruction Q 0 [(0, .ref (b + 0)), (1, .int v1), (2, .int v2), (3, .int v3), (4, .int v4), (5, .int v5)] [] 0 0 M := by
  refine x_iload_n d0_instruction_0 1 rfl rfl ?_
  refine x_if_lt d0_instruction_1 (t := 10) (by decide) (fun g => ?_) (fun g => ?_)
  · have h := h.1 g
    refine x_iconst d0_instruction_10 qi_n1 ?_
    exact x_ret (r := (some (.int (-1 : Int32)))) d0_instruction_11 xm_rI rfl ⟨Nat.le_refl _, Nat.le_refl _⟩ (h hS)
  · have h := h.2 g
    refine x_iload_n d0_instruction_4 1 rfl rfl ?_
    refine x_bipush d0_instruction_5 qb_16 ?_
    refine x_icmp_le d0_instruction_7 (t := 12) (by decide) (fun g => ?_) (fun g => ?_)
    · have h := h.1 g
      refine x_aload_n d0_instruction_12 0 rfl rfl ?_
      refine x_getR d0_instruction_13 fl0_23 (fun _ _ => rfl) (hS.1 _ _ (sh_0 b)) (hS.2.1 _ _ _ (pt_0_0 b)) ?_
      refine x_iload_n d0_instruction_16 1 rfl rfl ?_
      refine x_iload_n d0_instruction_17 2 rfl rfl ?_
      refine x_iload_n d0_instruction_18 3 rfl rfl ?_
      refine x_iload d0_instruction_19 4 rfl ?_
      refine x_iload d0_instruction_21 5 rfl ?_
      refine x_cVZ (Z := y1_append) (S := rm1_append) (As := [.int v1, .int v2, .int v3, .int v4, .int v5]) (rest := []) d0_instruction_23 ml0_66 k1_append rfl (b := (b + 1)) (hS.1 _ _ (sh_1 b)) rfl rfl (Nat.le_of_ble_eq_true rfl) ⟨⟨by decide, by decide⟩, by decide, by decide⟩ ⟨rfl, rfl⟩ h (fun r2 M1 h => ?_)
      obtain ⟨hS, h⟩ := h
      refine x_if_eq d0_instruction_26 (t := 39) (by decide) (fun g => ?_) (fun g => ?_)
      · have h := h.1 g
        refine x_bipush d0_instruction_39 qb_n3 ?_
        exact x_ret (r := (some (.int (-3 : Int32)))) d0_instruction_41 xm_rI rfl ⟨Nat.le_refl _, Nat.le_refl _⟩ (h hS)
      · have h := h.2 g
        refine x_aload_n d0_instruction_29 0 rfl rfl ?_
        refine x_getR d0_instruction_30 fl0_23 (fun _ _ => rfl) (hS.1 _ _ (sh_0 b)) (hS.2.1 _ _ _ (pt_0_0 b)) ?_
        refine x_getI d0_instruction_33 fl0_70 (fun _ _ => rfl) (hS.1 _ _ (sh_1 b)) ?_
        refine x_goto d0_instruction_36 (t := 41) (by decide) ?_
        exact x_ret (r := (some (.int (xm_gi M1 (b + 1) 2)))) d0_instruction_41 xm_rI rfl ⟨Nat.le_refl _, Nat.le_refl _⟩ (h hS)
    · have h := h.2 g
      refine x_iconst d0_instruction_10 qi_n1 ?_
      exact x_ret (r := (some (.int (-1 : Int32)))) d0_instruction_11 xm_rI rfl ⟨Nat.le_refl _, Nat.le_refl _⟩ (h hS)

set_option maxRecDepth 20000 in
theorem t0_clear_0 {l : Launch} {E : xm_E} {b : Nat} {c p : Bool} {Q : Option Value → xm_M → Prop} (M : xm_M)  (hS : xm_st b c p M)
  (h : (xm_st b c p (xm_pi M (b + 1) 2 (0 : Int32)) → Q (some (.int (xm_gi M (b + 1) 2))) (xm_pi M (b + 1) 2 (0 : Int32)))) :
  xm_X l E y0_clear rm0_clear Q 0 [(0, .ref (b + 0))] [] 0 0 M := by
  refine x_aload_n d0_clear_0 0 rfl rfl ?_
  refine x_getR d0_clear_1 fl0_23 (fun _ _ => rfl) (hS.1 _ _ (sh_0 b)) (hS.2.1 _ _ _ (pt_0_0 b)) ?_
  refine x_getI d0_clear_4 fl0_70 (fun _ _ => rfl) (hS.1 _ _ (sh_1 b)) ?_
  refine x_istore_n d0_clear_7 rfl (by decide) (L' := [(1, .int (xm_gi M (b + 1) 2)), (0, .ref (b + 0))]) rfl ?_
  refine x_aload_n d0_clear_8 1 rfl rfl ?_
  refine x_getR d0_clear_9 fl0_23 (fun _ _ => rfl) (hS.1 _ _ (sh_0 b)) (hS.2.1 _ _ _ (pt_0_0 b)) ?_
  refine x_iconst d0_clear_12 qi_0 ?_
  refine x_putI d0_clear_13 fw0_70 (fun _ _ => rfl) rfl rfl (hS.1 _ _ (sh_1 b)) ?_
  refine x_iload_n d0_clear_16 0 rfl rfl ?_
  exact x_ret (r := (some (.int (xm_gi M (b + 1) 2)))) d0_clear_17 xm_rI rfl ⟨Nat.le_refl _, Nat.le_refl _⟩ (h hS.pi)

set_option maxRecDepth 20000 in
theorem t0_prove_0 {l : Launch} {E : xm_E} {b : Nat} {c p : Bool} {Q : Option Value → xm_M → Prop} (M : xm_M)  (hS : xm_st b c p M)
  (h : xm_C l E y3_keep rm3_keep [.ref (b + 51), .int (0 : Int32)] M (fun r M1 => ∃ r2 : Bool, r = some (.int (xz r2)) ∧ xm_st b c p M1 ∧ xm_C l E y1_wrongPlace rm1_wrongPlace [.ref (b + 1)] M1 (fun r M3 => ∃ r4 : Int32, r = some (.int r4) ∧ xm_st b c p M3 ∧ (((xm_gi (xm_pi M3 (b + 0) 6 r4) (b + 0) 6) = (-2 : Int32) → xm_C l E y5_produce rm5_produce [.ref (b + 55), .ref (b + 1), .ref (b + 51)] (xm_pi M3 (b + 0) 6 r4) (fun r M5 => ∃ r6 : Int32, r = some (.int r6) ∧ xm_st b c p M5 ∧ (((xm_gi (xm_pi M5 (b + 0) 6 r6) (b + 0) 6) = (-2 : Int32) → (xm_st b c p (xm_pi M5 (b + 0) 6 r6) → Q (some (.int (xm_gi (xm_pi M5 (b + 0) 6 r6) (b + 51) 1))) (xm_pi M5 (b + 0) 6 r6))) ∧ (¬ (xm_gi (xm_pi M5 (b + 0) 6 r6) (b + 0) 6) = (-2 : Int32) → xm_C l E y3_keep rm3_keep [.ref (b + 51), .int (0 : Int32)] (xm_pi M5 (b + 0) 6 r6) (fun r M7 => ∃ r8 : Bool, r = some (.int (xz r8)) ∧ xm_st b c p M7 ∧ (xm_st b c p M7 → Q (some (.int (-2 : Int32))) M7)))))) ∧ (¬ (xm_gi (xm_pi M3 (b + 0) 6 r4) (b + 0) 6) = (-2 : Int32) → (xm_st b c p (xm_pi M3 (b + 0) 6 r4) → Q (some (.int (-1 : Int32))) (xm_pi M3 (b + 0) 6 r4))))))) :
  xm_X l E y0_prove rm0_prove Q 0 [(0, .ref (b + 0))] [] 0 0 M := by
  refine x_aload_n d0_prove_0 0 rfl rfl ?_
  refine x_getR d0_prove_1 fl0_30 (fun _ _ => rfl) (hS.1 _ _ (sh_0 b)) (hS.2.1 _ _ _ (pt_0_1 b)) ?_
  refine x_iconst d0_prove_4 qi_0 ?_
  refine x_cVZ (Z := y3_keep) (S := rm3_keep) (As := [.int (0 : Int32)]) (rest := []) d0_prove_5 ml0_73 k3_keep rfl (b := (b + 51)) (hS.1 _ _ (sh_51 b)) rfl rfl (Nat.le_of_ble_eq_true rfl) ⟨⟨by decide, by decide⟩, by decide, by decide⟩ ⟨rfl, rfl⟩ h (fun r2 M1 h => ?_)
  obtain ⟨hS, h⟩ := h
  refine x_pop d0_prove_8 rfl ?_
  refine x_aload_n d0_prove_9 0 rfl rfl ?_
  refine x_aload_n d0_prove_10 0 rfl rfl ?_
  refine x_getR d0_prove_11 fl0_23 (fun _ _ => rfl) (hS.1 _ _ (sh_0 b)) (hS.2.1 _ _ _ (pt_0_0 b)) ?_
  refine x_cVI (Z := y1_wrongPlace) (S := rm1_wrongPlace) (As := []) (rest := [.ref (b + 0)]) d0_prove_14 ml0_77 k1_wrongPlace rfl (b := (b + 1)) (hS.1 _ _ (sh_1 b)) rfl rfl (Nat.le_of_ble_eq_true rfl) ⟨⟨by decide, by decide⟩, by decide, by decide⟩ ⟨rfl, rfl⟩ h (fun r4 M3 h => ?_)
  obtain ⟨hS, h⟩ := h
  refine x_putI d0_prove_17 fw0_62 (fun _ _ => rfl) rfl rfl (hS.1 _ _ (sh_0 b)) ?_
  refine x_aload_n d0_prove_20 0 rfl rfl ?_
  refine x_getI d0_prove_21 fl0_62 (fun _ _ => rfl) (hS.pi.1 _ _ (sh_0 b)) ?_
  refine x_bipush d0_prove_24 qb_n2 ?_
  refine x_icmp_eq d0_prove_26 (t := 31) (by decide) (fun g => ?_) (fun g => ?_)
  · have h := h.1 g
    refine x_aload_n d0_prove_31 0 rfl rfl ?_
    refine x_aload_n d0_prove_32 0 rfl rfl ?_
    refine x_getR d0_prove_33 fl0_44 (fun _ _ => rfl) (hS.pi.1 _ _ (sh_0 b)) (hS.pi.2.1 _ _ _ (pt_0_3 b)) ?_
    refine x_aload_n d0_prove_36 0 rfl rfl ?_
    refine x_getR d0_prove_37 fl0_23 (fun _ _ => rfl) (hS.pi.1 _ _ (sh_0 b)) (hS.pi.2.1 _ _ _ (pt_0_0 b)) ?_
    refine x_aload_n d0_prove_40 0 rfl rfl ?_
    refine x_getR d0_prove_41 fl0_30 (fun _ _ => rfl) (hS.pi.1 _ _ (sh_0 b)) (hS.pi.2.1 _ _ _ (pt_0_1 b)) ?_
    refine x_cVI (Z := y5_produce) (S := rm5_produce) (As := [.ref (b + 1), .ref (b + 51)]) (rest := [.ref (b + 0)]) d0_prove_44 ml0_81 k5_produce rfl (b := (b + 55)) (hS.pi.1 _ _ (sh_55 b)) rfl rfl (Nat.le_of_ble_eq_true rfl) ⟨⟨by decide, by decide⟩, by decide, by decide⟩ ⟨rfl, rfl⟩ h (fun r6 M5 h => ?_)
    obtain ⟨hS, h⟩ := h
    refine x_putI d0_prove_47 fw0_62 (fun _ _ => rfl) rfl rfl (hS.1 _ _ (sh_0 b)) ?_
    refine x_aload_n d0_prove_50 0 rfl rfl ?_
    refine x_getI d0_prove_51 fl0_62 (fun _ _ => rfl) (hS.pi.1 _ _ (sh_0 b)) ?_
    refine x_bipush d0_prove_54 qb_n2 ?_
    refine x_icmp_eq d0_prove_56 (t := 71) (by decide) (fun g => ?_) (fun g => ?_)
    · have h := h.1 g
      refine x_aload_n d0_prove_71 0 rfl rfl ?_
      refine x_getR d0_prove_72 fl0_30 (fun _ _ => rfl) (hS.pi.1 _ _ (sh_0 b)) (hS.pi.2.1 _ _ _ (pt_0_1 b)) ?_
      refine x_getI d0_prove_75 fl0_85 (fun _ _ => rfl) (hS.pi.1 _ _ (sh_51 b)) ?_
      exact x_ret (r := (some (.int (xm_gi (xm_pi M5 (b + 0) 6 r6) (b + 51) 1)))) d0_prove_78 xm_rI rfl ⟨Nat.le_refl _, Nat.le_refl _⟩ (h hS.pi)
    · have h := h.2 g
      refine x_aload_n d0_prove_59 0 rfl rfl ?_
      refine x_getR d0_prove_60 fl0_30 (fun _ _ => rfl) (hS.pi.1 _ _ (sh_0 b)) (hS.pi.2.1 _ _ _ (pt_0_1 b)) ?_
      refine x_iconst d0_prove_63 qi_0 ?_
      refine x_cVZ (Z := y3_keep) (S := rm3_keep) (As := [.int (0 : Int32)]) (rest := []) d0_prove_64 ml0_73 k3_keep rfl (b := (b + 51)) (hS.pi.1 _ _ (sh_51 b)) rfl rfl (Nat.le_of_ble_eq_true rfl) ⟨⟨by decide, by decide⟩, by decide, by decide⟩ ⟨rfl, rfl⟩ h (fun r8 M7 h => ?_)
      obtain ⟨hS, h⟩ := h
      refine x_pop d0_prove_67 rfl ?_
      refine x_bipush d0_prove_68 qb_n2 ?_
      exact x_ret (r := (some (.int (-2 : Int32)))) d0_prove_70 xm_rI rfl ⟨Nat.le_refl _, Nat.le_refl _⟩ (h hS)
  · have h := h.2 g
    refine x_iconst d0_prove_29 qi_n1 ?_
    exact x_ret (r := (some (.int (-1 : Int32)))) d0_prove_30 xm_rI rfl ⟨Nat.le_refl _, Nat.le_refl _⟩ (h hS.pi)

set_option maxRecDepth 20000 in
theorem t5_produce_0 {l : Launch} {E : xm_E} {b : Nat} {c p : Bool} {Q : Option Value → xm_M → Prop} (M : xm_M)  (hS : xm_st b c p M)
  (h : xm_C l E y5_findBounds rm5_findBounds [.ref (b + 55)] (xm_pi (xm_pi (xm_pr (xm_pr M (b + 55) 8 (some (b + 1))) (b + 55) 9 (some (b + 51))) (b + 55) 10 (0 : Int32)) (b + 55) 11 (1 : Int32)) (fun r M1 => r = none ∧ xm_st b c true M1 ∧ (xm_st b c true M1 → xm_X l E y5_produce rm5_produce Q 31 [(0, .ref (b + 55)), (1, .ref (b + 1)), (3, .int ((xm_gi M1 (b + 1) 2) - (1 : Int32)))] [] 0 0 M1))) :
  xm_X l E y5_produce rm5_produce Q 0 [(0, .ref (b + 55)), (1, .ref (b + 1)), (2, .ref (b + 51))] [] 0 0 M := by
  refine x_aload_n d5_produce_0 0 rfl rfl ?_
  refine x_aload_n d5_produce_1 1 rfl rfl ?_
  refine x_putR d5_produce_2 fw5_55 (fun _ _ => rfl) rfl rfl (hS.1 _ _ (sh_55 b)) ?_
  refine x_aload_n d5_produce_5 0 rfl rfl ?_
  refine x_aload_n d5_produce_6 2 rfl rfl ?_
  refine x_putR d5_produce_7 fw5_59 (fun _ _ => rfl) rfl rfl (hS.1 _ _ (sh_55 b)) ?_
  refine x_aload_n d5_produce_10 0 rfl rfl ?_
  refine x_iconst d5_produce_11 qi_0 ?_
  refine x_putI d5_produce_12 fw5_63 (fun _ _ => rfl) rfl rfl (hS.toP.1 _ _ (sh_55 b)) ?_
  refine x_aload_n d5_produce_15 0 rfl rfl ?_
  refine x_iconst d5_produce_16 qi_1 ?_
  refine x_putI d5_produce_17 fw5_67 (fun _ _ => rfl) rfl rfl (hS.toP.pi.1 _ _ (sh_55 b)) ?_
  refine x_aload_n d5_produce_20 0 rfl rfl ?_
  refine x_cVN (Z := y5_findBounds) (S := rm5_findBounds) (As := []) (rest := []) d5_produce_21 ml5_70 k5_findBounds rfl (b := (b + 55)) (hS.toP.pi.pi.1 _ _ (sh_55 b)) rfl rfl (Nat.le_of_ble_eq_true rfl) ⟨⟨by decide, by decide⟩, by decide, by decide⟩ ⟨rfl, rfl⟩ h (fun M1 h => ?_)
  obtain ⟨hS, h⟩ := h
  refine x_aload_n d5_produce_24 1 rfl rfl ?_
  refine x_getI d5_produce_25 fl5_73 (fun _ _ => rfl) (hS.1 _ _ (sh_1 b)) ?_
  refine x_iconst d5_produce_28 qi_1 ?_
  refine x_isub d5_produce_29 ?_
  refine x_istore_n d5_produce_30 rfl (by decide) (L' := [(3, .int ((xm_gi M1 (b + 1) 2) - (1 : Int32))), (0, .ref (b + 55)), (1, .ref (b + 1)), (2, .ref (b + 51))]) rfl ?_
  exact xm_X.sub [1, 2, 0] rfl (h hS)
set_option maxRecDepth 20000 in
theorem t5_produce_31 {l : Launch} {E : xm_E} {b : Nat} {c p : Bool} {Q : Option Value → xm_M → Prop} (M : xm_M) (v3 : Int32) (hS : xm_st b c p M)
  (h : ((v3 < 0 → xm_C l E y5_writeFacts rm5_writeFacts [.ref (b + 55)] (xm_pi M (b + 55) 10 (1 : Int32)) (fun r M1 => r = none ∧ xm_st b c p M1 ∧ xm_C l E y6_takeBeginning rm6_takeBeginning [.ref (b + 110), .int (xm_gi M1 (b + 1) 0)] M1 (fun r M3 => r = none ∧ xm_st b c p M3 ∧ xm_C l E y5_giveReasonsFor rm5_giveReasonsFor [.ref (b + 55), .int (0 : Int32), .int (-1 : Int32)] M3 (fun r M5 => ∃ r6 : Bool, r = some (.int (xz r6)) ∧ xm_st b c p M5 ∧ (xm_st b c p M5 → xm_X l E y5_produce rm5_produce Q 125 [(0, .ref (b + 55)), (1, .ref (b + 1)), (3, .int (0 : Int32))] [] 0 0 M5))))) ∧ (¬ v3 < 0 → xm_C l E y5_forgetNeeds rm5_forgetNeeds [.ref (b + 55), .int v3] M (fun r M7 => r = none ∧ xm_st b c p M7 ∧ (vp_in v3 48 ∧ (((xm_gi M7 (b + 105) (Int32.toNatClampNeg v3)) = 0 → (xm_st b c p M7 → xm_X l E y5_produce rm5_produce Q 31 [(0, .ref (b + 55)), (1, .ref (b + 1)), (3, .int (v3 + Int32.ofInt (-1)))] [] 0 0 M7)) ∧ (¬ (xm_gi M7 (b + 105) (Int32.toNatClampNeg v3)) = 0 → xm_C l E y5_giveAccess rm5_giveAccess [.ref (b + 55), .int v3] M7 (fun r M10 => ∃ r11 : Bool, r = some (.int (xz r11)) ∧ xm_st b c p M10 ∧ (((xz r11) = 0 → (xm_st b c p M10 → Q (some (.int v3)) M10)) ∧ (¬ (xz r11) = 0 → xm_C l E y5_giveEdges rm5_giveEdges [.ref (b + 55), .int v3] M10 (fun r M12 => ∃ r13 : Bool, r = some (.int (xz r13)) ∧ xm_st b c p M12 ∧ (((xz r13) = 0 → (xm_st b c p M12 → Q (some (.int v3)) M12)) ∧ (¬ (xz r13) = 0 → (vp_in v3 48 ∧ (((24 : Int32) < (xm_gi M12 (b + 108) (Int32.toNatClampNeg v3)) → (xm_st b c p M12 → Q (some (.int v3)) M12)) ∧ (¬ (24 : Int32) < (xm_gi M12 (b + 108) (Int32.toNatClampNeg v3)) → (xm_st b c p M12 → xm_X l E y5_produce rm5_produce Q 31 [(0, .ref (b + 55)), (1, .ref (b + 1)), (3, .int (v3 + Int32.ofInt (-1)))] [] 0 0 M12))))))))))))))))) :
  xm_X l E y5_produce rm5_produce Q 31 [(0, .ref (b + 55)), (1, .ref (b + 1)), (3, .int v3)] [] 0 0 M := by
  refine x_iload_n d5_produce_31 2 rfl rfl ?_
  refine x_if_lt d5_produce_32 (t := 96) (by decide) (fun g => ?_) (fun g => ?_)
  · have h := h.1 g
    refine x_aload_n d5_produce_96 0 rfl rfl ?_
    refine x_iconst d5_produce_97 qi_1 ?_
    refine x_putI d5_produce_98 fw5_63 (fun _ _ => rfl) rfl rfl (hS.1 _ _ (sh_55 b)) ?_
    refine x_aload_n d5_produce_101 0 rfl rfl ?_
    refine x_cVN (Z := y5_writeFacts) (S := rm5_writeFacts) (As := []) (rest := []) d5_produce_102 ml5_90 k5_writeFacts rfl (b := (b + 55)) (hS.pi.1 _ _ (sh_55 b)) rfl rfl (Nat.le_of_ble_eq_true rfl) ⟨⟨by decide, by decide⟩, by decide, by decide⟩ ⟨rfl, rfl⟩ h (fun M1 h => ?_)
    obtain ⟨hS, h⟩ := h
    refine x_aload_n d5_produce_105 0 rfl rfl ?_
    refine x_getR d5_produce_106 fl5_36 (fun _ _ => rfl) (hS.1 _ _ (sh_55 b)) (hS.2.1 _ _ _ (pt_55_6 b)) ?_
    refine x_aload_n d5_produce_109 1 rfl rfl ?_
    refine x_getI d5_produce_110 fl5_93 (fun _ _ => rfl) (hS.1 _ _ (sh_1 b)) ?_
    refine x_cVN (Z := y6_takeBeginning) (S := rm6_takeBeginning) (As := [.int (xm_gi M1 (b + 1) 0)]) (rest := []) d5_produce_113 ml5_96 k6_takeBeginning rfl (b := (b + 110)) (hS.1 _ _ (sh_110 b)) rfl rfl (Nat.le_of_ble_eq_true rfl) ⟨⟨by decide, by decide⟩, by decide, by decide⟩ ⟨rfl, rfl⟩ h (fun M3 h => ?_)
    obtain ⟨hS, h⟩ := h
    refine x_aload_n d5_produce_116 0 rfl rfl ?_
    refine x_iconst d5_produce_117 qi_0 ?_
    refine x_iconst d5_produce_118 qi_n1 ?_
    refine x_cVZ (Z := y5_giveReasonsFor) (S := rm5_giveReasonsFor) (As := [.int (0 : Int32), .int (-1 : Int32)]) (rest := []) d5_produce_119 ml5_99 k5_giveReasonsFor rfl (b := (b + 55)) (hS.1 _ _ (sh_55 b)) rfl rfl (Nat.le_of_ble_eq_true rfl) ⟨⟨by decide, by decide⟩, by decide, by decide⟩ ⟨rfl, rfl⟩ h (fun r6 M5 h => ?_)
    obtain ⟨hS, h⟩ := h
    refine x_pop d5_produce_122 rfl ?_
    refine x_iconst d5_produce_123 qi_0 ?_
    refine x_istore_n d5_produce_124 rfl (by decide) (L' := [(3, .int (0 : Int32)), (0, .ref (b + 55)), (1, .ref (b + 1))]) rfl ?_
    exact xm_X.sub [1, 2, 0] rfl (h hS)
  · have h := h.2 g
    refine x_aload_n d5_produce_35 0 rfl rfl ?_
    refine x_iload_n d5_produce_36 2 rfl rfl ?_
    refine x_cVN (Z := y5_forgetNeeds) (S := rm5_forgetNeeds) (As := [.int v3]) (rest := []) d5_produce_37 ml5_79 k5_forgetNeeds rfl (b := (b + 55)) (hS.1 _ _ (sh_55 b)) rfl rfl (Nat.le_of_ble_eq_true rfl) ⟨⟨by decide, by decide⟩, by decide, by decide⟩ ⟨rfl, rfl⟩ h (fun M7 h => ?_)
    obtain ⟨hS, h⟩ := h
    refine x_aload_n d5_produce_40 0 rfl rfl ?_
    refine x_getR d5_produce_41 fl5_16 (fun _ _ => rfl) (hS.1 _ _ (sh_55 b)) (hS.2.1 _ _ _ (pt_55_1 b)) ?_
    refine x_iload_n d5_produce_44 2 rfl rfl ?_
    obtain ⟨g9, h⟩ := h
    refine x_zald d5_produce_45 (hS.1 _ _ (sh_105 b)) g9 ?_
    refine x_if_eq d5_produce_46 (t := 76) (by decide) (fun g => ?_) (fun g => ?_)
    · have h := h.1 g
      refine x_iconst d5_produce_76 qi_1 ?_
      refine x_goto d5_produce_77 (t := 81) (by decide) ?_
      refine x_istore d5_produce_81 (by decide) (L' := [(4, .int (1 : Int32)), (0, .ref (b + 55)), (1, .ref (b + 1)), (3, .int v3)]) rfl ?_
      refine x_iload d5_produce_83 0 rfl ?_
      refine x_if_ne d5_produce_85 (t := 90) (by decide) (fun g => ?_) (fun g => ?_)
      · skip
        refine x_iinc d5_produce_90 3 rfl rfl (by decide) (L' := [(3, .int (v3 + Int32.ofInt (-1))), (4, .int (1 : Int32)), (0, .ref (b + 55)), (1, .ref (b + 1))]) rfl ?_
        refine x_goto d5_produce_93 (t := 31) (by decide) ?_
        exact xm_X.sub [2, 3, 0] rfl (h hS)
      · exact absurd g (by decide)
    · have h := h.2 g
      refine x_aload_n d5_produce_49 0 rfl rfl ?_
      refine x_iload_n d5_produce_50 2 rfl rfl ?_
      refine x_cVZ (Z := y5_giveAccess) (S := rm5_giveAccess) (As := [.int v3]) (rest := []) d5_produce_51 ml5_83 k5_giveAccess rfl (b := (b + 55)) (hS.1 _ _ (sh_55 b)) rfl rfl (Nat.le_of_ble_eq_true rfl) ⟨⟨by decide, by decide⟩, by decide, by decide⟩ ⟨rfl, rfl⟩ h (fun r11 M10 h => ?_)
      obtain ⟨hS, h⟩ := h
      refine x_if_eq d5_produce_54 (t := 80) (by decide) (fun g => ?_) (fun g => ?_)
      · have h := h.1 g
        refine x_iconst d5_produce_80 qi_0 ?_
        refine x_istore d5_produce_81 (by decide) (L' := [(4, .int (0 : Int32)), (0, .ref (b + 55)), (1, .ref (b + 1)), (3, .int v3)]) rfl ?_
        refine x_iload d5_produce_83 0 rfl ?_
        refine x_if_ne d5_produce_85 (t := 90) (by decide) (fun g => ?_) (fun g => ?_)
        · exact absurd g (by decide)
        · skip
          refine x_iload_n d5_produce_88 3 rfl rfl ?_
          exact x_ret (r := (some (.int v3))) d5_produce_89 xm_rI rfl ⟨Nat.le_refl _, Nat.le_refl _⟩ (h hS)
      · have h := h.2 g
        refine x_aload_n d5_produce_57 0 rfl rfl ?_
        refine x_iload_n d5_produce_58 2 rfl rfl ?_
        refine x_cVZ (Z := y5_giveEdges) (S := rm5_giveEdges) (As := [.int v3]) (rest := []) d5_produce_59 ml5_87 k5_giveEdges rfl (b := (b + 55)) (hS.1 _ _ (sh_55 b)) rfl rfl (Nat.le_of_ble_eq_true rfl) ⟨⟨by decide, by decide⟩, by decide, by decide⟩ ⟨rfl, rfl⟩ h (fun r13 M12 h => ?_)
        obtain ⟨hS, h⟩ := h
        refine x_if_eq d5_produce_62 (t := 80) (by decide) (fun g => ?_) (fun g => ?_)
        · have h := h.1 g
          refine x_iconst d5_produce_80 qi_0 ?_
          refine x_istore d5_produce_81 (by decide) (L' := [(4, .int (0 : Int32)), (0, .ref (b + 55)), (1, .ref (b + 1)), (3, .int v3)]) rfl ?_
          refine x_iload d5_produce_83 0 rfl ?_
          refine x_if_ne d5_produce_85 (t := 90) (by decide) (fun g => ?_) (fun g => ?_)
          · exact absurd g (by decide)
          · skip
            refine x_iload_n d5_produce_88 3 rfl rfl ?_
            exact x_ret (r := (some (.int v3))) d5_produce_89 xm_rI rfl ⟨Nat.le_refl _, Nat.le_refl _⟩ (h hS)
        · have h := h.2 g
          refine x_aload_n d5_produce_65 0 rfl rfl ?_
          refine x_getR d5_produce_66 fl5_26 (fun _ _ => rfl) (hS.1 _ _ (sh_55 b)) (hS.2.1 _ _ _ (pt_55_4 b)) ?_
          refine x_iload_n d5_produce_69 2 rfl rfl ?_
          obtain ⟨g14, h⟩ := h
          refine x_iald d5_produce_70 (hS.1 _ _ (sh_108 b)) g14 ?_
          refine x_bipush d5_produce_71 qb_24 ?_
          refine x_icmp_gt d5_produce_73 (t := 80) (by decide) (fun g => ?_) (fun g => ?_)
          · have h := h.1 g
            refine x_iconst d5_produce_80 qi_0 ?_
            refine x_istore d5_produce_81 (by decide) (L' := [(4, .int (0 : Int32)), (0, .ref (b + 55)), (1, .ref (b + 1)), (3, .int v3)]) rfl ?_
            refine x_iload d5_produce_83 0 rfl ?_
            refine x_if_ne d5_produce_85 (t := 90) (by decide) (fun g => ?_) (fun g => ?_)
            · exact absurd g (by decide)
            · skip
              refine x_iload_n d5_produce_88 3 rfl rfl ?_
              exact x_ret (r := (some (.int v3))) d5_produce_89 xm_rI rfl ⟨Nat.le_refl _, Nat.le_refl _⟩ (h hS)
          · have h := h.2 g
            refine x_iconst d5_produce_76 qi_1 ?_
            refine x_goto d5_produce_77 (t := 81) (by decide) ?_
            refine x_istore d5_produce_81 (by decide) (L' := [(4, .int (1 : Int32)), (0, .ref (b + 55)), (1, .ref (b + 1)), (3, .int v3)]) rfl ?_
            refine x_iload d5_produce_83 0 rfl ?_
            refine x_if_ne d5_produce_85 (t := 90) (by decide) (fun g => ?_) (fun g => ?_)
            · skip
              refine x_iinc d5_produce_90 3 rfl rfl (by decide) (L' := [(3, .int (v3 + Int32.ofInt (-1))), (4, .int (1 : Int32)), (0, .ref (b + 55)), (1, .ref (b + 1))]) rfl ?_
              refine x_goto d5_produce_93 (t := 31) (by decide) ?_
              exact xm_X.sub [2, 3, 0] rfl (h hS)
            · exact absurd g (by decide)
set_option maxRecDepth 20000 in
theorem t5_produce_125 {l : Launch} {E : xm_E} {b : Nat} {c p : Bool} {Q : Option Value → xm_M → Prop} (M : xm_M) (v3 : Int32) (hS : xm_st b c p M)
  (h : (((xm_gi M (b + 1) 2) ≤ v3 → (((xm_gi M (b + 55) 11) = 0 → (xm_st b c p M → Q (some (.int (xm_gi M (b + 1) 2))) M)) ∧ (¬ (xm_gi M (b + 55) 11) = 0 → (xm_st b c p M → Q (some (.int (-2 : Int32))) M)))) ∧ (¬ (xm_gi M (b + 1) 2) ≤ v3 → (vp_in v3 48 ∧ (((xm_gi M (b + 105) (Int32.toNatClampNeg v3)) = 0 → (xm_st b c p M → xm_X l E y5_produce rm5_produce Q 125 [(0, .ref (b + 55)), (1, .ref (b + 1)), (3, .int (v3 + Int32.ofInt (1)))] [] 0 0 M)) ∧ (¬ (xm_gi M (b + 105) (Int32.toNatClampNeg v3)) = 0 → xm_C l E y5_rankNeeds rm5_rankNeeds [.ref (b + 55), .int v3] M (fun r M2 => r = none ∧ xm_st b c p M2 ∧ xm_C l E y5_giveAccess rm5_giveAccess [.ref (b + 55), .int v3] M2 (fun r M4 => ∃ r5 : Bool, r = some (.int (xz r5)) ∧ xm_st b c p M4 ∧ xm_C l E y5_giveEdges rm5_giveEdges [.ref (b + 55), .int v3] M4 (fun r M6 => ∃ r7 : Bool, r = some (.int (xz r7)) ∧ xm_st b c p M6 ∧ (xm_st b c p M6 → xm_X l E y5_produce rm5_produce Q 125 [(0, .ref (b + 55)), (1, .ref (b + 1)), (3, .int (v3 + Int32.ofInt (1)))] [] 0 0 M6)))))))))) :
  xm_X l E y5_produce rm5_produce Q 125 [(0, .ref (b + 55)), (1, .ref (b + 1)), (3, .int v3)] [] 0 0 M := by
  refine x_iload_n d5_produce_125 2 rfl rfl ?_
  refine x_aload_n d5_produce_126 1 rfl rfl ?_
  refine x_getI d5_produce_127 fl5_73 (fun _ _ => rfl) (hS.1 _ _ (sh_1 b)) ?_
  refine x_icmp_ge d5_produce_130 (t := 165) (by decide) (fun g => ?_) (fun g => ?_)
  · have h := h.1 g
    refine x_aload_n d5_produce_165 0 rfl rfl ?_
    refine x_getI d5_produce_166 fl5_67 (fun _ _ => rfl) (hS.1 _ _ (sh_55 b)) ?_
    refine x_if_eq d5_produce_169 (t := 177) (by decide) (fun g => ?_) (fun g => ?_)
    · have h := h.1 g
      refine x_aload_n d5_produce_177 1 rfl rfl ?_
      refine x_getI d5_produce_178 fl5_73 (fun _ _ => rfl) (hS.1 _ _ (sh_1 b)) ?_
      exact x_ret (r := (some (.int (xm_gi M (b + 1) 2)))) d5_produce_181 xm_rI rfl ⟨Nat.le_refl _, Nat.le_refl _⟩ (h hS)
    · have h := h.2 g
      refine x_bipush d5_produce_172 qb_n2 ?_
      refine x_goto d5_produce_174 (t := 181) (by decide) ?_
      exact x_ret (r := (some (.int (-2 : Int32)))) d5_produce_181 xm_rI rfl ⟨Nat.le_refl _, Nat.le_refl _⟩ (h hS)
  · have h := h.2 g
    refine x_aload_n d5_produce_133 0 rfl rfl ?_
    refine x_getR d5_produce_134 fl5_16 (fun _ _ => rfl) (hS.1 _ _ (sh_55 b)) (hS.2.1 _ _ _ (pt_55_1 b)) ?_
    refine x_iload_n d5_produce_137 2 rfl rfl ?_
    obtain ⟨g1, h⟩ := h
    refine x_zald d5_produce_138 (hS.1 _ _ (sh_105 b)) g1 ?_
    refine x_if_eq d5_produce_139 (t := 159) (by decide) (fun g => ?_) (fun g => ?_)
    · have h := h.1 g
      refine x_iinc d5_produce_159 2 rfl rfl (by decide) (L' := [(3, .int (v3 + Int32.ofInt (1))), (0, .ref (b + 55)), (1, .ref (b + 1))]) rfl ?_
      refine x_goto d5_produce_162 (t := 125) (by decide) ?_
      exact xm_X.sub [1, 2, 0] rfl (h hS)
    · have h := h.2 g
      refine x_aload_n d5_produce_142 0 rfl rfl ?_
      refine x_iload_n d5_produce_143 2 rfl rfl ?_
      refine x_cVN (Z := y5_rankNeeds) (S := rm5_rankNeeds) (As := [.int v3]) (rest := []) d5_produce_144 ml5_103 k5_rankNeeds rfl (b := (b + 55)) (hS.1 _ _ (sh_55 b)) rfl rfl (Nat.le_of_ble_eq_true rfl) ⟨⟨by decide, by decide⟩, by decide, by decide⟩ ⟨rfl, rfl⟩ h (fun M2 h => ?_)
      obtain ⟨hS, h⟩ := h
      refine x_aload_n d5_produce_147 0 rfl rfl ?_
      refine x_iload_n d5_produce_148 2 rfl rfl ?_
      refine x_cVZ (Z := y5_giveAccess) (S := rm5_giveAccess) (As := [.int v3]) (rest := []) d5_produce_149 ml5_83 k5_giveAccess rfl (b := (b + 55)) (hS.1 _ _ (sh_55 b)) rfl rfl (Nat.le_of_ble_eq_true rfl) ⟨⟨by decide, by decide⟩, by decide, by decide⟩ ⟨rfl, rfl⟩ h (fun r5 M4 h => ?_)
      obtain ⟨hS, h⟩ := h
      refine x_pop d5_produce_152 rfl ?_
      refine x_aload_n d5_produce_153 0 rfl rfl ?_
      refine x_iload_n d5_produce_154 2 rfl rfl ?_
      refine x_cVZ (Z := y5_giveEdges) (S := rm5_giveEdges) (As := [.int v3]) (rest := []) d5_produce_155 ml5_87 k5_giveEdges rfl (b := (b + 55)) (hS.1 _ _ (sh_55 b)) rfl rfl (Nat.le_of_ble_eq_true rfl) ⟨⟨by decide, by decide⟩, by decide, by decide⟩ ⟨rfl, rfl⟩ h (fun r7 M6 h => ?_)
      obtain ⟨hS, h⟩ := h
      refine x_pop d5_produce_158 rfl ?_
      refine x_iinc d5_produce_159 2 rfl rfl (by decide) (L' := [(3, .int (v3 + Int32.ofInt (1))), (0, .ref (b + 55)), (1, .ref (b + 1))]) rfl ?_
      refine x_goto d5_produce_162 (t := 125) (by decide) ?_
      exact xm_X.sub [1, 2, 0] rfl (h hS)

set_option maxRecDepth 20000 in
theorem t5_findBounds_0 {l : Launch} {E : xm_E} {b : Nat} {c p : Bool} {Q : Option Value → xm_M → Prop} (M : xm_M)  (hS : xm_st b c true M)
  (h : (xm_st b c true M → xm_X l E y5_findBounds rm5_findBounds Q 2 [(0, .ref (b + 55)), (1, .int (0 : Int32))] [] 0 0 M)) :
  xm_X l E y5_findBounds rm5_findBounds Q 0 [(0, .ref (b + 55))] [] 0 0 M := by
  refine x_iconst d5_findBounds_0 qi_0 ?_
  refine x_istore_n d5_findBounds_1 rfl (by decide) (L' := [(1, .int (0 : Int32)), (0, .ref (b + 55))]) rfl ?_
  exact xm_X.sub [1, 0] rfl (h hS)
set_option maxRecDepth 20000 in
theorem t5_findBounds_2 {l : Launch} {E : xm_E} {b : Nat} {c p : Bool} {Q : Option Value → xm_M → Prop} (M : xm_M) (v1 : Int32) (hS : xm_st b c true M)
  (h : (((xm_gi M (b + 1) 2) ≤ v1 → xm_C l E y6_takeBeginning rm6_takeBeginning [.ref (b + 110), .int (xm_gi M (b + 1) 0)] M (fun r M1 => r = none ∧ xm_st b c true M1 ∧ xm_C l E y6_closeRows rm6_closeRows [.ref (b + 110)] M1 (fun r M3 => ∃ r4 : Bool, r = some (.int (xz r4)) ∧ xm_st b c true M3 ∧ xm_C l E y5_joinBounds rm5_joinBounds [.ref (b + 55), .int (0 : Int32)] M3 (fun r M5 => r = none ∧ xm_st b c true M5 ∧ (xm_st b c true M5 → xm_X l E y5_findBounds rm5_findBounds Q 55 [(0, .ref (b + 55)), (1, .int (0 : Int32))] [] 0 0 M5))))) ∧ (¬ (xm_gi M (b + 1) 2) ≤ v1 → (vp_in v1 48 ∧ (xm_st b c true (xm_pi M (b + 105) (Int32.toNatClampNeg v1) (0 : Int32)) → xm_X l E y5_findBounds rm5_findBounds Q 2 [(0, .ref (b + 55)), (1, .int (v1 + Int32.ofInt (1)))] [] 0 0 (xm_pi M (b + 105) (Int32.toNatClampNeg v1) (0 : Int32))))))) :
  xm_X l E y5_findBounds rm5_findBounds Q 2 [(0, .ref (b + 55)), (1, .int v1)] [] 0 0 M := by
  refine x_iload_n d5_findBounds_2 1 rfl rfl ?_
  refine x_aload_n d5_findBounds_3 0 rfl rfl ?_
  refine x_getR d5_findBounds_4 fl5_55 (fun _ _ => rfl) (hS.1 _ _ (sh_55 b)) (hS.2.2.2 rfl).1 ?_
  refine x_getI d5_findBounds_7 fl5_73 (fun _ _ => rfl) (hS.1 _ _ (sh_1 b)) ?_
  refine x_icmp_ge d5_findBounds_10 (t := 26) (by decide) (fun g => ?_) (fun g => ?_)
  · have h := h.1 g
    refine x_aload_n d5_findBounds_26 0 rfl rfl ?_
    refine x_getR d5_findBounds_27 fl5_36 (fun _ _ => rfl) (hS.1 _ _ (sh_55 b)) (hS.2.1 _ _ _ (pt_55_6 b)) ?_
    refine x_aload_n d5_findBounds_30 0 rfl rfl ?_
    refine x_getR d5_findBounds_31 fl5_55 (fun _ _ => rfl) (hS.1 _ _ (sh_55 b)) (hS.2.2.2 rfl).1 ?_
    refine x_getI d5_findBounds_34 fl5_93 (fun _ _ => rfl) (hS.1 _ _ (sh_1 b)) ?_
    refine x_cVN (Z := y6_takeBeginning) (S := rm6_takeBeginning) (As := [.int (xm_gi M (b + 1) 0)]) (rest := []) d5_findBounds_37 ml5_96 k6_takeBeginning rfl (b := (b + 110)) (hS.1 _ _ (sh_110 b)) rfl rfl (Nat.le_of_ble_eq_true rfl) ⟨⟨by decide, by decide⟩, by decide, by decide⟩ ⟨rfl, rfl⟩ h (fun M1 h => ?_)
    obtain ⟨hS, h⟩ := h
    refine x_aload_n d5_findBounds_40 0 rfl rfl ?_
    refine x_getR d5_findBounds_41 fl5_36 (fun _ _ => rfl) (hS.1 _ _ (sh_55 b)) (hS.2.1 _ _ _ (pt_55_6 b)) ?_
    refine x_cVZ (Z := y6_closeRows) (S := rm6_closeRows) (As := []) (rest := []) d5_findBounds_44 ml5_106 k6_closeRows rfl (b := (b + 110)) (hS.1 _ _ (sh_110 b)) rfl rfl (Nat.le_of_ble_eq_true rfl) ⟨⟨by decide, by decide⟩, by decide, by decide⟩ ⟨rfl, rfl⟩ h (fun r4 M3 h => ?_)
    obtain ⟨hS, h⟩ := h
    refine x_pop d5_findBounds_47 rfl ?_
    refine x_aload_n d5_findBounds_48 0 rfl rfl ?_
    refine x_iconst d5_findBounds_49 qi_0 ?_
    refine x_cVN (Z := y5_joinBounds) (S := rm5_joinBounds) (As := [.int (0 : Int32)]) (rest := []) d5_findBounds_50 ml5_110 k5_joinBounds rfl (b := (b + 55)) (hS.1 _ _ (sh_55 b)) rfl rfl (Nat.le_of_ble_eq_true rfl) ⟨⟨by decide, by decide⟩, by decide, by decide⟩ ⟨rfl, rfl⟩ h (fun M5 h => ?_)
    obtain ⟨hS, h⟩ := h
    refine x_iconst d5_findBounds_53 qi_0 ?_
    refine x_istore_n d5_findBounds_54 rfl (by decide) (L' := [(1, .int (0 : Int32)), (0, .ref (b + 55))]) rfl ?_
    exact xm_X.sub [1, 0] rfl (h hS)
  · have h := h.2 g
    refine x_aload_n d5_findBounds_13 0 rfl rfl ?_
    refine x_getR d5_findBounds_14 fl5_16 (fun _ _ => rfl) (hS.1 _ _ (sh_55 b)) (hS.2.1 _ _ _ (pt_55_1 b)) ?_
    refine x_iload_n d5_findBounds_17 1 rfl rfl ?_
    refine x_iconst d5_findBounds_18 qi_0 ?_
    obtain ⟨g7, h⟩ := h
    refine x_zast d5_findBounds_19 (hS.1 _ _ (sh_105 b)) g7 rfl ?_
    refine x_iinc d5_findBounds_20 1 rfl rfl (by decide) (L' := [(1, .int (v1 + Int32.ofInt (1))), (0, .ref (b + 55))]) rfl ?_
    refine x_goto d5_findBounds_23 (t := 2) (by decide) ?_
    exact xm_X.sub [1, 0] rfl (h hS.pi)
set_option maxRecDepth 20000 in
theorem t5_findBounds_55 {l : Launch} {E : xm_E} {b : Nat} {c p : Bool} {Q : Option Value → xm_M → Prop} (M : xm_M) (v1 : Int32) (hS : xm_st b c true M)
  (h : (((xm_gi M (b + 1) 2) ≤ v1 → (xm_st b c true M → Q none M)) ∧ (¬ (xm_gi M (b + 1) 2) ≤ v1 → (vp_in v1 48 ∧ (xm_st b c true M → xm_X l E y5_findBounds rm5_findBounds Q 78 [(0, .ref (b + 55)), (1, .int v1), (2, .ref (b + 3 + (Int32.toNatClampNeg v1))), (3, .int (0 : Int32))] [] 0 0 M))))) :
  xm_X l E y5_findBounds rm5_findBounds Q 55 [(0, .ref (b + 55)), (1, .int v1)] [] 0 0 M := by
  refine x_iload_n d5_findBounds_55 1 rfl rfl ?_
  refine x_aload_n d5_findBounds_56 0 rfl rfl ?_
  refine x_getR d5_findBounds_57 fl5_55 (fun _ _ => rfl) (hS.1 _ _ (sh_55 b)) (hS.2.2.2 rfl).1 ?_
  refine x_getI d5_findBounds_60 fl5_73 (fun _ _ => rfl) (hS.1 _ _ (sh_1 b)) ?_
  refine x_icmp_ge d5_findBounds_63 (t := 166) (by decide) (fun g => ?_) (fun g => ?_)
  · have h := h.1 g
    exact x_ret (r := none) d5_findBounds_166 xm_rN rfl ⟨Nat.le_refl _, Nat.le_refl _⟩ (h hS)
  · have h := h.2 g
    refine x_aload_n d5_findBounds_66 0 rfl rfl ?_
    refine x_getR d5_findBounds_67 fl5_55 (fun _ _ => rfl) (hS.1 _ _ (sh_55 b)) (hS.2.2.2 rfl).1 ?_
    refine x_getR d5_findBounds_70 fl5_113 (fun _ _ => rfl) (hS.1 _ _ (sh_1 b)) (hS.2.1 _ _ _ (pt_1_1 b)) ?_
    refine x_iload_n d5_findBounds_73 1 rfl rfl ?_
    obtain ⟨g1, h⟩ := h
    refine x_aald d5_findBounds_74 (hS.1 _ _ (sh_2 b)) (by decide) rfl g1 (hS.2.1 _ _ _ (ptf_2 (vp_lt g1))) ?_
    refine x_astore_n d5_findBounds_75 rfl (by decide) (L' := [(2, .ref (b + 3 + (Int32.toNatClampNeg v1))), (0, .ref (b + 55)), (1, .int v1)]) rfl ?_
    refine x_iconst d5_findBounds_76 qi_0 ?_
    refine x_istore_n d5_findBounds_77 rfl (by decide) (L' := [(3, .int (0 : Int32)), (2, .ref (b + 3 + (Int32.toNatClampNeg v1))), (0, .ref (b + 55)), (1, .int v1)]) rfl ?_
    exact xm_X.sub [2, 3, 1, 0] rfl (h hS)
set_option maxRecDepth 20000 in
theorem t5_findBounds_78 {l : Launch} {E : xm_E} {b : Nat} {c p : Bool} {Q : Option Value → xm_M → Prop} (M : xm_M) (v1 : Int32) (a2 : Nat) (v3 : Int32) (ha2 : xS b a2 = some (.inr 2)) (hS : xm_st b c true M)
  (h : (vp_in v1 48 ∧ (((xm_gi M (b + 105) (Int32.toNatClampNeg v1)) = 0 → (xm_st b c true M → xm_X l E y5_findBounds rm5_findBounds Q 55 [(0, .ref (b + 55)), (1, .int (v1 + Int32.ofInt (1)))] [] 0 0 M)) ∧ (¬ (xm_gi M (b + 105) (Int32.toNatClampNeg v1)) = 0 → xm_C l E y2_edgeCount rm2_edgeCount [.ref a2] M (fun r M2 => ∃ r3 : Int32, r = some (.int r3) ∧ xm_st b c true M2 ∧ ((r3 ≤ v3 → (xm_st b c true M2 → xm_X l E y5_findBounds rm5_findBounds Q 55 [(0, .ref (b + 55)), (1, .int (v1 + Int32.ofInt (1)))] [] 0 0 M2)) ∧ (¬ r3 ≤ v3 → (vp_in v1 48 ∧ xm_C l E y6_takeEdge rm6_takeEdge [.ref (b + 110), .ref a2, .int v3, .ref (b + 57 + (Int32.toNatClampNeg v1))] M2 (fun r M5 => r = none ∧ xm_st b c true M5 ∧ xm_C l E y6_closeRows rm6_closeRows [.ref (b + 110)] M5 (fun r M7 => ∃ r8 : Bool, r = some (.int (xz r8)) ∧ xm_st b c true M7 ∧ ((¬ (xz r8) = 0 → (vp_in (((2 : Int32) * v1) + v3) 96 ∧ (((xz r8) = 0 → (xm_st b c true (xm_pi M7 (b + 106) (Int32.toNatClampNeg (((2 : Int32) * v1) + v3)) (0 : Int32)) → xm_X l E y5_findBounds rm5_findBounds Q 78 [(0, .ref (b + 55)), (1, .int v1), (2, .ref a2), (3, .int (v3 + Int32.ofInt (1)))] [] 0 0 (xm_pi M7 (b + 106) (Int32.toNatClampNeg (((2 : Int32) * v1) + v3)) (0 : Int32)))) ∧ (¬ (xz r8) = 0 → xm_C l E y2_edgeEnd rm2_edgeEnd [.ref a2, .int v1, .int v3] (xm_pi M7 (b + 106) (Int32.toNatClampNeg (((2 : Int32) * v1) + v3)) (0 : Int32)) (fun r M10 => ∃ r11 : Int32, r = some (.int r11) ∧ xm_st b c true M10 ∧ xm_C l E y5_joinBounds rm5_joinBounds [.ref (b + 55), .int r11] M10 (fun r M12 => r = none ∧ xm_st b c true M12 ∧ (xm_st b c true M12 → xm_X l E y5_findBounds rm5_findBounds Q 78 [(0, .ref (b + 55)), (1, .int v1), (2, .ref a2), (3, .int (v3 + Int32.ofInt (1)))] [] 0 0 M12))))))) ∧ ((xz r8) = 0 → (vp_in (((2 : Int32) * v1) + v3) 96 ∧ (((xz r8) = 0 → (xm_st b c true (xm_pi M7 (b + 106) (Int32.toNatClampNeg (((2 : Int32) * v1) + v3)) (1 : Int32)) → xm_X l E y5_findBounds rm5_findBounds Q 78 [(0, .ref (b + 55)), (1, .int v1), (2, .ref a2), (3, .int (v3 + Int32.ofInt (1)))] [] 0 0 (xm_pi M7 (b + 106) (Int32.toNatClampNeg (((2 : Int32) * v1) + v3)) (1 : Int32)))) ∧ (¬ (xz r8) = 0 → xm_C l E y2_edgeEnd rm2_edgeEnd [.ref a2, .int v1, .int v3] (xm_pi M7 (b + 106) (Int32.toNatClampNeg (((2 : Int32) * v1) + v3)) (1 : Int32)) (fun r M15 => ∃ r16 : Int32, r = some (.int r16) ∧ xm_st b c true M15 ∧ xm_C l E y5_joinBounds rm5_joinBounds [.ref (b + 55), .int r16] M15 (fun r M17 => r = none ∧ xm_st b c true M17 ∧ (xm_st b c true M17 → xm_X l E y5_findBounds rm5_findBounds Q 78 [(0, .ref (b + 55)), (1, .int v1), (2, .ref a2), (3, .int (v3 + Int32.ofInt (1)))] [] 0 0 M17)))))))))))))))))) :
  xm_X l E y5_findBounds rm5_findBounds Q 78 [(0, .ref (b + 55)), (1, .int v1), (2, .ref a2), (3, .int v3)] [] 0 0 M := by
  refine x_aload_n d5_findBounds_78 0 rfl rfl ?_
  refine x_getR d5_findBounds_79 fl5_16 (fun _ _ => rfl) (hS.1 _ _ (sh_55 b)) (hS.2.1 _ _ _ (pt_55_1 b)) ?_
  refine x_iload_n d5_findBounds_82 1 rfl rfl ?_
  obtain ⟨g1, h⟩ := h
  refine x_zald d5_findBounds_83 (hS.1 _ _ (sh_105 b)) g1 ?_
  refine x_if_eq d5_findBounds_84 (t := 160) (by decide) (fun g => ?_) (fun g => ?_)
  · have h := h.1 g
    refine x_iinc d5_findBounds_160 1 rfl rfl (by decide) (L' := [(1, .int (v1 + Int32.ofInt (1))), (0, .ref (b + 55)), (2, .ref a2), (3, .int v3)]) rfl ?_
    refine x_goto d5_findBounds_163 (t := 55) (by decide) ?_
    exact xm_X.sub [1, 0] rfl (h hS)
  · have h := h.2 g
    refine x_iload_n d5_findBounds_87 3 rfl rfl ?_
    refine x_aload_n d5_findBounds_88 2 rfl rfl ?_
    refine x_cVI (Z := y2_edgeCount) (S := rm2_edgeCount) (As := []) (rest := [.int v3]) d5_findBounds_89 ml5_117 k2_edgeCount rfl (b := a2) (hS.1 _ _ ha2) rfl rfl (Nat.le_of_ble_eq_true rfl) ⟨⟨by decide, by decide⟩, by decide, by decide⟩ ⟨rfl, rfl⟩ h (fun r3 M2 h => ?_)
    obtain ⟨hS, h⟩ := h
    refine x_icmp_ge d5_findBounds_92 (t := 160) (by decide) (fun g => ?_) (fun g => ?_)
    · have h := h.1 g
      refine x_iinc d5_findBounds_160 1 rfl rfl (by decide) (L' := [(1, .int (v1 + Int32.ofInt (1))), (0, .ref (b + 55)), (2, .ref a2), (3, .int v3)]) rfl ?_
      refine x_goto d5_findBounds_163 (t := 55) (by decide) ?_
      exact xm_X.sub [1, 0] rfl (h hS)
    · have h := h.2 g
      refine x_aload_n d5_findBounds_95 0 rfl rfl ?_
      refine x_getR d5_findBounds_96 fl5_36 (fun _ _ => rfl) (hS.1 _ _ (sh_55 b)) (hS.2.1 _ _ _ (pt_55_6 b)) ?_
      refine x_aload_n d5_findBounds_99 2 rfl rfl ?_
      refine x_iload_n d5_findBounds_100 3 rfl rfl ?_
      refine x_aload_n d5_findBounds_101 0 rfl rfl ?_
      refine x_getR d5_findBounds_102 fl5_11 (fun _ _ => rfl) (hS.1 _ _ (sh_55 b)) (hS.2.1 _ _ _ (pt_55_0 b)) ?_
      refine x_iload_n d5_findBounds_105 1 rfl rfl ?_
      obtain ⟨g4, h⟩ := h
      refine x_aald d5_findBounds_106 (hS.1 _ _ (sh_56 b)) (by decide) rfl g4 (hS.2.1 _ _ _ (ptf_56 (vp_lt g4))) ?_
      refine x_cVN (Z := y6_takeEdge) (S := rm6_takeEdge) (As := [.ref a2, .int v3, .ref (b + 57 + (Int32.toNatClampNeg v1))]) (rest := []) d5_findBounds_107 ml5_123 k6_takeEdge rfl (b := (b + 110)) (hS.1 _ _ (sh_110 b)) rfl rfl (Nat.le_of_ble_eq_true rfl) ⟨⟨by decide, by decide⟩, by decide, by decide⟩ ⟨rfl, rfl⟩ h (fun M5 h => ?_)
      obtain ⟨hS, h⟩ := h
      refine x_aload_n d5_findBounds_110 0 rfl rfl ?_
      refine x_getR d5_findBounds_111 fl5_36 (fun _ _ => rfl) (hS.1 _ _ (sh_55 b)) (hS.2.1 _ _ _ (pt_55_6 b)) ?_
      refine x_cVZ (Z := y6_closeRows) (S := rm6_closeRows) (As := []) (rest := []) d5_findBounds_114 ml5_106 k6_closeRows rfl (b := (b + 110)) (hS.1 _ _ (sh_110 b)) rfl rfl (Nat.le_of_ble_eq_true rfl) ⟨⟨by decide, by decide⟩, by decide, by decide⟩ ⟨rfl, rfl⟩ h (fun r8 M7 h => ?_)
      obtain ⟨hS, h⟩ := h
      refine x_istore d5_findBounds_117 (by decide) (L' := [(4, .int (xz r8)), (0, .ref (b + 55)), (1, .int v1), (2, .ref a2), (3, .int v3)]) rfl ?_
      refine x_aload_n d5_findBounds_119 1 rfl rfl ?_
      refine x_getR d5_findBounds_120 fl5_20 (fun _ _ => rfl) (hS.1 _ _ (sh_55 b)) (hS.2.1 _ _ _ (pt_55_2 b)) ?_
      refine x_iconst d5_findBounds_123 qi_2 ?_
      refine x_iload_n d5_findBounds_124 2 rfl rfl ?_
      refine x_imul d5_findBounds_125 ?_
      refine x_iload_n d5_findBounds_126 4 rfl rfl ?_
      refine x_iadd d5_findBounds_127 ?_
      refine x_iload d5_findBounds_128 0 rfl ?_
      refine x_if_ne d5_findBounds_130 (t := 137) (by decide) (fun g => ?_) (fun g => ?_)
      · have h := h.1 g
        refine x_iconst d5_findBounds_137 qi_0 ?_
        obtain ⟨g9, h⟩ := h
        refine x_zast d5_findBounds_138 (hS.1 _ _ (sh_106 b)) g9 rfl ?_
        refine x_iload d5_findBounds_139 0 rfl ?_
        refine x_if_eq d5_findBounds_141 (t := 154) (by decide) (fun g => ?_) (fun g => ?_)
        · have h := h.1 g
          refine x_iinc d5_findBounds_154 4 rfl rfl (by decide) (L' := [(3, .int (v3 + Int32.ofInt (1))), (4, .int (xz r8)), (0, .ref (b + 55)), (1, .int v1), (2, .ref a2)]) rfl ?_
          refine x_goto d5_findBounds_157 (t := 78) (by decide) ?_
          exact xm_X.sub [2, 3, 4, 0] rfl (h hS.pi)
        · have h := h.2 g
          refine x_aload_n d5_findBounds_144 1 rfl rfl ?_
          refine x_aload_n d5_findBounds_145 3 rfl rfl ?_
          refine x_iload_n d5_findBounds_146 2 rfl rfl ?_
          refine x_iload_n d5_findBounds_147 4 rfl rfl ?_
          refine x_cVI (Z := y2_edgeEnd) (S := rm2_edgeEnd) (As := [.int v1, .int v3]) (rest := [.ref (b + 55)]) d5_findBounds_148 ml5_127 k2_edgeEnd rfl (b := a2) (hS.pi.1 _ _ ha2) rfl rfl (Nat.le_of_ble_eq_true rfl) ⟨⟨by decide, by decide⟩, by decide, by decide⟩ ⟨rfl, rfl⟩ h (fun r11 M10 h => ?_)
          obtain ⟨hS, h⟩ := h
          refine x_cVN (Z := y5_joinBounds) (S := rm5_joinBounds) (As := [.int r11]) (rest := []) d5_findBounds_151 ml5_110 k5_joinBounds rfl (b := (b + 55)) (hS.1 _ _ (sh_55 b)) rfl rfl (Nat.le_of_ble_eq_true rfl) ⟨⟨by decide, by decide⟩, by decide, by decide⟩ ⟨rfl, rfl⟩ h (fun M12 h => ?_)
          obtain ⟨hS, h⟩ := h
          refine x_iinc d5_findBounds_154 4 rfl rfl (by decide) (L' := [(3, .int (v3 + Int32.ofInt (1))), (4, .int (xz r8)), (0, .ref (b + 55)), (1, .int v1), (2, .ref a2)]) rfl ?_
          refine x_goto d5_findBounds_157 (t := 78) (by decide) ?_
          exact xm_X.sub [2, 3, 4, 0] rfl (h hS)
      · have h := h.2 g
        refine x_iconst d5_findBounds_133 qi_1 ?_
        refine x_goto d5_findBounds_134 (t := 138) (by decide) ?_
        obtain ⟨g14, h⟩ := h
        refine x_zast d5_findBounds_138 (hS.1 _ _ (sh_106 b)) g14 rfl ?_
        refine x_iload d5_findBounds_139 0 rfl ?_
        refine x_if_eq d5_findBounds_141 (t := 154) (by decide) (fun g => ?_) (fun g => ?_)
        · have h := h.1 g
          refine x_iinc d5_findBounds_154 4 rfl rfl (by decide) (L' := [(3, .int (v3 + Int32.ofInt (1))), (4, .int (xz r8)), (0, .ref (b + 55)), (1, .int v1), (2, .ref a2)]) rfl ?_
          refine x_goto d5_findBounds_157 (t := 78) (by decide) ?_
          exact xm_X.sub [2, 3, 4, 0] rfl (h hS.pi)
        · have h := h.2 g
          refine x_aload_n d5_findBounds_144 1 rfl rfl ?_
          refine x_aload_n d5_findBounds_145 3 rfl rfl ?_
          refine x_iload_n d5_findBounds_146 2 rfl rfl ?_
          refine x_iload_n d5_findBounds_147 4 rfl rfl ?_
          refine x_cVI (Z := y2_edgeEnd) (S := rm2_edgeEnd) (As := [.int v1, .int v3]) (rest := [.ref (b + 55)]) d5_findBounds_148 ml5_127 k2_edgeEnd rfl (b := a2) (hS.pi.1 _ _ ha2) rfl rfl (Nat.le_of_ble_eq_true rfl) ⟨⟨by decide, by decide⟩, by decide, by decide⟩ ⟨rfl, rfl⟩ h (fun r16 M15 h => ?_)
          obtain ⟨hS, h⟩ := h
          refine x_cVN (Z := y5_joinBounds) (S := rm5_joinBounds) (As := [.int r16]) (rest := []) d5_findBounds_151 ml5_110 k5_joinBounds rfl (b := (b + 55)) (hS.1 _ _ (sh_55 b)) rfl rfl (Nat.le_of_ble_eq_true rfl) ⟨⟨by decide, by decide⟩, by decide, by decide⟩ ⟨rfl, rfl⟩ h (fun M17 h => ?_)
          obtain ⟨hS, h⟩ := h
          refine x_iinc d5_findBounds_154 4 rfl rfl (by decide) (L' := [(3, .int (v3 + Int32.ofInt (1))), (4, .int (xz r8)), (0, .ref (b + 55)), (1, .int v1), (2, .ref a2)]) rfl ?_
          refine x_goto d5_findBounds_157 (t := 78) (by decide) ?_
          exact xm_X.sub [2, 3, 4, 0] rfl (h hS)

set_option maxRecDepth 20000 in
theorem t5_joinBounds_0 {l : Launch} {E : xm_E} {b : Nat} {c p : Bool} {Q : Option Value → xm_M → Prop} (M : xm_M) (v1 : Int32) (hS : xm_st b c true M)
  (h : (xm_st b c true M → xm_X l E y5_joinBounds rm5_joinBounds Q 2 [(0, .ref (b + 55)), (1, .int v1), (2, .int (0 : Int32))] [] 0 0 M)) :
  xm_X l E y5_joinBounds rm5_joinBounds Q 0 [(0, .ref (b + 55)), (1, .int v1)] [] 0 0 M := by
  refine x_iconst d5_joinBounds_0 qi_0 ?_
  refine x_istore_n d5_joinBounds_1 rfl (by decide) (L' := [(2, .int (0 : Int32)), (0, .ref (b + 55)), (1, .int v1)]) rfl ?_
  exact xm_X.sub [1, 2, 0] rfl (h hS)
set_option maxRecDepth 20000 in
theorem t5_joinBounds_2 {l : Launch} {E : xm_E} {b : Nat} {c p : Bool} {Q : Option Value → xm_M → Prop} (M : xm_M) (v1 : Int32) (v2 : Int32) (hS : xm_st b c true M)
  (h : (((100 : Int32) ≤ v2 → (vp_in v1 48 ∧ (xm_st b c true (xm_pi M (b + 105) (Int32.toNatClampNeg v1) (1 : Int32)) → Q none (xm_pi M (b + 105) (Int32.toNatClampNeg v1) (1 : Int32))))) ∧ (¬ (100 : Int32) ≤ v2 → (((v2 / (10 : Int32)) = (v2 - v2 / (10 : Int32) * (10 : Int32)) → (xm_st b c true M → xm_X l E y5_joinBounds rm5_joinBounds Q 2 [(0, .ref (b + 55)), (1, .int v1), (2, .int (v2 + Int32.ofInt (1)))] [] 0 0 M)) ∧ (¬ (v2 / (10 : Int32)) = (v2 - v2 / (10 : Int32) * (10 : Int32)) → xm_C l E y6_bound rm6_bound [.ref (b + 110), .int (v2 / (10 : Int32)), .int (v2 - v2 / (10 : Int32) * (10 : Int32))] M (fun r M2 => ∃ r3 : Int64, r = some (.long r3) ∧ xm_st b c true M2 ∧ (vp_in v1 48 ∧ (vp_in v1 48 ∧ (((xm_gi M2 (b + 105) (Int32.toNatClampNeg v1)) = 0 → (vp_in v2 100 ∧ (xm_st b c true (xm_pl M2 (b + 57 + (Int32.toNatClampNeg v1)) (Int32.toNatClampNeg v2) r3) → xm_X l E y5_joinBounds rm5_joinBounds Q 2 [(0, .ref (b + 55)), (1, .int v1), (2, .int (v2 + Int32.ofInt (1)))] [] 0 0 (xm_pl M2 (b + 57 + (Int32.toNatClampNeg v1)) (Int32.toNatClampNeg v2) r3)))) ∧ (¬ (xm_gi M2 (b + 105) (Int32.toNatClampNeg v1)) = 0 → (vp_in v1 48 ∧ (vp_in v2 100 ∧ xm_C l E ym_max_J rmm_max_J [.long (xm_gl M2 (b + 57 + (Int32.toNatClampNeg v1)) (Int32.toNatClampNeg v2)), .long r3] M2 (fun r M9 => ∃ r10 : Int64, r = some (.long r10) ∧ xm_st b c true M9 ∧ (vp_in v2 100 ∧ (xm_st b c true (xm_pl M9 (b + 57 + (Int32.toNatClampNeg v1)) (Int32.toNatClampNeg v2) r10) → xm_X l E y5_joinBounds rm5_joinBounds Q 2 [(0, .ref (b + 55)), (1, .int v1), (2, .int (v2 + Int32.ofInt (1)))] [] 0 0 (xm_pl M9 (b + 57 + (Int32.toNatClampNeg v1)) (Int32.toNatClampNeg v2) r10)))))))))))))))) :
  xm_X l E y5_joinBounds rm5_joinBounds Q 2 [(0, .ref (b + 55)), (1, .int v1), (2, .int v2)] [] 0 0 M := by
  refine x_iload_n d5_joinBounds_2 2 rfl rfl ?_
  refine x_bipush d5_joinBounds_3 qb_100 ?_
  refine x_icmp_ge d5_joinBounds_5 (t := 78) (by decide) (fun g => ?_) (fun g => ?_)
  · have h := h.1 g
    refine x_aload_n d5_joinBounds_78 0 rfl rfl ?_
    refine x_getR d5_joinBounds_79 fl5_16 (fun _ _ => rfl) (hS.1 _ _ (sh_55 b)) (hS.2.1 _ _ _ (pt_55_1 b)) ?_
    refine x_iload_n d5_joinBounds_82 1 rfl rfl ?_
    refine x_iconst d5_joinBounds_83 qi_1 ?_
    obtain ⟨g1, h⟩ := h
    refine x_zast d5_joinBounds_84 (hS.1 _ _ (sh_105 b)) g1 rfl ?_
    exact x_ret (r := none) d5_joinBounds_85 xm_rN rfl ⟨Nat.le_refl _, Nat.le_refl _⟩ (h hS.pi)
  · have h := h.2 g
    refine x_iload_n d5_joinBounds_8 2 rfl rfl ?_
    refine x_bipush d5_joinBounds_9 qb_10 ?_
    refine x_idiv d5_joinBounds_11 (by decide) ?_
    refine x_istore_n d5_joinBounds_12 rfl (by decide) (L' := [(3, .int (v2 / (10 : Int32))), (0, .ref (b + 55)), (1, .int v1), (2, .int v2)]) rfl ?_
    refine x_iload_n d5_joinBounds_13 3 rfl rfl ?_
    refine x_bipush d5_joinBounds_14 qb_10 ?_
    refine x_irem d5_joinBounds_16 (by decide) ?_
    refine x_istore d5_joinBounds_17 (by decide) (L' := [(4, .int (v2 - v2 / (10 : Int32) * (10 : Int32))), (3, .int (v2 / (10 : Int32))), (0, .ref (b + 55)), (1, .int v1), (2, .int v2)]) rfl ?_
    refine x_iload_n d5_joinBounds_19 1 rfl rfl ?_
    refine x_iload d5_joinBounds_20 0 rfl ?_
    refine x_icmp_eq d5_joinBounds_22 (t := 72) (by decide) (fun g => ?_) (fun g => ?_)
    · have h := h.1 g
      refine x_iinc d5_joinBounds_72 4 rfl rfl (by decide) (L' := [(2, .int (v2 + Int32.ofInt (1))), (4, .int (v2 - v2 / (10 : Int32) * (10 : Int32))), (3, .int (v2 / (10 : Int32))), (0, .ref (b + 55)), (1, .int v1)]) rfl ?_
      refine x_goto d5_joinBounds_75 (t := 2) (by decide) ?_
      exact xm_X.sub [3, 4, 0] rfl (h hS)
    · have h := h.2 g
      refine x_aload_n d5_joinBounds_25 2 rfl rfl ?_
      refine x_getR d5_joinBounds_26 fl5_36 (fun _ _ => rfl) (hS.1 _ _ (sh_55 b)) (hS.2.1 _ _ _ (pt_55_6 b)) ?_
      refine x_iload_n d5_joinBounds_29 1 rfl rfl ?_
      refine x_iload d5_joinBounds_30 0 rfl ?_
      refine x_cVJ (Z := y6_bound) (S := rm6_bound) (As := [.int (v2 / (10 : Int32)), .int (v2 - v2 / (10 : Int32) * (10 : Int32))]) (rest := []) d5_joinBounds_32 ml5_131 k6_bound rfl (b := (b + 110)) (hS.1 _ _ (sh_110 b)) rfl rfl (Nat.le_of_ble_eq_true rfl) ⟨⟨by decide, by decide⟩, by decide, by decide⟩ ⟨rfl, rfl⟩ h (fun r3 M2 h => ?_)
      obtain ⟨hS, h⟩ := h
      refine x_lstore d5_joinBounds_35 (by decide) (L' := [(5, .long r3), (4, .int (v2 - v2 / (10 : Int32) * (10 : Int32))), (3, .int (v2 / (10 : Int32))), (0, .ref (b + 55)), (1, .int v1), (2, .int v2)]) rfl ?_
      refine x_aload_n d5_joinBounds_37 3 rfl rfl ?_
      refine x_getR d5_joinBounds_38 fl5_11 (fun _ _ => rfl) (hS.1 _ _ (sh_55 b)) (hS.2.1 _ _ _ (pt_55_0 b)) ?_
      refine x_iload_n d5_joinBounds_41 4 rfl rfl ?_
      obtain ⟨g4, h⟩ := h
      refine x_aald d5_joinBounds_42 (hS.1 _ _ (sh_56 b)) (by decide) rfl g4 (hS.2.1 _ _ _ (ptf_56 (vp_lt g4))) ?_
      refine x_iload_n d5_joinBounds_43 5 rfl rfl ?_
      refine x_aload_n d5_joinBounds_44 3 rfl rfl ?_
      refine x_getR d5_joinBounds_45 fl5_16 (fun _ _ => rfl) (hS.1 _ _ (sh_55 b)) (hS.2.1 _ _ _ (pt_55_1 b)) ?_
      refine x_iload_n d5_joinBounds_48 4 rfl rfl ?_
      obtain ⟨g5, h⟩ := h
      refine x_zald d5_joinBounds_49 (hS.1 _ _ (sh_105 b)) g5 ?_
      refine x_if_eq d5_joinBounds_50 (t := 69) (by decide) (fun g => ?_) (fun g => ?_)
      · have h := h.1 g
        refine x_lload d5_joinBounds_69 0 rfl ?_
        obtain ⟨g6, h⟩ := h
        refine x_last d5_joinBounds_71 (hS.1 _ _ (shf_56 (vp_lt g4))) g6 ?_
        refine x_iinc d5_joinBounds_72 5 rfl rfl (by decide) (L' := [(2, .int (v2 + Int32.ofInt (1))), (5, .long r3), (4, .int (v2 - v2 / (10 : Int32) * (10 : Int32))), (3, .int (v2 / (10 : Int32))), (0, .ref (b + 55)), (1, .int v1)]) rfl ?_
        refine x_goto d5_joinBounds_75 (t := 2) (by decide) ?_
        exact xm_X.sub [4, 5, 0] rfl (h hS.pl)
      · have h := h.2 g
        refine x_aload_n d5_joinBounds_53 3 rfl rfl ?_
        refine x_getR d5_joinBounds_54 fl5_11 (fun _ _ => rfl) (hS.1 _ _ (sh_55 b)) (hS.2.1 _ _ _ (pt_55_0 b)) ?_
        refine x_iload_n d5_joinBounds_57 4 rfl rfl ?_
        obtain ⟨g7, h⟩ := h
        refine x_aald d5_joinBounds_58 (hS.1 _ _ (sh_56 b)) (by decide) rfl g7 (hS.2.1 _ _ _ (ptf_56 (vp_lt g7))) ?_
        refine x_iload_n d5_joinBounds_59 5 rfl rfl ?_
        obtain ⟨g8, h⟩ := h
        refine x_lald d5_joinBounds_60 (hS.1 _ _ (shf_56 (vp_lt g7))) g8 ?_
        refine x_lload d5_joinBounds_61 0 rfl ?_
        refine x_cSJ (Z := ym_max_J) (S := rmm_max_J) (As := [.long (xm_gl M2 (b + 57 + (Int32.toNatClampNeg v1)) (Int32.toNatClampNeg v2)), .long r3]) (rest := [.int v2, .ref (b + 57 + (Int32.toNatClampNeg v1))]) d5_joinBounds_63 ml5_135 km_max_J rfl rfl (Nat.le_of_ble_eq_true rfl) ⟨⟨by decide, by decide⟩, by decide, by decide⟩ ⟨rfl, rfl⟩ h (fun r10 M9 h => ?_)
        obtain ⟨hS, h⟩ := h
        refine x_goto d5_joinBounds_66 (t := 71) (by decide) ?_
        obtain ⟨g11, h⟩ := h
        refine x_last d5_joinBounds_71 (hS.1 _ _ (shf_56 (vp_lt g4))) g11 ?_
        refine x_iinc d5_joinBounds_72 5 rfl rfl (by decide) (L' := [(2, .int (v2 + Int32.ofInt (1))), (5, .long r3), (4, .int (v2 - v2 / (10 : Int32) * (10 : Int32))), (3, .int (v2 / (10 : Int32))), (0, .ref (b + 55)), (1, .int v1)]) rfl ?_
        refine x_goto d5_joinBounds_75 (t := 2) (by decide) ?_
        exact xm_X.sub [4, 5, 0] rfl (h hS.pl)

set_option maxRecDepth 20000 in
theorem t5_forgetNeeds_0 {l : Launch} {E : xm_E} {b : Nat} {c p : Bool} {Q : Option Value → xm_M → Prop} (M : xm_M) (v1 : Int32) (hS : xm_st b c true M)
  (h : (xm_st b c true M → xm_X l E y5_forgetNeeds rm5_forgetNeeds Q 2 [(0, .ref (b + 55)), (1, .int v1), (2, .int (0 : Int32))] [] 0 0 M)) :
  xm_X l E y5_forgetNeeds rm5_forgetNeeds Q 0 [(0, .ref (b + 55)), (1, .int v1)] [] 0 0 M := by
  refine x_iconst d5_forgetNeeds_0 qi_0 ?_
  refine x_istore_n d5_forgetNeeds_1 rfl (by decide) (L' := [(2, .int (0 : Int32)), (0, .ref (b + 55)), (1, .int v1)]) rfl ?_
  exact xm_X.sub [1, 2, 0] rfl (h hS)
set_option maxRecDepth 20000 in
theorem t5_forgetNeeds_2 {l : Launch} {E : xm_E} {b : Nat} {c p : Bool} {Q : Option Value → xm_M → Prop} (M : xm_M) (v1 : Int32) (v2 : Int32) (hS : xm_st b c true M)
  (h : (((100 : Int32) ≤ v2 → (vp_in v1 48 ∧ (xm_st b c true (xm_pi M (b + 108) (Int32.toNatClampNeg v1) (0 : Int32)) → Q none (xm_pi M (b + 108) (Int32.toNatClampNeg v1) (0 : Int32))))) ∧ (¬ (100 : Int32) ≤ v2 → (vp_in (((100 : Int32) * v1) + v2) 4800 ∧ (xm_st b c true (xm_pi M (b + 107) (Int32.toNatClampNeg (((100 : Int32) * v1) + v2)) (0 : Int32)) → xm_X l E y5_forgetNeeds rm5_forgetNeeds Q 2 [(0, .ref (b + 55)), (1, .int v1), (2, .int (v2 + Int32.ofInt (1)))] [] 0 0 (xm_pi M (b + 107) (Int32.toNatClampNeg (((100 : Int32) * v1) + v2)) (0 : Int32))))))) :
  xm_X l E y5_forgetNeeds rm5_forgetNeeds Q 2 [(0, .ref (b + 55)), (1, .int v1), (2, .int v2)] [] 0 0 M := by
  refine x_iload_n d5_forgetNeeds_2 2 rfl rfl ?_
  refine x_bipush d5_forgetNeeds_3 qb_100 ?_
  refine x_icmp_ge d5_forgetNeeds_5 (t := 26) (by decide) (fun g => ?_) (fun g => ?_)
  · have h := h.1 g
    refine x_aload_n d5_forgetNeeds_26 0 rfl rfl ?_
    refine x_getR d5_forgetNeeds_27 fl5_26 (fun _ _ => rfl) (hS.1 _ _ (sh_55 b)) (hS.2.1 _ _ _ (pt_55_4 b)) ?_
    refine x_iload_n d5_forgetNeeds_30 1 rfl rfl ?_
    refine x_iconst d5_forgetNeeds_31 qi_0 ?_
    obtain ⟨g1, h⟩ := h
    refine x_iast d5_forgetNeeds_32 (hS.1 _ _ (sh_108 b)) g1 ?_
    exact x_ret (r := none) d5_forgetNeeds_33 xm_rN rfl ⟨Nat.le_refl _, Nat.le_refl _⟩ (h hS.pi)
  · have h := h.2 g
    refine x_aload_n d5_forgetNeeds_8 0 rfl rfl ?_
    refine x_getR d5_forgetNeeds_9 fl5_23 (fun _ _ => rfl) (hS.1 _ _ (sh_55 b)) (hS.2.1 _ _ _ (pt_55_3 b)) ?_
    refine x_bipush d5_forgetNeeds_12 qb_100 ?_
    refine x_iload_n d5_forgetNeeds_14 1 rfl rfl ?_
    refine x_imul d5_forgetNeeds_15 ?_
    refine x_iload_n d5_forgetNeeds_16 2 rfl rfl ?_
    refine x_iadd d5_forgetNeeds_17 ?_
    refine x_iconst d5_forgetNeeds_18 qi_0 ?_
    obtain ⟨g2, h⟩ := h
    refine x_zast d5_forgetNeeds_19 (hS.1 _ _ (sh_107 b)) g2 rfl ?_
    refine x_iinc d5_forgetNeeds_20 2 rfl rfl (by decide) (L' := [(2, .int (v2 + Int32.ofInt (1))), (0, .ref (b + 55)), (1, .int v1)]) rfl ?_
    refine x_goto d5_forgetNeeds_23 (t := 2) (by decide) ?_
    exact xm_X.sub [1, 2, 0] rfl (h hS.pi)

set_option maxRecDepth 20000 in
theorem t5_giveAccess_0 {l : Launch} {E : xm_E} {b : Nat} {c p : Bool} {Q : Option Value → xm_M → Prop} (M : xm_M) (v1 : Int32) (hS : xm_st b c true M)
  (h : (vp_in v1 48 ∧ xm_C l E y2_isAccess rm2_isAccess [.ref (b + 3 + (Int32.toNatClampNeg v1))] M (fun r M2 => ∃ r3 : Bool, r = some (.int (xz r3)) ∧ xm_st b c true M2 ∧ ((¬ (xz r3) = 0 → (vp_in v1 48 ∧ xm_C l E y6_takeFacts rm6_takeFacts [.ref (b + 110), .ref (b + 57 + (Int32.toNatClampNeg v1))] M2 (fun r M5 => r = none ∧ xm_st b c true M5 ∧ xm_C l E y8_find rm8_find [.ref (b + 129), .ref (b + 110), .int (0 : Int32), .int ((1 : Int32) + (xm_gi M5 (b + 3 + (Int32.toNatClampNeg v1)) 2)), .long (Int32.toInt64 (xm_gi M5 (b + 3 + (Int32.toNatClampNeg v1)) 3))] M5 (fun r M7 => ∃ r8 : Bool, r = some (.int (xz r8)) ∧ xm_st b c true M7 ∧ (((xz r8) = 0 → (xm_st b c true M7 → Q (some (.int (0 : Int32))) M7)) ∧ (¬ (xz r8) = 0 → xm_C l E y5_giveRow rm5_giveRow [.ref (b + 55), .int v1] M7 (fun r M9 => ∃ r10 : Bool, r = some (.int (xz r10)) ∧ xm_st b c true M9 ∧ (((xz r10) = 0 → (xm_st b c true M9 → Q (some (.int (0 : Int32))) M9)) ∧ (¬ (xz r10) = 0 → xm_C l E y2_accessTop rm2_accessTop [.ref (b + 3 + (Int32.toNatClampNeg v1))] M9 (fun r M11 => ∃ r12 : Int32, r = some (.int r12) ∧ xm_st b c true M11 ∧ xm_C l E y2_accessMost rm2_accessMost [.ref (b + 3 + (Int32.toNatClampNeg v1))] M11 (fun r M13 => ∃ r14 : Int64, r = some (.long r14) ∧ xm_st b c true M13 ∧ xm_C l E y8_find rm8_find [.ref (b + 129), .ref (b + 110), .int ((1 : Int32) + (xm_gi M5 (b + 3 + (Int32.toNatClampNeg v1)) 2)), .int r12, .long r14] M13 (fun r M15 => ∃ r16 : Bool, r = some (.int (xz r16)) ∧ xm_st b c true M15 ∧ (((xz r16) = 0 → (xm_st b c true M15 → Q (some (.int (0 : Int32))) M15)) ∧ (¬ (xz r16) = 0 → xm_C l E y5_giveRow rm5_giveRow [.ref (b + 55), .int v1] M15 (fun r M17 => ∃ r18 : Bool, r = some (.int (xz r18)) ∧ xm_st b c true M17 ∧ (((xz r18) = 0 → (xm_st b c true M17 → Q (some (.int (0 : Int32))) M17)) ∧ (¬ (xz r18) = 0 → (xm_st b c true M17 → Q (some (.int (1 : Int32))) M17)))))))))))))))))) ∧ ((xz r3) = 0 → (xm_st b c true M2 → Q (some (.int (1 : Int32))) M2)))))) :
  xm_X l E y5_giveAccess rm5_giveAccess Q 0 [(0, .ref (b + 55)), (1, .int v1)] [] 0 0 M := by
  refine x_aload_n d5_giveAccess_0 0 rfl rfl ?_
  refine x_getR d5_giveAccess_1 fl5_55 (fun _ _ => rfl) (hS.1 _ _ (sh_55 b)) (hS.2.2.2 rfl).1 ?_
  refine x_getR d5_giveAccess_4 fl5_113 (fun _ _ => rfl) (hS.1 _ _ (sh_1 b)) (hS.2.1 _ _ _ (pt_1_1 b)) ?_
  refine x_iload_n d5_giveAccess_7 1 rfl rfl ?_
  obtain ⟨g1, h⟩ := h
  refine x_aald d5_giveAccess_8 (hS.1 _ _ (sh_2 b)) (by decide) rfl g1 (hS.2.1 _ _ _ (ptf_2 (vp_lt g1))) ?_
  refine x_astore_n d5_giveAccess_9 rfl (by decide) (L' := [(2, .ref (b + 3 + (Int32.toNatClampNeg v1))), (0, .ref (b + 55)), (1, .int v1)]) rfl ?_
  refine x_aload_n d5_giveAccess_10 0 rfl rfl ?_
  refine x_cVZ (Z := y2_isAccess) (S := rm2_isAccess) (As := []) (rest := []) d5_giveAccess_11 ml5_141 k2_isAccess rfl (b := (b + 3 + (Int32.toNatClampNeg v1))) (hS.1 _ _ (shf_2 (vp_lt g1))) rfl rfl (Nat.le_of_ble_eq_true rfl) ⟨⟨by decide, by decide⟩, by decide, by decide⟩ ⟨rfl, rfl⟩ h (fun r3 M2 h => ?_)
  obtain ⟨hS, h⟩ := h
  refine x_if_ne d5_giveAccess_14 (t := 19) (by decide) (fun g => ?_) (fun g => ?_)
  · have h := h.1 g
    refine x_aload_n d5_giveAccess_19 1 rfl rfl ?_
    refine x_getR d5_giveAccess_20 fl5_36 (fun _ _ => rfl) (hS.1 _ _ (sh_55 b)) (hS.2.1 _ _ _ (pt_55_6 b)) ?_
    refine x_aload_n d5_giveAccess_23 1 rfl rfl ?_
    refine x_getR d5_giveAccess_24 fl5_11 (fun _ _ => rfl) (hS.1 _ _ (sh_55 b)) (hS.2.1 _ _ _ (pt_55_0 b)) ?_
    refine x_iload_n d5_giveAccess_27 2 rfl rfl ?_
    obtain ⟨g4, h⟩ := h
    refine x_aald d5_giveAccess_28 (hS.1 _ _ (sh_56 b)) (by decide) rfl g4 (hS.2.1 _ _ _ (ptf_56 (vp_lt g4))) ?_
    refine x_cVN (Z := y6_takeFacts) (S := rm6_takeFacts) (As := [.ref (b + 57 + (Int32.toNatClampNeg v1))]) (rest := []) d5_giveAccess_29 ml5_144 k6_takeFacts rfl (b := (b + 110)) (hS.1 _ _ (sh_110 b)) rfl rfl (Nat.le_of_ble_eq_true rfl) ⟨⟨by decide, by decide⟩, by decide, by decide⟩ ⟨rfl, rfl⟩ h (fun M5 h => ?_)
    obtain ⟨hS, h⟩ := h
    refine x_iconst d5_giveAccess_32 qi_1 ?_
    refine x_aload_n d5_giveAccess_33 0 rfl rfl ?_
    refine x_getI d5_giveAccess_34 fl5_148 (fun _ _ => rfl) (hS.1 _ _ (shf_2 (vp_lt g1))) ?_
    refine x_iadd d5_giveAccess_37 ?_
    refine x_istore_n d5_giveAccess_38 rfl (by decide) (L' := [(3, .int ((1 : Int32) + (xm_gi M5 (b + 3 + (Int32.toNatClampNeg v1)) 2))), (2, .ref (b + 3 + (Int32.toNatClampNeg v1))), (0, .ref (b + 55)), (1, .int v1)]) rfl ?_
    refine x_aload_n d5_giveAccess_39 2 rfl rfl ?_
    refine x_getR d5_giveAccess_40 fl5_43 (fun _ _ => rfl) (hS.1 _ _ (sh_55 b)) (hS.2.1 _ _ _ (pt_55_7 b)) ?_
    refine x_aload_n d5_giveAccess_43 2 rfl rfl ?_
    refine x_getR d5_giveAccess_44 fl5_36 (fun _ _ => rfl) (hS.1 _ _ (sh_55 b)) (hS.2.1 _ _ _ (pt_55_6 b)) ?_
    refine x_iconst d5_giveAccess_47 qi_0 ?_
    refine x_iload_n d5_giveAccess_48 0 rfl rfl ?_
    refine x_aload_n d5_giveAccess_49 1 rfl rfl ?_
    refine x_getI d5_giveAccess_50 fl5_151 (fun _ _ => rfl) (hS.1 _ _ (shf_2 (vp_lt g1))) ?_
    refine x_i2l d5_giveAccess_53 ?_
    refine x_cVZ (Z := y8_find) (S := rm8_find) (As := [.ref (b + 110), .int (0 : Int32), .int ((1 : Int32) + (xm_gi M5 (b + 3 + (Int32.toNatClampNeg v1)) 2)), .long (Int32.toInt64 (xm_gi M5 (b + 3 + (Int32.toNatClampNeg v1)) 3))]) (rest := []) d5_giveAccess_54 ml5_154 k8_find rfl (b := (b + 129)) (hS.1 _ _ (sh_129 b)) rfl rfl (Nat.le_of_ble_eq_true rfl) ⟨⟨by decide, by decide⟩, by decide, by decide⟩ ⟨rfl, rfl⟩ h (fun r8 M7 h => ?_)
    obtain ⟨hS, h⟩ := h
    refine x_if_eq d5_giveAccess_57 (t := 103) (by decide) (fun g => ?_) (fun g => ?_)
    · have h := h.1 g
      refine x_iconst d5_giveAccess_103 qi_0 ?_
      exact x_ret (r := (some (.int (0 : Int32)))) d5_giveAccess_104 (xm_rZ (Or.inl rfl)) rfl ⟨Nat.le_refl _, Nat.le_refl _⟩ (h hS)
    · have h := h.2 g
      refine x_aload_n d5_giveAccess_60 2 rfl rfl ?_
      refine x_iload_n d5_giveAccess_61 3 rfl rfl ?_
      refine x_cVZ (Z := y5_giveRow) (S := rm5_giveRow) (As := [.int v1]) (rest := []) d5_giveAccess_62 ml5_158 k5_giveRow rfl (b := (b + 55)) (hS.1 _ _ (sh_55 b)) rfl rfl (Nat.le_of_ble_eq_true rfl) ⟨⟨by decide, by decide⟩, by decide, by decide⟩ ⟨rfl, rfl⟩ h (fun r10 M9 h => ?_)
      obtain ⟨hS, h⟩ := h
      refine x_if_eq d5_giveAccess_65 (t := 103) (by decide) (fun g => ?_) (fun g => ?_)
      · have h := h.1 g
        refine x_iconst d5_giveAccess_103 qi_0 ?_
        exact x_ret (r := (some (.int (0 : Int32)))) d5_giveAccess_104 (xm_rZ (Or.inl rfl)) rfl ⟨Nat.le_refl _, Nat.le_refl _⟩ (h hS)
      · have h := h.2 g
        refine x_aload_n d5_giveAccess_68 2 rfl rfl ?_
        refine x_getR d5_giveAccess_69 fl5_43 (fun _ _ => rfl) (hS.1 _ _ (sh_55 b)) (hS.2.1 _ _ _ (pt_55_7 b)) ?_
        refine x_aload_n d5_giveAccess_72 2 rfl rfl ?_
        refine x_getR d5_giveAccess_73 fl5_36 (fun _ _ => rfl) (hS.1 _ _ (sh_55 b)) (hS.2.1 _ _ _ (pt_55_6 b)) ?_
        refine x_iload_n d5_giveAccess_76 0 rfl rfl ?_
        refine x_aload_n d5_giveAccess_77 1 rfl rfl ?_
        refine x_cVI (Z := y2_accessTop) (S := rm2_accessTop) (As := []) (rest := [.int ((1 : Int32) + (xm_gi M5 (b + 3 + (Int32.toNatClampNeg v1)) 2)), .ref (b + 110), .ref (b + 129)]) d5_giveAccess_78 ml5_161 k2_accessTop rfl (b := (b + 3 + (Int32.toNatClampNeg v1))) (hS.1 _ _ (shf_2 (vp_lt g1))) rfl rfl (Nat.le_of_ble_eq_true rfl) ⟨⟨by decide, by decide⟩, by decide, by decide⟩ ⟨rfl, rfl⟩ h (fun r12 M11 h => ?_)
        obtain ⟨hS, h⟩ := h
        refine x_aload_n d5_giveAccess_81 1 rfl rfl ?_
        refine x_cVJ (Z := y2_accessMost) (S := rm2_accessMost) (As := []) (rest := [.int r12, .int ((1 : Int32) + (xm_gi M5 (b + 3 + (Int32.toNatClampNeg v1)) 2)), .ref (b + 110), .ref (b + 129)]) d5_giveAccess_82 ml5_164 k2_accessMost rfl (b := (b + 3 + (Int32.toNatClampNeg v1))) (hS.1 _ _ (shf_2 (vp_lt g1))) rfl rfl (Nat.le_of_ble_eq_true rfl) ⟨⟨by decide, by decide⟩, by decide, by decide⟩ ⟨rfl, rfl⟩ h (fun r14 M13 h => ?_)
        obtain ⟨hS, h⟩ := h
        refine x_cVZ (Z := y8_find) (S := rm8_find) (As := [.ref (b + 110), .int ((1 : Int32) + (xm_gi M5 (b + 3 + (Int32.toNatClampNeg v1)) 2)), .int r12, .long r14]) (rest := []) d5_giveAccess_85 ml5_154 k8_find rfl (b := (b + 129)) (hS.1 _ _ (sh_129 b)) rfl rfl (Nat.le_of_ble_eq_true rfl) ⟨⟨by decide, by decide⟩, by decide, by decide⟩ ⟨rfl, rfl⟩ h (fun r16 M15 h => ?_)
        obtain ⟨hS, h⟩ := h
        refine x_if_eq d5_giveAccess_88 (t := 103) (by decide) (fun g => ?_) (fun g => ?_)
        · have h := h.1 g
          refine x_iconst d5_giveAccess_103 qi_0 ?_
          exact x_ret (r := (some (.int (0 : Int32)))) d5_giveAccess_104 (xm_rZ (Or.inl rfl)) rfl ⟨Nat.le_refl _, Nat.le_refl _⟩ (h hS)
        · have h := h.2 g
          refine x_aload_n d5_giveAccess_91 2 rfl rfl ?_
          refine x_iload_n d5_giveAccess_92 3 rfl rfl ?_
          refine x_cVZ (Z := y5_giveRow) (S := rm5_giveRow) (As := [.int v1]) (rest := []) d5_giveAccess_93 ml5_158 k5_giveRow rfl (b := (b + 55)) (hS.1 _ _ (sh_55 b)) rfl rfl (Nat.le_of_ble_eq_true rfl) ⟨⟨by decide, by decide⟩, by decide, by decide⟩ ⟨rfl, rfl⟩ h (fun r18 M17 h => ?_)
          obtain ⟨hS, h⟩ := h
          refine x_if_eq d5_giveAccess_96 (t := 103) (by decide) (fun g => ?_) (fun g => ?_)
          · have h := h.1 g
            refine x_iconst d5_giveAccess_103 qi_0 ?_
            exact x_ret (r := (some (.int (0 : Int32)))) d5_giveAccess_104 (xm_rZ (Or.inl rfl)) rfl ⟨Nat.le_refl _, Nat.le_refl _⟩ (h hS)
          · have h := h.2 g
            refine x_iconst d5_giveAccess_99 qi_1 ?_
            refine x_goto d5_giveAccess_100 (t := 104) (by decide) ?_
            exact x_ret (r := (some (.int (1 : Int32)))) d5_giveAccess_104 (xm_rZ (Or.inr rfl)) rfl ⟨Nat.le_refl _, Nat.le_refl _⟩ (h hS)
  · have h := h.2 g
    refine x_iconst d5_giveAccess_17 qi_1 ?_
    exact x_ret (r := (some (.int (1 : Int32)))) d5_giveAccess_18 (xm_rZ (Or.inr rfl)) rfl ⟨Nat.le_refl _, Nat.le_refl _⟩ (h hS)

set_option maxRecDepth 20000 in
theorem t8_find_0 {l : Launch} {E : xm_E} {b : Nat} {c p : Bool} {Q : Option Value → xm_M → Prop} (M : xm_M) (v2 : Int32) (v3 : Int32) (w4 : Int64) (hS : xm_st b c p M)
  (h : xm_C l E yr_fill_J rmr_fill_J [.ref (b + 131 + (Int32.toNatClampNeg (0 : Int32))), .long (4611686018427387904 : Int64)] M (fun r M1 => r = none ∧ xm_st b c p M1 ∧ (vp_in v3 10 ∧ (xm_st b c p (xm_pl M1 (b + 131 + (Int32.toNatClampNeg (0 : Int32))) (Int32.toNatClampNeg v3) (0 : Int64)) → xm_X l E y8_find rm8_find Q 24 [(0, .ref (b + 129)), (1, .ref (b + 110)), (2, .int v2), (4, .long w4), (6, .int (1 : Int32))] [] 0 0 (xm_pl M1 (b + 131 + (Int32.toNatClampNeg (0 : Int32))) (Int32.toNatClampNeg v3) (0 : Int64)))))) :
  xm_X l E y8_find rm8_find Q 0 [(0, .ref (b + 129)), (1, .ref (b + 110)), (2, .int v2), (3, .int v3), (4, .long w4)] [] 0 0 M := by
  refine x_aload_n d8_find_0 0 rfl rfl ?_
  refine x_getR d8_find_1 fl8_11 (fun _ _ => rfl) (hS.1 _ _ (sh_129 b)) (hS.2.1 _ _ _ (pt_129_0 b)) ?_
  refine x_iconst d8_find_4 qi_0 ?_
  refine x_aald d8_find_5 (hS.1 _ _ (sh_130 b)) (by decide) rfl (xm_vl (by decide)) (hS.2.1 _ _ _ (ptf_130 (vp_lt (xm_vl (by decide))))) ?_
  refine x_ldc2 d8_find_6 lc8_20 ?_
  refine x_cSN (Z := yr_fill_J) (S := rmr_fill_J) (As := [.ref (b + 131 + (Int32.toNatClampNeg (0 : Int32))), .long (4611686018427387904 : Int64)]) (rest := []) d8_find_9 ml8_22 kr_fill_J rfl rfl (Nat.le_of_ble_eq_true rfl) ⟨⟨by decide, by decide⟩, by decide, by decide⟩ ⟨rfl, rfl⟩ h (fun M1 h => ?_)
  obtain ⟨hS, h⟩ := h
  refine x_aload_n d8_find_12 0 rfl rfl ?_
  refine x_getR d8_find_13 fl8_11 (fun _ _ => rfl) (hS.1 _ _ (sh_129 b)) (hS.2.1 _ _ _ (pt_129_0 b)) ?_
  refine x_iconst d8_find_16 qi_0 ?_
  refine x_aald d8_find_17 (hS.1 _ _ (sh_130 b)) (by decide) rfl (xm_vl (by decide)) (hS.2.1 _ _ _ (ptf_130 (vp_lt (xm_vl (by decide))))) ?_
  refine x_iload_n d8_find_18 3 rfl rfl ?_
  refine x_lconst d8_find_19 ql_0 ?_
  obtain ⟨g3, h⟩ := h
  refine x_last d8_find_20 (hS.1 _ _ (shf_130 (vp_lt (xm_vl (by decide))))) g3 ?_
  refine x_iconst d8_find_21 qi_1 ?_
  refine x_istore d8_find_22 (by decide) (L' := [(6, .int (1 : Int32)), (0, .ref (b + 129)), (1, .ref (b + 110)), (2, .int v2), (3, .int v3), (4, .long w4)]) rfl ?_
  exact xm_X.sub [1, 2, 3, 5, 0] rfl (h hS.pl)
set_option maxRecDepth 20000 in
theorem t8_find_24 {l : Launch} {E : xm_E} {b : Nat} {c p : Bool} {Q : Option Value → xm_M → Prop} (M : xm_M) (v2 : Int32) (w4 : Int64) (v6 : Int32) (hS : xm_st b c p M)
  (h : (((12 : Int32) < v6 → (xm_st b c p M → Q (some (.int (0 : Int32))) M)) ∧ (¬ (12 : Int32) < v6 → xm_C l E y8_lengthenRows rm8_lengthenRows [.ref (b + 129), .ref (b + 110), .int v6] M (fun r M1 => r = none ∧ xm_st b c p M1 ∧ (vp_in v6 13 ∧ (vp_in v2 10 ∧ ((w4 < (xm_gl M1 (b + 131 + (Int32.toNatClampNeg v6)) (Int32.toNatClampNeg v2)) → (xm_st b c p M1 → xm_X l E y8_find rm8_find Q 24 [(0, .ref (b + 129)), (1, .ref (b + 110)), (2, .int v2), (4, .long w4), (6, .int (v6 + Int32.ofInt (1)))] [] 0 0 M1)) ∧ (¬ w4 < (xm_gl M1 (b + 131 + (Int32.toNatClampNeg v6)) (Int32.toNatClampNeg v2)) → xm_C l E y8_chooseSteps rm8_chooseSteps [.ref (b + 129), .ref (b + 110), .int v2, .long w4] (xm_pi M1 (b + 129) 2 v6) (fun r M5 => r = none ∧ xm_st b c p M5 ∧ (xm_st b c p M5 → Q (some (.int (1 : Int32))) M5)))))))))) :
  xm_X l E y8_find rm8_find Q 24 [(0, .ref (b + 129)), (1, .ref (b + 110)), (2, .int v2), (4, .long w4), (6, .int v6)] [] 0 0 M := by
  refine x_iload d8_find_24 4 rfl ?_
  refine x_bipush d8_find_26 qb_12 ?_
  refine x_icmp_gt d8_find_28 (t := 75) (by decide) (fun g => ?_) (fun g => ?_)
  · have h := h.1 g
    refine x_iconst d8_find_75 qi_0 ?_
    exact x_ret (r := (some (.int (0 : Int32)))) d8_find_76 (xm_rZ (Or.inl rfl)) rfl ⟨Nat.le_refl _, Nat.le_refl _⟩ (h hS)
  · have h := h.2 g
    refine x_aload_n d8_find_31 0 rfl rfl ?_
    refine x_aload_n d8_find_32 1 rfl rfl ?_
    refine x_iload d8_find_33 4 rfl ?_
    refine x_cVN (Z := y8_lengthenRows) (S := rm8_lengthenRows) (As := [.ref (b + 110), .int v6]) (rest := []) d8_find_35 ml8_28 k8_lengthenRows rfl (b := (b + 129)) (hS.1 _ _ (sh_129 b)) rfl rfl (Nat.le_of_ble_eq_true rfl) ⟨⟨by decide, by decide⟩, by decide, by decide⟩ ⟨rfl, rfl⟩ h (fun M1 h => ?_)
    obtain ⟨hS, h⟩ := h
    refine x_aload_n d8_find_38 0 rfl rfl ?_
    refine x_getR d8_find_39 fl8_11 (fun _ _ => rfl) (hS.1 _ _ (sh_129 b)) (hS.2.1 _ _ _ (pt_129_0 b)) ?_
    refine x_iload d8_find_42 4 rfl ?_
    obtain ⟨g3, h⟩ := h
    refine x_aald d8_find_44 (hS.1 _ _ (sh_130 b)) (by decide) rfl g3 (hS.2.1 _ _ _ (ptf_130 (vp_lt g3))) ?_
    refine x_iload_n d8_find_45 2 rfl rfl ?_
    obtain ⟨g4, h⟩ := h
    refine x_lald d8_find_46 (hS.1 _ _ (shf_130 (vp_lt g3))) g4 ?_
    refine x_lload d8_find_47 3 rfl ?_
    refine x_lc_gt d8_find_49 d8_find_50 rfl rfl (t := 69) (by decide) (fun g => ?_) (fun g => ?_)
    · have h := h.1 g
      refine x_iinc d8_find_69 4 rfl rfl (by decide) (L' := [(6, .int (v6 + Int32.ofInt (1))), (0, .ref (b + 129)), (1, .ref (b + 110)), (2, .int v2), (4, .long w4)]) rfl ?_
      refine x_goto d8_find_72 (t := 24) (by decide) ?_
      exact xm_X.sub [1, 2, 3, 4, 0] rfl (h hS)
    · have h := h.2 g
      refine x_aload_n d8_find_53 0 rfl rfl ?_
      refine x_iload d8_find_54 4 rfl ?_
      refine x_putI d8_find_56 fw8_32 (fun _ _ => rfl) rfl rfl (hS.1 _ _ (sh_129 b)) ?_
      refine x_aload_n d8_find_59 0 rfl rfl ?_
      refine x_aload_n d8_find_60 1 rfl rfl ?_
      refine x_iload_n d8_find_61 2 rfl rfl ?_
      refine x_lload d8_find_62 3 rfl ?_
      refine x_cVN (Z := y8_chooseSteps) (S := rm8_chooseSteps) (As := [.ref (b + 110), .int v2, .long w4]) (rest := []) d8_find_64 ml8_36 k8_chooseSteps rfl (b := (b + 129)) (hS.pi.1 _ _ (sh_129 b)) rfl rfl (Nat.le_of_ble_eq_true rfl) ⟨⟨by decide, by decide⟩, by decide, by decide⟩ ⟨rfl, rfl⟩ h (fun M5 h => ?_)
      obtain ⟨hS, h⟩ := h
      refine x_iconst d8_find_67 qi_1 ?_
      exact x_ret (r := (some (.int (1 : Int32)))) d8_find_68 (xm_rZ (Or.inr rfl)) rfl ⟨Nat.le_refl _, Nat.le_refl _⟩ (h hS)

set_option maxRecDepth 20000 in
theorem t8_lengthenRows_0 {l : Launch} {E : xm_E} {b : Nat} {c p : Bool} {Q : Option Value → xm_M → Prop} (M : xm_M) (v2 : Int32) (hS : xm_st b c p M)
  (h : (vp_in (v2 - (1 : Int32)) 13 ∧ (xm_st b c p M → xm_X l E y8_lengthenRows rm8_lengthenRows Q 12 [(0, .ref (b + 129)), (1, .ref (b + 110)), (2, .int v2), (3, .ref (b + 131 + (Int32.toNatClampNeg (v2 - (1 : Int32))))), (4, .int (0 : Int32))] [] 0 0 M))) :
  xm_X l E y8_lengthenRows rm8_lengthenRows Q 0 [(0, .ref (b + 129)), (1, .ref (b + 110)), (2, .int v2)] [] 0 0 M := by
  refine x_aload_n d8_lengthenRows_0 0 rfl rfl ?_
  refine x_getR d8_lengthenRows_1 fl8_11 (fun _ _ => rfl) (hS.1 _ _ (sh_129 b)) (hS.2.1 _ _ _ (pt_129_0 b)) ?_
  refine x_iload_n d8_lengthenRows_4 2 rfl rfl ?_
  refine x_iconst d8_lengthenRows_5 qi_1 ?_
  refine x_isub d8_lengthenRows_6 ?_
  obtain ⟨g1, h⟩ := h
  refine x_aald d8_lengthenRows_7 (hS.1 _ _ (sh_130 b)) (by decide) rfl g1 (hS.2.1 _ _ _ (ptf_130 (vp_lt g1))) ?_
  refine x_astore_n d8_lengthenRows_8 rfl (by decide) (L' := [(3, .ref (b + 131 + (Int32.toNatClampNeg (v2 - (1 : Int32))))), (0, .ref (b + 129)), (1, .ref (b + 110)), (2, .int v2)]) rfl ?_
  refine x_iconst d8_lengthenRows_9 qi_0 ?_
  refine x_istore d8_lengthenRows_10 (by decide) (L' := [(4, .int (0 : Int32)), (3, .ref (b + 131 + (Int32.toNatClampNeg (v2 - (1 : Int32))))), (0, .ref (b + 129)), (1, .ref (b + 110)), (2, .int v2)]) rfl ?_
  exact xm_X.sub [2, 3, 4, 1, 0] rfl (h hS)
set_option maxRecDepth 20000 in
theorem t8_lengthenRows_12 {l : Launch} {E : xm_E} {b : Nat} {c p : Bool} {Q : Option Value → xm_M → Prop} (M : xm_M) (v2 : Int32) (a3 : Nat) (v4 : Int32) (ha3 : xS b a3 = some (.inl (10, .long))) (hS : xm_st b c p M)
  (h : (((10 : Int32) ≤ v4 → (xm_st b c p M → Q none M)) ∧ (¬ (10 : Int32) ≤ v4 → (xm_st b c p M → xm_X l E y8_lengthenRows rm8_lengthenRows Q 27 [(0, .ref (b + 129)), (1, .ref (b + 110)), (2, .int v2), (3, .ref a3), (4, .int v4), (5, .long (4611686018427387904 : Int64)), (7, .int (0 : Int32))] [] 0 0 M)))) :
  xm_X l E y8_lengthenRows rm8_lengthenRows Q 12 [(0, .ref (b + 129)), (1, .ref (b + 110)), (2, .int v2), (3, .ref a3), (4, .int v4)] [] 0 0 M := by
  refine x_iload d8_lengthenRows_12 4 rfl ?_
  refine x_bipush d8_lengthenRows_14 qb_10 ?_
  refine x_icmp_ge d8_lengthenRows_16 (t := 107) (by decide) (fun g => ?_) (fun g => ?_)
  · have h := h.1 g
    exact x_ret (r := none) d8_lengthenRows_107 xm_rN rfl ⟨Nat.le_refl _, Nat.le_refl _⟩ (h hS)
  · have h := h.2 g
    refine x_ldc2 d8_lengthenRows_19 lc8_20 ?_
    refine x_lstore d8_lengthenRows_22 (by decide) (L' := [(5, .long (4611686018427387904 : Int64)), (0, .ref (b + 129)), (1, .ref (b + 110)), (2, .int v2), (3, .ref a3), (4, .int v4)]) rfl ?_
    refine x_iconst d8_lengthenRows_24 qi_0 ?_
    refine x_istore d8_lengthenRows_25 (by decide) (L' := [(7, .int (0 : Int32)), (5, .long (4611686018427387904 : Int64)), (0, .ref (b + 129)), (1, .ref (b + 110)), (2, .int v2), (3, .ref a3), (4, .int v4)]) rfl ?_
    exact xm_X.sub [2, 3, 4, 5, 6, 1, 0] rfl (h hS)
set_option maxRecDepth 20000 in
theorem t8_lengthenRows_27 {l : Launch} {E : xm_E} {b : Nat} {c p : Bool} {Q : Option Value → xm_M → Prop} (M : xm_M) (v2 : Int32) (a3 : Nat) (v4 : Int32) (w5 : Int64) (v7 : Int32) (ha3 : xS b a3 = some (.inl (10, .long))) (hS : xm_st b c p M)
  (h : (((10 : Int32) ≤ v7 → (vp_in v2 13 ∧ (vp_in v4 10 ∧ (xm_st b c p (xm_pl M (b + 131 + (Int32.toNatClampNeg v2)) (Int32.toNatClampNeg v4) w5) → xm_X l E y8_lengthenRows rm8_lengthenRows Q 12 [(0, .ref (b + 129)), (1, .ref (b + 110)), (2, .int v2), (3, .ref a3), (4, .int (v4 + Int32.ofInt (1)))] [] 0 0 (xm_pl M (b + 131 + (Int32.toNatClampNeg v2)) (Int32.toNatClampNeg v4) w5))))) ∧ (¬ (10 : Int32) ≤ v7 → (vp_in v7 10 ∧ (((xm_gl M a3 (Int32.toNatClampNeg v7)) = (4611686018427387904 : Int64) → (xm_st b c p M → xm_X l E y8_lengthenRows rm8_lengthenRows Q 27 [(0, .ref (b + 129)), (1, .ref (b + 110)), (2, .int v2), (3, .ref a3), (4, .int v4), (5, .long w5), (7, .int (v7 + Int32.ofInt (1)))] [] 0 0 M)) ∧ (¬ (xm_gl M a3 (Int32.toNatClampNeg v7)) = (4611686018427387904 : Int64) → (vp_in v4 10 ∧ (vp_in v7 10 ∧ (((xm_gl M (b + 116 + (Int32.toNatClampNeg v4)) (Int32.toNatClampNeg v7)) = (4611686018427387904 : Int64) → (xm_st b c p M → xm_X l E y8_lengthenRows rm8_lengthenRows Q 27 [(0, .ref (b + 129)), (1, .ref (b + 110)), (2, .int v2), (3, .ref a3), (4, .int v4), (5, .long w5), (7, .int (v7 + Int32.ofInt (1)))] [] 0 0 M)) ∧ (¬ (xm_gl M (b + 116 + (Int32.toNatClampNeg v4)) (Int32.toNatClampNeg v7)) = (4611686018427387904 : Int64) → (vp_in v4 10 ∧ (vp_in v7 10 ∧ (vp_in v7 10 ∧ xm_C l E ym_min_J rmm_min_J [.long w5, .long ((xm_gl M (b + 116 + (Int32.toNatClampNeg v4)) (Int32.toNatClampNeg v7)) + (xm_gl M a3 (Int32.toNatClampNeg v7)))] M (fun r M9 => ∃ r10 : Int64, r = some (.long r10) ∧ xm_st b c p M9 ∧ (xm_st b c p M9 → xm_X l E y8_lengthenRows rm8_lengthenRows Q 27 [(0, .ref (b + 129)), (1, .ref (b + 110)), (2, .int v2), (3, .ref a3), (4, .int v4), (5, .long r10), (7, .int (v7 + Int32.ofInt (1)))] [] 0 0 M9))))))))))))))) :
  xm_X l E y8_lengthenRows rm8_lengthenRows Q 27 [(0, .ref (b + 129)), (1, .ref (b + 110)), (2, .int v2), (3, .ref a3), (4, .int v4), (5, .long w5), (7, .int v7)] [] 0 0 M := by
  refine x_iload d8_lengthenRows_27 6 rfl ?_
  refine x_bipush d8_lengthenRows_29 qb_10 ?_
  refine x_icmp_ge d8_lengthenRows_31 (t := 90) (by decide) (fun g => ?_) (fun g => ?_)
  · have h := h.1 g
    refine x_aload_n d8_lengthenRows_90 0 rfl rfl ?_
    refine x_getR d8_lengthenRows_91 fl8_11 (fun _ _ => rfl) (hS.1 _ _ (sh_129 b)) (hS.2.1 _ _ _ (pt_129_0 b)) ?_
    refine x_iload_n d8_lengthenRows_94 2 rfl rfl ?_
    obtain ⟨g1, h⟩ := h
    refine x_aald d8_lengthenRows_95 (hS.1 _ _ (sh_130 b)) (by decide) rfl g1 (hS.2.1 _ _ _ (ptf_130 (vp_lt g1))) ?_
    refine x_iload d8_lengthenRows_96 4 rfl ?_
    refine x_lload d8_lengthenRows_98 5 rfl ?_
    obtain ⟨g2, h⟩ := h
    refine x_last d8_lengthenRows_100 (hS.1 _ _ (shf_130 (vp_lt g1))) g2 ?_
    refine x_iinc d8_lengthenRows_101 4 rfl rfl (by decide) (L' := [(4, .int (v4 + Int32.ofInt (1))), (0, .ref (b + 129)), (1, .ref (b + 110)), (2, .int v2), (3, .ref a3), (5, .long w5), (7, .int v7)]) rfl ?_
    refine x_goto d8_lengthenRows_104 (t := 12) (by decide) ?_
    exact xm_X.sub [1, 2, 3, 4, 0] rfl (h hS.pl)
  · have h := h.2 g
    refine x_aload_n d8_lengthenRows_34 3 rfl rfl ?_
    refine x_iload d8_lengthenRows_35 6 rfl ?_
    obtain ⟨g3, h⟩ := h
    refine x_lald d8_lengthenRows_37 (hS.1 _ _ ha3) g3 ?_
    refine x_ldc2 d8_lengthenRows_38 lc8_20 ?_
    refine x_lc_eq d8_lengthenRows_41 d8_lengthenRows_42 rfl rfl (t := 84) (by decide) (fun g => ?_) (fun g => ?_)
    · have h := h.1 g
      refine x_iinc d8_lengthenRows_84 6 rfl rfl (by decide) (L' := [(7, .int (v7 + Int32.ofInt (1))), (0, .ref (b + 129)), (1, .ref (b + 110)), (2, .int v2), (3, .ref a3), (4, .int v4), (5, .long w5)]) rfl ?_
      refine x_goto d8_lengthenRows_87 (t := 27) (by decide) ?_
      exact xm_X.sub [1, 2, 3, 4, 5, 6, 0] rfl (h hS)
    · have h := h.2 g
      refine x_aload_n d8_lengthenRows_45 1 rfl rfl ?_
      refine x_getR d8_lengthenRows_46 fl8_40 (fun _ _ => rfl) (hS.1 _ _ (sh_110 b)) (hS.2.1 _ _ _ (pt_110_5 b)) ?_
      refine x_iload d8_lengthenRows_49 4 rfl ?_
      obtain ⟨g4, h⟩ := h
      refine x_aald d8_lengthenRows_51 (hS.1 _ _ (sh_115 b)) (by decide) rfl g4 (hS.2.1 _ _ _ (ptf_115 (vp_lt g4))) ?_
      refine x_iload d8_lengthenRows_52 6 rfl ?_
      obtain ⟨g5, h⟩ := h
      refine x_lald d8_lengthenRows_54 (hS.1 _ _ (shf_115 (vp_lt g4))) g5 ?_
      refine x_ldc2 d8_lengthenRows_55 lc8_20 ?_
      refine x_lc_eq d8_lengthenRows_58 d8_lengthenRows_59 rfl rfl (t := 84) (by decide) (fun g => ?_) (fun g => ?_)
      · have h := h.1 g
        refine x_iinc d8_lengthenRows_84 6 rfl rfl (by decide) (L' := [(7, .int (v7 + Int32.ofInt (1))), (0, .ref (b + 129)), (1, .ref (b + 110)), (2, .int v2), (3, .ref a3), (4, .int v4), (5, .long w5)]) rfl ?_
        refine x_goto d8_lengthenRows_87 (t := 27) (by decide) ?_
        exact xm_X.sub [1, 2, 3, 4, 5, 6, 0] rfl (h hS)
      · have h := h.2 g
        refine x_lload d8_lengthenRows_62 5 rfl ?_
        refine x_aload_n d8_lengthenRows_64 1 rfl rfl ?_
        refine x_getR d8_lengthenRows_65 fl8_40 (fun _ _ => rfl) (hS.1 _ _ (sh_110 b)) (hS.2.1 _ _ _ (pt_110_5 b)) ?_
        refine x_iload d8_lengthenRows_68 4 rfl ?_
        obtain ⟨g6, h⟩ := h
        refine x_aald d8_lengthenRows_70 (hS.1 _ _ (sh_115 b)) (by decide) rfl g6 (hS.2.1 _ _ _ (ptf_115 (vp_lt g6))) ?_
        refine x_iload d8_lengthenRows_71 6 rfl ?_
        obtain ⟨g7, h⟩ := h
        refine x_lald d8_lengthenRows_73 (hS.1 _ _ (shf_115 (vp_lt g6))) g7 ?_
        refine x_aload_n d8_lengthenRows_74 3 rfl rfl ?_
        refine x_iload d8_lengthenRows_75 6 rfl ?_
        obtain ⟨g8, h⟩ := h
        refine x_lald d8_lengthenRows_77 (hS.1 _ _ ha3) g8 ?_
        refine x_ladd d8_lengthenRows_78 ?_
        refine x_cSJ (Z := ym_min_J) (S := rmm_min_J) (As := [.long w5, .long ((xm_gl M (b + 116 + (Int32.toNatClampNeg v4)) (Int32.toNatClampNeg v7)) + (xm_gl M a3 (Int32.toNatClampNeg v7)))]) (rest := []) d8_lengthenRows_79 ml8_45 km_min_J rfl rfl (Nat.le_of_ble_eq_true rfl) ⟨⟨by decide, by decide⟩, by decide, by decide⟩ ⟨rfl, rfl⟩ h (fun r10 M9 h => ?_)
        obtain ⟨hS, h⟩ := h
        refine x_lstore d8_lengthenRows_82 (by decide) (L' := [(5, .long r10), (0, .ref (b + 129)), (1, .ref (b + 110)), (2, .int v2), (3, .ref a3), (4, .int v4), (7, .int v7)]) rfl ?_
        refine x_iinc d8_lengthenRows_84 6 rfl rfl (by decide) (L' := [(7, .int (v7 + Int32.ofInt (1))), (5, .long r10), (0, .ref (b + 129)), (1, .ref (b + 110)), (2, .int v2), (3, .ref a3), (4, .int v4)]) rfl ?_
        refine x_goto d8_lengthenRows_87 (t := 27) (by decide) ?_
        exact xm_X.sub [2, 3, 4, 5, 6, 1, 0] rfl (h hS)

set_option maxRecDepth 20000 in
theorem t8_chooseSteps_0 {l : Launch} {E : xm_E} {b : Nat} {c p : Bool} {Q : Option Value → xm_M → Prop} (M : xm_M) (v2 : Int32) (w3 : Int64) (hS : xm_st b c p M)
  (h : (xm_st b c p M → xm_X l E y8_chooseSteps rm8_chooseSteps Q 9 [(0, .ref (b + 129)), (1, .ref (b + 110)), (5, .int v2), (6, .long w3), (8, .int (0 : Int32))] [] 0 0 M)) :
  xm_X l E y8_chooseSteps rm8_chooseSteps Q 0 [(0, .ref (b + 129)), (1, .ref (b + 110)), (2, .int v2), (3, .long w3)] [] 0 0 M := by
  refine x_iload_n d8_chooseSteps_0 2 rfl rfl ?_
  refine x_istore d8_chooseSteps_1 (by decide) (L' := [(5, .int v2), (0, .ref (b + 129)), (1, .ref (b + 110)), (2, .int v2), (3, .long w3)]) rfl ?_
  refine x_lload_n d8_chooseSteps_3 4 rfl rfl ?_
  refine x_lstore d8_chooseSteps_4 (by decide) (L' := [(6, .long w3), (5, .int v2), (0, .ref (b + 129)), (1, .ref (b + 110)), (2, .int v2), (3, .long w3)]) rfl ?_
  refine x_iconst d8_chooseSteps_6 qi_0 ?_
  refine x_istore d8_chooseSteps_7 (by decide) (L' := [(8, .int (0 : Int32)), (6, .long w3), (5, .int v2), (0, .ref (b + 129)), (1, .ref (b + 110)), (2, .int v2), (3, .long w3)]) rfl ?_
  exact xm_X.sub [3, 4, 2, 1, 0] rfl (h hS)
set_option maxRecDepth 20000 in
theorem t8_chooseSteps_9 {l : Launch} {E : xm_E} {b : Nat} {c p : Bool} {Q : Option Value → xm_M → Prop} (M : xm_M) (v5 : Int32) (w6 : Int64) (v8 : Int32) (hS : xm_st b c p M)
  (h : (((xm_gi M (b + 129) 2) ≤ v8 → (xm_st b c p M → Q none M)) ∧ (¬ (xm_gi M (b + 129) 2) ≤ v8 → (vp_in (((xm_gi M (b + 129) 2) - v8) - (1 : Int32)) 13 ∧ xm_C l E y8_firstFitting rm8_firstFitting [.ref (b + 110), .int v5, .long w6, .ref (b + 131 + (Int32.toNatClampNeg (((xm_gi M (b + 129) 2) - v8) - (1 : Int32))))] M (fun r M2 => ∃ r3 : Int32, r = some (.int r3) ∧ xm_st b c p M2 ∧ (vp_in r3 200 ∧ (vp_in v8 12 ∧ (vp_in r3 200 ∧ (vp_in r3 200 ∧ (xm_st b c p (xm_pi M2 (b + 144) (Int32.toNatClampNeg v8) (xm_gi M2 (b + 111) (Int32.toNatClampNeg r3))) → xm_X l E y8_chooseSteps rm8_chooseSteps Q 9 [(0, .ref (b + 129)), (1, .ref (b + 110)), (5, .int (xm_gi (xm_pi M2 (b + 144) (Int32.toNatClampNeg v8) (xm_gi M2 (b + 111) (Int32.toNatClampNeg r3))) (b + 113) (Int32.toNatClampNeg r3))), (6, .long (w6 - (xm_gl (xm_pi M2 (b + 144) (Int32.toNatClampNeg v8) (xm_gi M2 (b + 111) (Int32.toNatClampNeg r3))) (b + 114) (Int32.toNatClampNeg r3)))), (8, .int (v8 + Int32.ofInt (1)))] [] 0 0 (xm_pi M2 (b + 144) (Int32.toNatClampNeg v8) (xm_gi M2 (b + 111) (Int32.toNatClampNeg r3))))))))))))) :
  xm_X l E y8_chooseSteps rm8_chooseSteps Q 9 [(0, .ref (b + 129)), (1, .ref (b + 110)), (5, .int v5), (6, .long w6), (8, .int v8)] [] 0 0 M := by
  refine x_iload d8_chooseSteps_9 4 rfl ?_
  refine x_aload_n d8_chooseSteps_11 0 rfl rfl ?_
  refine x_getI d8_chooseSteps_12 fl8_32 (fun _ _ => rfl) (hS.1 _ _ (sh_129 b)) ?_
  refine x_icmp_ge d8_chooseSteps_15 (t := 83) (by decide) (fun g => ?_) (fun g => ?_)
  · have h := h.1 g
    exact x_ret (r := none) d8_chooseSteps_83 xm_rN rfl ⟨Nat.le_refl _, Nat.le_refl _⟩ (h hS)
  · have h := h.2 g
    refine x_aload_n d8_chooseSteps_18 1 rfl rfl ?_
    refine x_iload d8_chooseSteps_19 2 rfl ?_
    refine x_lload d8_chooseSteps_21 3 rfl ?_
    refine x_aload_n d8_chooseSteps_23 0 rfl rfl ?_
    refine x_getR d8_chooseSteps_24 fl8_11 (fun _ _ => rfl) (hS.1 _ _ (sh_129 b)) (hS.2.1 _ _ _ (pt_129_0 b)) ?_
    refine x_aload_n d8_chooseSteps_27 0 rfl rfl ?_
    refine x_getI d8_chooseSteps_28 fl8_32 (fun _ _ => rfl) (hS.1 _ _ (sh_129 b)) ?_
    refine x_iload d8_chooseSteps_31 4 rfl ?_
    refine x_isub d8_chooseSteps_33 ?_
    refine x_iconst d8_chooseSteps_34 qi_1 ?_
    refine x_isub d8_chooseSteps_35 ?_
    obtain ⟨g1, h⟩ := h
    refine x_aald d8_chooseSteps_36 (hS.1 _ _ (sh_130 b)) (by decide) rfl g1 (hS.2.1 _ _ _ (ptf_130 (vp_lt g1))) ?_
    refine x_cSI (Z := y8_firstFitting) (S := rm8_firstFitting) (As := [.ref (b + 110), .int v5, .long w6, .ref (b + 131 + (Int32.toNatClampNeg (((xm_gi M (b + 129) 2) - v8) - (1 : Int32))))]) (rest := []) d8_chooseSteps_37 ml8_51 k8_firstFitting rfl rfl (Nat.le_of_ble_eq_true rfl) ⟨⟨by decide, by decide⟩, by decide, by decide⟩ ⟨rfl, rfl⟩ h (fun r3 M2 h => ?_)
    obtain ⟨hS, h⟩ := h
    refine x_istore d8_chooseSteps_40 (by decide) (L' := [(9, .int r3), (0, .ref (b + 129)), (1, .ref (b + 110)), (5, .int v5), (6, .long w6), (8, .int v8)]) rfl ?_
    refine x_aload_n d8_chooseSteps_42 1 rfl rfl ?_
    refine x_getR d8_chooseSteps_43 fl8_16 (fun _ _ => rfl) (hS.1 _ _ (sh_129 b)) (hS.2.1 _ _ _ (pt_129_1 b)) ?_
    refine x_iload d8_chooseSteps_46 5 rfl ?_
    refine x_aload_n d8_chooseSteps_48 2 rfl rfl ?_
    refine x_getR d8_chooseSteps_49 fl8_55 (fun _ _ => rfl) (hS.1 _ _ (sh_110 b)) (hS.2.1 _ _ _ (pt_110_0 b)) ?_
    refine x_iload d8_chooseSteps_52 0 rfl ?_
    obtain ⟨g4, h⟩ := h
    refine x_iald d8_chooseSteps_54 (hS.1 _ _ (sh_111 b)) g4 ?_
    obtain ⟨g5, h⟩ := h
    refine x_iast d8_chooseSteps_55 (hS.1 _ _ (sh_144 b)) g5 ?_
    refine x_aload_n d8_chooseSteps_56 2 rfl rfl ?_
    refine x_getR d8_chooseSteps_57 fl8_58 (fun _ _ => rfl) (hS.pi.1 _ _ (sh_110 b)) (hS.pi.2.1 _ _ _ (pt_110_2 b)) ?_
    refine x_iload d8_chooseSteps_60 0 rfl ?_
    obtain ⟨g6, h⟩ := h
    refine x_iald d8_chooseSteps_62 (hS.pi.1 _ _ (sh_113 b)) g6 ?_
    refine x_istore d8_chooseSteps_63 (by decide) (L' := [(5, .int (xm_gi (xm_pi M2 (b + 144) (Int32.toNatClampNeg v8) (xm_gi M2 (b + 111) (Int32.toNatClampNeg r3))) (b + 113) (Int32.toNatClampNeg r3))), (9, .int r3), (0, .ref (b + 129)), (1, .ref (b + 110)), (6, .long w6), (8, .int v8)]) rfl ?_
    refine x_lload d8_chooseSteps_65 4 rfl ?_
    refine x_aload_n d8_chooseSteps_67 3 rfl rfl ?_
    refine x_getR d8_chooseSteps_68 fl8_61 (fun _ _ => rfl) (hS.pi.1 _ _ (sh_110 b)) (hS.pi.2.1 _ _ _ (pt_110_3 b)) ?_
    refine x_iload d8_chooseSteps_71 1 rfl ?_
    obtain ⟨g7, h⟩ := h
    refine x_lald d8_chooseSteps_73 (hS.pi.1 _ _ (sh_114 b)) g7 ?_
    refine x_lsub d8_chooseSteps_74 ?_
    refine x_lstore d8_chooseSteps_75 (by decide) (L' := [(6, .long (w6 - (xm_gl (xm_pi M2 (b + 144) (Int32.toNatClampNeg v8) (xm_gi M2 (b + 111) (Int32.toNatClampNeg r3))) (b + 114) (Int32.toNatClampNeg r3)))), (5, .int (xm_gi (xm_pi M2 (b + 144) (Int32.toNatClampNeg v8) (xm_gi M2 (b + 111) (Int32.toNatClampNeg r3))) (b + 113) (Int32.toNatClampNeg r3))), (9, .int r3), (0, .ref (b + 129)), (1, .ref (b + 110)), (8, .int v8)]) rfl ?_
    refine x_iinc d8_chooseSteps_77 5 rfl rfl (by decide) (L' := [(8, .int (v8 + Int32.ofInt (1))), (6, .long (w6 - (xm_gl (xm_pi M2 (b + 144) (Int32.toNatClampNeg v8) (xm_gi M2 (b + 111) (Int32.toNatClampNeg r3))) (b + 114) (Int32.toNatClampNeg r3)))), (5, .int (xm_gi (xm_pi M2 (b + 144) (Int32.toNatClampNeg v8) (xm_gi M2 (b + 111) (Int32.toNatClampNeg r3))) (b + 113) (Int32.toNatClampNeg r3))), (9, .int r3), (0, .ref (b + 129)), (1, .ref (b + 110))]) rfl ?_
    refine x_goto d8_chooseSteps_80 (t := 9) (by decide) ?_
    exact xm_X.sub [4, 5, 2, 1, 0] rfl (h hS.pi)

set_option maxRecDepth 20000 in
theorem t8_firstFitting_0 {l : Launch} {E : xm_E} {b : Nat} {c p : Bool} {Q : Option Value → xm_M → Prop} (M : xm_M) (v1 : Int32) (w2 : Int64) (a4 : Nat) (ha4 : xS b a4 = some (.inl (10, .long))) (hS : xm_st b c p M)
  (h : (xm_st b c p M → xm_X l E y8_firstFitting rm8_firstFitting Q 3 [(0, .ref (b + 110)), (1, .int v1), (2, .long w2), (4, .ref a4), (5, .int (0 : Int32))] [] 0 0 M)) :
  xm_X l E y8_firstFitting rm8_firstFitting Q 0 [(0, .ref (b + 110)), (1, .int v1), (2, .long w2), (4, .ref a4)] [] 0 0 M := by
  refine x_iconst d8_firstFitting_0 qi_0 ?_
  refine x_istore d8_firstFitting_1 (by decide) (L' := [(5, .int (0 : Int32)), (0, .ref (b + 110)), (1, .int v1), (2, .long w2), (4, .ref a4)]) rfl ?_
  exact xm_X.sub [1, 2, 3, 4, 0] rfl (h hS)
set_option maxRecDepth 20000 in
theorem t8_firstFitting_3 {l : Launch} {E : xm_E} {b : Nat} {c p : Bool} {Q : Option Value → xm_M → Prop} (M : xm_M) (v1 : Int32) (w2 : Int64) (a4 : Nat) (v5 : Int32) (ha4 : xS b a4 = some (.inl (10, .long))) (hS : xm_st b c p M)
  (h : (((xm_gi M (b + 110) 4) ≤ v5 → (xm_st b c p M → Q (some (.int (0 : Int32))) M)) ∧ (¬ (xm_gi M (b + 110) 4) ≤ v5 → (vp_in v5 200 ∧ (vp_in (xm_gi M (b + 113) (Int32.toNatClampNeg v5)) 10 ∧ (vp_in v5 200 ∧ ((¬ (xm_gi M (b + 112) (Int32.toNatClampNeg v5)) = v1 → (xm_st b c p M → xm_X l E y8_firstFitting rm8_firstFitting Q 3 [(0, .ref (b + 110)), (1, .int v1), (2, .long w2), (4, .ref a4), (5, .int (v5 + Int32.ofInt (1)))] [] 0 0 M)) ∧ ((xm_gi M (b + 112) (Int32.toNatClampNeg v5)) = v1 → (((xm_gl M a4 (Int32.toNatClampNeg (xm_gi M (b + 113) (Int32.toNatClampNeg v5)))) = (4611686018427387904 : Int64) → (xm_st b c p M → xm_X l E y8_firstFitting rm8_firstFitting Q 3 [(0, .ref (b + 110)), (1, .int v1), (2, .long w2), (4, .ref a4), (5, .int (v5 + Int32.ofInt (1)))] [] 0 0 M)) ∧ (¬ (xm_gl M a4 (Int32.toNatClampNeg (xm_gi M (b + 113) (Int32.toNatClampNeg v5)))) = (4611686018427387904 : Int64) → (vp_in v5 200 ∧ ((w2 < ((xm_gl M (b + 114) (Int32.toNatClampNeg v5)) + (xm_gl M a4 (Int32.toNatClampNeg (xm_gi M (b + 113) (Int32.toNatClampNeg v5))))) → (xm_st b c p M → xm_X l E y8_firstFitting rm8_firstFitting Q 3 [(0, .ref (b + 110)), (1, .int v1), (2, .long w2), (4, .ref a4), (5, .int (v5 + Int32.ofInt (1)))] [] 0 0 M)) ∧ (¬ w2 < ((xm_gl M (b + 114) (Int32.toNatClampNeg v5)) + (xm_gl M a4 (Int32.toNatClampNeg (xm_gi M (b + 113) (Int32.toNatClampNeg v5))))) → (xm_st b c p M → Q (some (.int v5)) M)))))))))))))) :
  xm_X l E y8_firstFitting rm8_firstFitting Q 3 [(0, .ref (b + 110)), (1, .int v1), (2, .long w2), (4, .ref a4), (5, .int v5)] [] 0 0 M := by
  refine x_iload d8_firstFitting_3 4 rfl ?_
  refine x_aload_n d8_firstFitting_5 0 rfl rfl ?_
  refine x_getI d8_firstFitting_6 fl8_65 (fun _ _ => rfl) (hS.1 _ _ (sh_110 b)) ?_
  refine x_icmp_ge d8_firstFitting_9 (t := 68) (by decide) (fun g => ?_) (fun g => ?_)
  · have h := h.1 g
    refine x_iconst d8_firstFitting_68 qi_0 ?_
    exact x_ret (r := (some (.int (0 : Int32)))) d8_firstFitting_69 xm_rI rfl ⟨Nat.le_refl _, Nat.le_refl _⟩ (h hS)
  · have h := h.2 g
    refine x_aload d8_firstFitting_12 3 rfl ?_
    refine x_aload_n d8_firstFitting_14 0 rfl rfl ?_
    refine x_getR d8_firstFitting_15 fl8_58 (fun _ _ => rfl) (hS.1 _ _ (sh_110 b)) (hS.2.1 _ _ _ (pt_110_2 b)) ?_
    refine x_iload d8_firstFitting_18 4 rfl ?_
    obtain ⟨g1, h⟩ := h
    refine x_iald d8_firstFitting_20 (hS.1 _ _ (sh_113 b)) g1 ?_
    obtain ⟨g2, h⟩ := h
    refine x_lald d8_firstFitting_21 (hS.1 _ _ ha4) g2 ?_
    refine x_lstore d8_firstFitting_22 (by decide) (L' := [(6, .long (xm_gl M a4 (Int32.toNatClampNeg (xm_gi M (b + 113) (Int32.toNatClampNeg v5))))), (0, .ref (b + 110)), (1, .int v1), (2, .long w2), (4, .ref a4), (5, .int v5)]) rfl ?_
    refine x_aload_n d8_firstFitting_24 1 rfl rfl ?_
    refine x_getR d8_firstFitting_25 fl8_68 (fun _ _ => rfl) (hS.1 _ _ (sh_110 b)) (hS.2.1 _ _ _ (pt_110_1 b)) ?_
    refine x_iload d8_firstFitting_28 5 rfl ?_
    obtain ⟨g3, h⟩ := h
    refine x_iald d8_firstFitting_30 (hS.1 _ _ (sh_112 b)) g3 ?_
    refine x_iload_n d8_firstFitting_31 2 rfl rfl ?_
    refine x_icmp_ne d8_firstFitting_32 (t := 62) (by decide) (fun g => ?_) (fun g => ?_)
    · have h := h.1 g
      refine x_iinc d8_firstFitting_62 5 rfl rfl (by decide) (L' := [(5, .int (v5 + Int32.ofInt (1))), (6, .long (xm_gl M a4 (Int32.toNatClampNeg (xm_gi M (b + 113) (Int32.toNatClampNeg v5))))), (0, .ref (b + 110)), (1, .int v1), (2, .long w2), (4, .ref a4)]) rfl ?_
      refine x_goto d8_firstFitting_65 (t := 3) (by decide) ?_
      exact xm_X.sub [2, 3, 4, 5, 0] rfl (h hS)
    · have h := h.2 g
      refine x_lload d8_firstFitting_35 0 rfl ?_
      refine x_ldc2 d8_firstFitting_37 lc8_20 ?_
      refine x_lc_eq d8_firstFitting_40 d8_firstFitting_41 rfl rfl (t := 62) (by decide) (fun g => ?_) (fun g => ?_)
      · have h := h.1 g
        refine x_iinc d8_firstFitting_62 5 rfl rfl (by decide) (L' := [(5, .int (v5 + Int32.ofInt (1))), (6, .long (xm_gl M a4 (Int32.toNatClampNeg (xm_gi M (b + 113) (Int32.toNatClampNeg v5))))), (0, .ref (b + 110)), (1, .int v1), (2, .long w2), (4, .ref a4)]) rfl ?_
        refine x_goto d8_firstFitting_65 (t := 3) (by decide) ?_
        exact xm_X.sub [2, 3, 4, 5, 0] rfl (h hS)
      · have h := h.2 g
        refine x_aload_n d8_firstFitting_44 1 rfl rfl ?_
        refine x_getR d8_firstFitting_45 fl8_61 (fun _ _ => rfl) (hS.1 _ _ (sh_110 b)) (hS.2.1 _ _ _ (pt_110_3 b)) ?_
        refine x_iload d8_firstFitting_48 5 rfl ?_
        obtain ⟨g4, h⟩ := h
        refine x_lald d8_firstFitting_50 (hS.1 _ _ (sh_114 b)) g4 ?_
        refine x_lload d8_firstFitting_51 0 rfl ?_
        refine x_ladd d8_firstFitting_53 ?_
        refine x_lload_n d8_firstFitting_54 3 rfl rfl ?_
        refine x_lc_gt d8_firstFitting_55 d8_firstFitting_56 rfl rfl (t := 62) (by decide) (fun g => ?_) (fun g => ?_)
        · have h := h.1 g
          refine x_iinc d8_firstFitting_62 5 rfl rfl (by decide) (L' := [(5, .int (v5 + Int32.ofInt (1))), (6, .long (xm_gl M a4 (Int32.toNatClampNeg (xm_gi M (b + 113) (Int32.toNatClampNeg v5))))), (0, .ref (b + 110)), (1, .int v1), (2, .long w2), (4, .ref a4)]) rfl ?_
          refine x_goto d8_firstFitting_65 (t := 3) (by decide) ?_
          exact xm_X.sub [2, 3, 4, 5, 0] rfl (h hS)
        · have h := h.2 g
          refine x_iload d8_firstFitting_59 5 rfl ?_
          exact x_ret (r := (some (.int v5))) d8_firstFitting_61 xm_rI rfl ⟨Nat.le_refl _, Nat.le_refl _⟩ (h hS)

set_option maxRecDepth 20000 in
theorem t5_giveRow_0 {l : Launch} {E : xm_E} {b : Nat} {c p : Bool} {Q : Option Value → xm_M → Prop} (M : xm_M) (v1 : Int32) (hS : xm_st b c true M)
  (h : xm_C l E y5_put rm5_put [.ref (b + 55), .int (xm_gi M (b + 129) 2)] M (fun r M1 => r = none ∧ xm_st b c true M1 ∧ (xm_st b c true M1 → xm_X l E y5_giveRow rm5_giveRow Q 13 [(0, .ref (b + 55)), (1, .int v1), (2, .int (0 : Int32))] [] 0 0 M1))) :
  xm_X l E y5_giveRow rm5_giveRow Q 0 [(0, .ref (b + 55)), (1, .int v1)] [] 0 0 M := by
  refine x_aload_n d5_giveRow_0 0 rfl rfl ?_
  refine x_aload_n d5_giveRow_1 0 rfl rfl ?_
  refine x_getR d5_giveRow_2 fl5_43 (fun _ _ => rfl) (hS.1 _ _ (sh_55 b)) (hS.2.1 _ _ _ (pt_55_7 b)) ?_
  refine x_getI d5_giveRow_5 fl5_176 (fun _ _ => rfl) (hS.1 _ _ (sh_129 b)) ?_
  refine x_cVN (Z := y5_put) (S := rm5_put) (As := [.int (xm_gi M (b + 129) 2)]) (rest := []) d5_giveRow_8 ml5_168 k5_put rfl (b := (b + 55)) (hS.1 _ _ (sh_55 b)) rfl rfl (Nat.le_of_ble_eq_true rfl) ⟨⟨by decide, by decide⟩, by decide, by decide⟩ ⟨rfl, rfl⟩ h (fun M1 h => ?_)
  obtain ⟨hS, h⟩ := h
  refine x_iconst d5_giveRow_11 qi_0 ?_
  refine x_istore_n d5_giveRow_12 rfl (by decide) (L' := [(2, .int (0 : Int32)), (0, .ref (b + 55)), (1, .int v1)]) rfl ?_
  exact xm_X.sub [1, 2, 0] rfl (h hS)
set_option maxRecDepth 20000 in
theorem t5_giveRow_13 {l : Launch} {E : xm_E} {b : Nat} {c p : Bool} {Q : Option Value → xm_M → Prop} (M : xm_M) (v1 : Int32) (v2 : Int32) (hS : xm_st b c true M)
  (h : (((xm_gi M (b + 129) 2) ≤ v2 → (xm_st b c true M → Q (some (.int (1 : Int32))) M)) ∧ (¬ (xm_gi M (b + 129) 2) ≤ v2 → (((xm_gi M (b + 55) 10) = 0 → (vp_in v2 12 ∧ xm_C l E y5_needPartsOf rm5_needPartsOf [.ref (b + 55), .int v1, .int (xm_gi M (b + 144) (Int32.toNatClampNeg v2))] M (fun r M2 => r = none ∧ xm_st b c true M2 ∧ (xm_st b c true M2 → xm_X l E y5_giveRow rm5_giveRow Q 13 [(0, .ref (b + 55)), (1, .int v1), (2, .int (v2 + Int32.ofInt (1)))] [] 0 0 M2)))) ∧ (¬ (xm_gi M (b + 55) 10) = 0 → (vp_in v2 12 ∧ xm_C l E y5_numberInProof rm5_numberInProof [.ref (b + 55), .int v1, .int (xm_gi M (b + 144) (Int32.toNatClampNeg v2))] M (fun r M5 => ∃ r6 : Int32, r = some (.int r6) ∧ xm_st b c true M5 ∧ xm_C l E y5_put rm5_put [.ref (b + 55), .int r6] M5 (fun r M7 => r = none ∧ xm_st b c true M7 ∧ (xm_st b c true M7 → xm_X l E y5_giveRow rm5_giveRow Q 13 [(0, .ref (b + 55)), (1, .int v1), (2, .int (v2 + Int32.ofInt (1)))] [] 0 0 M7))))))))) :
  xm_X l E y5_giveRow rm5_giveRow Q 13 [(0, .ref (b + 55)), (1, .int v1), (2, .int v2)] [] 0 0 M := by
  refine x_iload_n d5_giveRow_13 2 rfl rfl ?_
  refine x_aload_n d5_giveRow_14 0 rfl rfl ?_
  refine x_getR d5_giveRow_15 fl5_43 (fun _ _ => rfl) (hS.1 _ _ (sh_55 b)) (hS.2.1 _ _ _ (pt_55_7 b)) ?_
  refine x_getI d5_giveRow_18 fl5_176 (fun _ _ => rfl) (hS.1 _ _ (sh_129 b)) ?_
  refine x_icmp_ge d5_giveRow_21 (t := 72) (by decide) (fun g => ?_) (fun g => ?_)
  · have h := h.1 g
    refine x_iconst d5_giveRow_72 qi_1 ?_
    exact x_ret (r := (some (.int (1 : Int32)))) d5_giveRow_73 (xm_rZ (Or.inr rfl)) rfl ⟨Nat.le_refl _, Nat.le_refl _⟩ (h hS)
  · have h := h.2 g
    refine x_aload_n d5_giveRow_24 0 rfl rfl ?_
    refine x_getI d5_giveRow_25 fl5_63 (fun _ _ => rfl) (hS.1 _ _ (sh_55 b)) ?_
    refine x_if_eq d5_giveRow_28 (t := 52) (by decide) (fun g => ?_) (fun g => ?_)
    · have h := h.1 g
      refine x_aload_n d5_giveRow_52 0 rfl rfl ?_
      refine x_iload_n d5_giveRow_53 1 rfl rfl ?_
      refine x_aload_n d5_giveRow_54 0 rfl rfl ?_
      refine x_getR d5_giveRow_55 fl5_43 (fun _ _ => rfl) (hS.1 _ _ (sh_55 b)) (hS.2.1 _ _ _ (pt_55_7 b)) ?_
      refine x_getR d5_giveRow_58 fl5_179 (fun _ _ => rfl) (hS.1 _ _ (sh_129 b)) (hS.2.1 _ _ _ (pt_129_1 b)) ?_
      refine x_iload_n d5_giveRow_61 2 rfl rfl ?_
      obtain ⟨g1, h⟩ := h
      refine x_iald d5_giveRow_62 (hS.1 _ _ (sh_144 b)) g1 ?_
      refine x_cVN (Z := y5_needPartsOf) (S := rm5_needPartsOf) (As := [.int v1, .int (xm_gi M (b + 144) (Int32.toNatClampNeg v2))]) (rest := []) d5_giveRow_63 ml5_185 k5_needPartsOf rfl (b := (b + 55)) (hS.1 _ _ (sh_55 b)) rfl rfl (Nat.le_of_ble_eq_true rfl) ⟨⟨by decide, by decide⟩, by decide, by decide⟩ ⟨rfl, rfl⟩ h (fun M2 h => ?_)
      obtain ⟨hS, h⟩ := h
      refine x_iinc d5_giveRow_66 2 rfl rfl (by decide) (L' := [(2, .int (v2 + Int32.ofInt (1))), (0, .ref (b + 55)), (1, .int v1)]) rfl ?_
      refine x_goto d5_giveRow_69 (t := 13) (by decide) ?_
      exact xm_X.sub [1, 2, 0] rfl (h hS)
    · have h := h.2 g
      refine x_aload_n d5_giveRow_31 0 rfl rfl ?_
      refine x_aload_n d5_giveRow_32 0 rfl rfl ?_
      refine x_iload_n d5_giveRow_33 1 rfl rfl ?_
      refine x_aload_n d5_giveRow_34 0 rfl rfl ?_
      refine x_getR d5_giveRow_35 fl5_43 (fun _ _ => rfl) (hS.1 _ _ (sh_55 b)) (hS.2.1 _ _ _ (pt_55_7 b)) ?_
      refine x_getR d5_giveRow_38 fl5_179 (fun _ _ => rfl) (hS.1 _ _ (sh_129 b)) (hS.2.1 _ _ _ (pt_129_1 b)) ?_
      refine x_iload_n d5_giveRow_41 2 rfl rfl ?_
      obtain ⟨g4, h⟩ := h
      refine x_iald d5_giveRow_42 (hS.1 _ _ (sh_144 b)) g4 ?_
      refine x_cVI (Z := y5_numberInProof) (S := rm5_numberInProof) (As := [.int v1, .int (xm_gi M (b + 144) (Int32.toNatClampNeg v2))]) (rest := [.ref (b + 55)]) d5_giveRow_43 ml5_182 k5_numberInProof rfl (b := (b + 55)) (hS.1 _ _ (sh_55 b)) rfl rfl (Nat.le_of_ble_eq_true rfl) ⟨⟨by decide, by decide⟩, by decide, by decide⟩ ⟨rfl, rfl⟩ h (fun r6 M5 h => ?_)
      obtain ⟨hS, h⟩ := h
      refine x_cVN (Z := y5_put) (S := rm5_put) (As := [.int r6]) (rest := []) d5_giveRow_46 ml5_168 k5_put rfl (b := (b + 55)) (hS.1 _ _ (sh_55 b)) rfl rfl (Nat.le_of_ble_eq_true rfl) ⟨⟨by decide, by decide⟩, by decide, by decide⟩ ⟨rfl, rfl⟩ h (fun M7 h => ?_)
      obtain ⟨hS, h⟩ := h
      refine x_goto d5_giveRow_49 (t := 66) (by decide) ?_
      refine x_iinc d5_giveRow_66 2 rfl rfl (by decide) (L' := [(2, .int (v2 + Int32.ofInt (1))), (0, .ref (b + 55)), (1, .int v1)]) rfl ?_
      refine x_goto d5_giveRow_69 (t := 13) (by decide) ?_
      exact xm_X.sub [1, 2, 0] rfl (h hS)

set_option maxRecDepth 20000 in
theorem t5_put_0 {l : Launch} {E : xm_E} {b : Nat} {c p : Bool} {Q : Option Value → xm_M → Prop} (M : xm_M) (v1 : Int32) (hS : xm_st b c true M)
  (h : (((xm_gi M (b + 55) 10) = 0 → (xm_st b c true M → Q none M)) ∧ (¬ (xm_gi M (b + 55) 10) = 0 → xm_C l E y3_append rm3_append [.ref (b + 51), .int v1] M (fun r M1 => ∃ r2 : Bool, r = some (.int (xz r2)) ∧ xm_st b c true M1 ∧ ((¬ (xz r2) = 0 → (xm_st b c true M1 → Q none M1)) ∧ ((xz r2) = 0 → (xm_st b c true (xm_pi M1 (b + 55) 11 (0 : Int32)) → Q none (xm_pi M1 (b + 55) 11 (0 : Int32))))))))) :
  xm_X l E y5_put rm5_put Q 0 [(0, .ref (b + 55)), (1, .int v1)] [] 0 0 M := by
  refine x_aload_n d5_put_0 0 rfl rfl ?_
  refine x_getI d5_put_1 fl5_63 (fun _ _ => rfl) (hS.1 _ _ (sh_55 b)) ?_
  refine x_if_eq d5_put_4 (t := 23) (by decide) (fun g => ?_) (fun g => ?_)
  · have h := h.1 g
    exact x_ret (r := none) d5_put_23 xm_rN rfl ⟨Nat.le_refl _, Nat.le_refl _⟩ (h hS)
  · have h := h.2 g
    refine x_aload_n d5_put_7 0 rfl rfl ?_
    refine x_getR d5_put_8 fl5_59 (fun _ _ => rfl) (hS.1 _ _ (sh_55 b)) (hS.2.2.2 rfl).2 ?_
    refine x_iload_n d5_put_11 1 rfl rfl ?_
    refine x_cVZ (Z := y3_append) (S := rm3_append) (As := [.int v1]) (rest := []) d5_put_12 ml5_195 k3_append rfl (b := (b + 51)) (hS.1 _ _ (sh_51 b)) rfl rfl (Nat.le_of_ble_eq_true rfl) ⟨⟨by decide, by decide⟩, by decide, by decide⟩ ⟨rfl, rfl⟩ h (fun r2 M1 h => ?_)
    obtain ⟨hS, h⟩ := h
    refine x_if_ne d5_put_15 (t := 23) (by decide) (fun g => ?_) (fun g => ?_)
    · have h := h.1 g
      exact x_ret (r := none) d5_put_23 xm_rN rfl ⟨Nat.le_refl _, Nat.le_refl _⟩ (h hS)
    · have h := h.2 g
      refine x_aload_n d5_put_18 0 rfl rfl ?_
      refine x_iconst d5_put_19 qi_0 ?_
      refine x_putI d5_put_20 fw5_67 (fun _ _ => rfl) rfl rfl (hS.1 _ _ (sh_55 b)) ?_
      exact x_ret (r := none) d5_put_23 xm_rN rfl ⟨Nat.le_refl _, Nat.le_refl _⟩ (h hS.pi)

set_option maxRecDepth 20000 in
theorem t5_numberInProof_0 {l : Launch} {E : xm_E} {b : Nat} {c p : Bool} {Q : Option Value → xm_M → Prop} (M : xm_M) (v1 : Int32) (v2 : Int32) (hS : xm_st b c true M)
  (h : ((¬ v1 = (-1 : Int32) → (((100 : Int32) ≤ v2 → (vp_in v1 48 ∧ (vp_in v1 48 ∧ (((xm_gi M (b + 3 + (Int32.toNatClampNeg v1)) 0) = (4 : Int32) → (vp_in ((v2 - (100 : Int32)) / (100 : Int32)) 100 ∧ (vp_in ((v2 - (100 : Int32)) - (v2 - (100 : Int32)) / (100 : Int32) * (100 : Int32)) 100 ∧ (xm_st b c true M → Q (some (.int (((xm_gi M (b + 108) (Int32.toNatClampNeg v1)) + ((xm_gi M (b + 108) (Int32.toNatClampNeg v1)) * (xm_gi M (b + 109) (Int32.toNatClampNeg ((v2 - (100 : Int32)) / (100 : Int32)))))) + (xm_gi M (b + 109) (Int32.toNatClampNeg ((v2 - (100 : Int32)) - (v2 - (100 : Int32)) / (100 : Int32) * (100 : Int32))))))) M)))) ∧ (¬ (xm_gi M (b + 3 + (Int32.toNatClampNeg v1)) 0) = (4 : Int32) → (xm_st b c true M → Q (some (.int ((xm_gi M (b + 108) (Int32.toNatClampNeg v1)) + (v2 - (100 : Int32))))) M)))))) ∧ (¬ (100 : Int32) ≤ v2 → (vp_in v2 100 ∧ (xm_st b c true M → Q (some (.int (xm_gi M (b + 109) (Int32.toNatClampNeg v2)))) M))))) ∧ (v1 = (-1 : Int32) → (xm_st b c true M → Q (some (.int v2)) M)))) :
  xm_X l E y5_numberInProof rm5_numberInProof Q 0 [(0, .ref (b + 55)), (1, .int v1), (2, .int v2)] [] 0 0 M := by
  refine x_iload_n d5_numberInProof_0 1 rfl rfl ?_
  refine x_iconst d5_numberInProof_1 qi_n1 ?_
  refine x_icmp_ne d5_numberInProof_2 (t := 7) (by decide) (fun g => ?_) (fun g => ?_)
  · have h := h.1 g
    refine x_iload_n d5_numberInProof_7 2 rfl rfl ?_
    refine x_bipush d5_numberInProof_8 qb_100 ?_
    refine x_icmp_ge d5_numberInProof_10 (t := 20) (by decide) (fun g => ?_) (fun g => ?_)
    · have h := h.1 g
      refine x_aload_n d5_numberInProof_20 0 rfl rfl ?_
      refine x_getR d5_numberInProof_21 fl5_26 (fun _ _ => rfl) (hS.1 _ _ (sh_55 b)) (hS.2.1 _ _ _ (pt_55_4 b)) ?_
      refine x_iload_n d5_numberInProof_24 1 rfl rfl ?_
      obtain ⟨g1, h⟩ := h
      refine x_iald d5_numberInProof_25 (hS.1 _ _ (sh_108 b)) g1 ?_
      refine x_istore_n d5_numberInProof_26 rfl (by decide) (L' := [(3, .int (xm_gi M (b + 108) (Int32.toNatClampNeg v1))), (0, .ref (b + 55)), (1, .int v1), (2, .int v2)]) rfl ?_
      refine x_iload_n d5_numberInProof_27 3 rfl rfl ?_
      refine x_bipush d5_numberInProof_28 qb_100 ?_
      refine x_isub d5_numberInProof_30 ?_
      refine x_istore d5_numberInProof_31 (by decide) (L' := [(4, .int (v2 - (100 : Int32))), (3, .int (xm_gi M (b + 108) (Int32.toNatClampNeg v1))), (0, .ref (b + 55)), (1, .int v1), (2, .int v2)]) rfl ?_
      refine x_aload_n d5_numberInProof_33 2 rfl rfl ?_
      refine x_getR d5_numberInProof_34 fl5_55 (fun _ _ => rfl) (hS.1 _ _ (sh_55 b)) (hS.2.2.2 rfl).1 ?_
      refine x_getR d5_numberInProof_37 fl5_113 (fun _ _ => rfl) (hS.1 _ _ (sh_1 b)) (hS.2.1 _ _ _ (pt_1_1 b)) ?_
      refine x_iload_n d5_numberInProof_40 3 rfl rfl ?_
      obtain ⟨g2, h⟩ := h
      refine x_aald d5_numberInProof_41 (hS.1 _ _ (sh_2 b)) (by decide) rfl g2 (hS.2.1 _ _ _ (ptf_2 (vp_lt g2))) ?_
      refine x_getI d5_numberInProof_42 fl5_192 (fun _ _ => rfl) (hS.1 _ _ (shf_2 (vp_lt g2))) ?_
      refine x_iconst d5_numberInProof_45 qi_4 ?_
      refine x_icmp_eq d5_numberInProof_46 (t := 54) (by decide) (fun g => ?_) (fun g => ?_)
      · have h := h.1 g
        refine x_iload_n d5_numberInProof_54 1 rfl rfl ?_
        refine x_iload_n d5_numberInProof_55 1 rfl rfl ?_
        refine x_aload_n d5_numberInProof_56 2 rfl rfl ?_
        refine x_getR d5_numberInProof_57 fl5_30 (fun _ _ => rfl) (hS.1 _ _ (sh_55 b)) (hS.2.1 _ _ _ (pt_55_5 b)) ?_
        refine x_iload d5_numberInProof_60 0 rfl ?_
        refine x_bipush d5_numberInProof_62 qb_100 ?_
        refine x_idiv d5_numberInProof_64 (by decide) ?_
        obtain ⟨g3, h⟩ := h
        refine x_iald d5_numberInProof_65 (hS.1 _ _ (sh_109 b)) g3 ?_
        refine x_imul d5_numberInProof_66 ?_
        refine x_iadd d5_numberInProof_67 ?_
        refine x_aload_n d5_numberInProof_68 2 rfl rfl ?_
        refine x_getR d5_numberInProof_69 fl5_30 (fun _ _ => rfl) (hS.1 _ _ (sh_55 b)) (hS.2.1 _ _ _ (pt_55_5 b)) ?_
        refine x_iload d5_numberInProof_72 0 rfl ?_
        refine x_bipush d5_numberInProof_74 qb_100 ?_
        refine x_irem d5_numberInProof_76 (by decide) ?_
        obtain ⟨g4, h⟩ := h
        refine x_iald d5_numberInProof_77 (hS.1 _ _ (sh_109 b)) g4 ?_
        refine x_iadd d5_numberInProof_78 ?_
        exact x_ret (r := (some (.int (((xm_gi M (b + 108) (Int32.toNatClampNeg v1)) + ((xm_gi M (b + 108) (Int32.toNatClampNeg v1)) * (xm_gi M (b + 109) (Int32.toNatClampNeg ((v2 - (100 : Int32)) / (100 : Int32)))))) + (xm_gi M (b + 109) (Int32.toNatClampNeg ((v2 - (100 : Int32)) - (v2 - (100 : Int32)) / (100 : Int32) * (100 : Int32)))))))) d5_numberInProof_79 xm_rI rfl ⟨Nat.le_refl _, Nat.le_refl _⟩ (h hS)
      · have h := h.2 g
        refine x_iload_n d5_numberInProof_49 1 rfl rfl ?_
        refine x_iload d5_numberInProof_50 0 rfl ?_
        refine x_iadd d5_numberInProof_52 ?_
        exact x_ret (r := (some (.int ((xm_gi M (b + 108) (Int32.toNatClampNeg v1)) + (v2 - (100 : Int32)))))) d5_numberInProof_53 xm_rI rfl ⟨Nat.le_refl _, Nat.le_refl _⟩ (h hS)
    · have h := h.2 g
      refine x_aload_n d5_numberInProof_13 0 rfl rfl ?_
      refine x_getR d5_numberInProof_14 fl5_30 (fun _ _ => rfl) (hS.1 _ _ (sh_55 b)) (hS.2.1 _ _ _ (pt_55_5 b)) ?_
      refine x_iload_n d5_numberInProof_17 2 rfl rfl ?_
      obtain ⟨g5, h⟩ := h
      refine x_iald d5_numberInProof_18 (hS.1 _ _ (sh_109 b)) g5 ?_
      exact x_ret (r := (some (.int (xm_gi M (b + 109) (Int32.toNatClampNeg v2))))) d5_numberInProof_19 xm_rI rfl ⟨Nat.le_refl _, Nat.le_refl _⟩ (h hS)
  · have h := h.2 g
    refine x_iload_n d5_numberInProof_5 2 rfl rfl ?_
    exact x_ret (r := (some (.int v2))) d5_numberInProof_6 xm_rI rfl ⟨Nat.le_refl _, Nat.le_refl _⟩ (h hS)

set_option maxRecDepth 20000 in
theorem t5_needPartsOf_0 {l : Launch} {E : xm_E} {b : Nat} {c p : Bool} {Q : Option Value → xm_M → Prop} (M : xm_M) (v1 : Int32) (v2 : Int32) (hS : xm_st b c true M)
  (h : (((100 : Int32) ≤ v2 → (vp_in v1 48 ∧ ((¬ (xm_gi M (b + 3 + (Int32.toNatClampNeg v1)) 0) = (4 : Int32) → (xm_st b c true M → Q none M)) ∧ ((xm_gi M (b + 3 + (Int32.toNatClampNeg v1)) 0) = (4 : Int32) → xm_C l E y5_need rm5_need [.ref (b + 55), .int v1, .int ((v2 - (100 : Int32)) / (100 : Int32))] M (fun r M2 => r = none ∧ xm_st b c true M2 ∧ xm_C l E y5_need rm5_need [.ref (b + 55), .int v1, .int ((v2 - (100 : Int32)) - (v2 - (100 : Int32)) / (100 : Int32) * (100 : Int32))] M2 (fun r M4 => r = none ∧ xm_st b c true M4 ∧ (xm_st b c true M4 → Q none M4))))))) ∧ (¬ (100 : Int32) ≤ v2 → xm_C l E y5_need rm5_need [.ref (b + 55), .int v1, .int v2] M (fun r M6 => r = none ∧ xm_st b c true M6 ∧ (xm_st b c true M6 → Q none M6))))) :
  xm_X l E y5_needPartsOf rm5_needPartsOf Q 0 [(0, .ref (b + 55)), (1, .int v1), (2, .int v2)] [] 0 0 M := by
  refine x_iload_n d5_needPartsOf_0 2 rfl rfl ?_
  refine x_bipush d5_needPartsOf_1 qb_100 ?_
  refine x_icmp_ge d5_needPartsOf_3 (t := 15) (by decide) (fun g => ?_) (fun g => ?_)
  · have h := h.1 g
    refine x_aload_n d5_needPartsOf_15 0 rfl rfl ?_
    refine x_getR d5_needPartsOf_16 fl5_55 (fun _ _ => rfl) (hS.1 _ _ (sh_55 b)) (hS.2.2.2 rfl).1 ?_
    refine x_getR d5_needPartsOf_19 fl5_113 (fun _ _ => rfl) (hS.1 _ _ (sh_1 b)) (hS.2.1 _ _ _ (pt_1_1 b)) ?_
    refine x_iload_n d5_needPartsOf_22 1 rfl rfl ?_
    obtain ⟨g1, h⟩ := h
    refine x_aald d5_needPartsOf_23 (hS.1 _ _ (sh_2 b)) (by decide) rfl g1 (hS.2.1 _ _ _ (ptf_2 (vp_lt g1))) ?_
    refine x_getI d5_needPartsOf_24 fl5_192 (fun _ _ => rfl) (hS.1 _ _ (shf_2 (vp_lt g1))) ?_
    refine x_iconst d5_needPartsOf_27 qi_4 ?_
    refine x_icmp_ne d5_needPartsOf_28 (t := 55) (by decide) (fun g => ?_) (fun g => ?_)
    · have h := h.1 g
      exact x_ret (r := none) d5_needPartsOf_55 xm_rN rfl ⟨Nat.le_refl _, Nat.le_refl _⟩ (h hS)
    · have h := h.2 g
      refine x_aload_n d5_needPartsOf_31 0 rfl rfl ?_
      refine x_iload_n d5_needPartsOf_32 1 rfl rfl ?_
      refine x_iload_n d5_needPartsOf_33 2 rfl rfl ?_
      refine x_bipush d5_needPartsOf_34 qb_100 ?_
      refine x_isub d5_needPartsOf_36 ?_
      refine x_bipush d5_needPartsOf_37 qb_100 ?_
      refine x_idiv d5_needPartsOf_39 (by decide) ?_
      refine x_cVN (Z := y5_need) (S := rm5_need) (As := [.int v1, .int ((v2 - (100 : Int32)) / (100 : Int32))]) (rest := []) d5_needPartsOf_40 ml5_189 k5_need rfl (b := (b + 55)) (hS.1 _ _ (sh_55 b)) rfl rfl (Nat.le_of_ble_eq_true rfl) ⟨⟨by decide, by decide⟩, by decide, by decide⟩ ⟨rfl, rfl⟩ h (fun M2 h => ?_)
      obtain ⟨hS, h⟩ := h
      refine x_aload_n d5_needPartsOf_43 0 rfl rfl ?_
      refine x_iload_n d5_needPartsOf_44 1 rfl rfl ?_
      refine x_iload_n d5_needPartsOf_45 2 rfl rfl ?_
      refine x_bipush d5_needPartsOf_46 qb_100 ?_
      refine x_isub d5_needPartsOf_48 ?_
      refine x_bipush d5_needPartsOf_49 qb_100 ?_
      refine x_irem d5_needPartsOf_51 (by decide) ?_
      refine x_cVN (Z := y5_need) (S := rm5_need) (As := [.int v1, .int ((v2 - (100 : Int32)) - (v2 - (100 : Int32)) / (100 : Int32) * (100 : Int32))]) (rest := []) d5_needPartsOf_52 ml5_189 k5_need rfl (b := (b + 55)) (hS.1 _ _ (sh_55 b)) rfl rfl (Nat.le_of_ble_eq_true rfl) ⟨⟨by decide, by decide⟩, by decide, by decide⟩ ⟨rfl, rfl⟩ h (fun M4 h => ?_)
      obtain ⟨hS, h⟩ := h
      exact x_ret (r := none) d5_needPartsOf_55 xm_rN rfl ⟨Nat.le_refl _, Nat.le_refl _⟩ (h hS)
  · have h := h.2 g
    refine x_aload_n d5_needPartsOf_6 0 rfl rfl ?_
    refine x_iload_n d5_needPartsOf_7 1 rfl rfl ?_
    refine x_iload_n d5_needPartsOf_8 2 rfl rfl ?_
    refine x_cVN (Z := y5_need) (S := rm5_need) (As := [.int v1, .int v2]) (rest := []) d5_needPartsOf_9 ml5_189 k5_need rfl (b := (b + 55)) (hS.1 _ _ (sh_55 b)) rfl rfl (Nat.le_of_ble_eq_true rfl) ⟨⟨by decide, by decide⟩, by decide, by decide⟩ ⟨rfl, rfl⟩ h (fun M6 h => ?_)
    obtain ⟨hS, h⟩ := h
    refine x_goto d5_needPartsOf_12 (t := 55) (by decide) ?_
    exact x_ret (r := none) d5_needPartsOf_55 xm_rN rfl ⟨Nat.le_refl _, Nat.le_refl _⟩ (h hS)

set_option maxRecDepth 20000 in
theorem t5_need_0 {l : Launch} {E : xm_E} {b : Nat} {c p : Bool} {Q : Option Value → xm_M → Prop} (M : xm_M) (v1 : Int32) (v2 : Int32) (hS : xm_st b c true M)
  (h : (vp_in (((100 : Int32) * v1) + v2) 4800 ∧ ((¬ (xm_gi M (b + 107) (Int32.toNatClampNeg (((100 : Int32) * v1) + v2))) = 0 → (xm_st b c true M → Q none M)) ∧ ((xm_gi M (b + 107) (Int32.toNatClampNeg (((100 : Int32) * v1) + v2))) = 0 → (vp_in (((100 : Int32) * v1) + v2) 4800 ∧ (vp_in v1 48 ∧ (vp_in v1 48 ∧ (xm_st b c true (xm_pi (xm_pi M (b + 107) (Int32.toNatClampNeg (((100 : Int32) * v1) + v2)) (1 : Int32)) (b + 108) (Int32.toNatClampNeg v1) ((xm_gi (xm_pi M (b + 107) (Int32.toNatClampNeg (((100 : Int32) * v1) + v2)) (1 : Int32)) (b + 108) (Int32.toNatClampNeg v1)) + (1 : Int32))) → Q none (xm_pi (xm_pi M (b + 107) (Int32.toNatClampNeg (((100 : Int32) * v1) + v2)) (1 : Int32)) (b + 108) (Int32.toNatClampNeg v1) ((xm_gi (xm_pi M (b + 107) (Int32.toNatClampNeg (((100 : Int32) * v1) + v2)) (1 : Int32)) (b + 108) (Int32.toNatClampNeg v1)) + (1 : Int32))))))))))) :
  xm_X l E y5_need rm5_need Q 0 [(0, .ref (b + 55)), (1, .int v1), (2, .int v2)] [] 0 0 M := by
  refine x_aload_n d5_need_0 0 rfl rfl ?_
  refine x_getR d5_need_1 fl5_23 (fun _ _ => rfl) (hS.1 _ _ (sh_55 b)) (hS.2.1 _ _ _ (pt_55_3 b)) ?_
  refine x_bipush d5_need_4 qb_100 ?_
  refine x_iload_n d5_need_6 1 rfl rfl ?_
  refine x_imul d5_need_7 ?_
  refine x_iload_n d5_need_8 2 rfl rfl ?_
  refine x_iadd d5_need_9 ?_
  obtain ⟨g1, h⟩ := h
  refine x_zald d5_need_10 (hS.1 _ _ (sh_107 b)) g1 ?_
  refine x_if_ne d5_need_11 (t := 36) (by decide) (fun g => ?_) (fun g => ?_)
  · have h := h.1 g
    exact x_ret (r := none) d5_need_36 xm_rN rfl ⟨Nat.le_refl _, Nat.le_refl _⟩ (h hS)
  · have h := h.2 g
    refine x_aload_n d5_need_14 0 rfl rfl ?_
    refine x_getR d5_need_15 fl5_23 (fun _ _ => rfl) (hS.1 _ _ (sh_55 b)) (hS.2.1 _ _ _ (pt_55_3 b)) ?_
    refine x_bipush d5_need_18 qb_100 ?_
    refine x_iload_n d5_need_20 1 rfl rfl ?_
    refine x_imul d5_need_21 ?_
    refine x_iload_n d5_need_22 2 rfl rfl ?_
    refine x_iadd d5_need_23 ?_
    refine x_iconst d5_need_24 qi_1 ?_
    obtain ⟨g2, h⟩ := h
    refine x_zast d5_need_25 (hS.1 _ _ (sh_107 b)) g2 rfl ?_
    refine x_aload_n d5_need_26 0 rfl rfl ?_
    refine x_getR d5_need_27 fl5_26 (fun _ _ => rfl) (hS.pi.1 _ _ (sh_55 b)) (hS.pi.2.1 _ _ _ (pt_55_4 b)) ?_
    refine x_iload_n d5_need_30 1 rfl rfl ?_
    refine x_dup2 d5_need_31 rfl rfl ?_
    obtain ⟨g3, h⟩ := h
    refine x_iald d5_need_32 (hS.pi.1 _ _ (sh_108 b)) g3 ?_
    refine x_iconst d5_need_33 qi_1 ?_
    refine x_iadd d5_need_34 ?_
    obtain ⟨g4, h⟩ := h
    refine x_iast d5_need_35 (hS.pi.1 _ _ (sh_108 b)) g4 ?_
    exact x_ret (r := none) d5_need_36 xm_rN rfl ⟨Nat.le_refl _, Nat.le_refl _⟩ (h hS.pi.pi)

set_option maxRecDepth 20000 in
theorem t5_giveEdges_0 {l : Launch} {E : xm_E} {b : Nat} {c p : Bool} {Q : Option Value → xm_M → Prop} (M : xm_M) (v1 : Int32) (hS : xm_st b c true M)
  (h : (vp_in v1 48 ∧ (xm_st b c true M → xm_X l E y5_giveEdges rm5_giveEdges Q 12 [(0, .ref (b + 55)), (1, .int v1), (2, .ref (b + 3 + (Int32.toNatClampNeg v1))), (3, .int (0 : Int32))] [] 0 0 M))) :
  xm_X l E y5_giveEdges rm5_giveEdges Q 0 [(0, .ref (b + 55)), (1, .int v1)] [] 0 0 M := by
  refine x_aload_n d5_giveEdges_0 0 rfl rfl ?_
  refine x_getR d5_giveEdges_1 fl5_55 (fun _ _ => rfl) (hS.1 _ _ (sh_55 b)) (hS.2.2.2 rfl).1 ?_
  refine x_getR d5_giveEdges_4 fl5_113 (fun _ _ => rfl) (hS.1 _ _ (sh_1 b)) (hS.2.1 _ _ _ (pt_1_1 b)) ?_
  refine x_iload_n d5_giveEdges_7 1 rfl rfl ?_
  obtain ⟨g1, h⟩ := h
  refine x_aald d5_giveEdges_8 (hS.1 _ _ (sh_2 b)) (by decide) rfl g1 (hS.2.1 _ _ _ (ptf_2 (vp_lt g1))) ?_
  refine x_astore_n d5_giveEdges_9 rfl (by decide) (L' := [(2, .ref (b + 3 + (Int32.toNatClampNeg v1))), (0, .ref (b + 55)), (1, .int v1)]) rfl ?_
  refine x_iconst d5_giveEdges_10 qi_0 ?_
  refine x_istore_n d5_giveEdges_11 rfl (by decide) (L' := [(3, .int (0 : Int32)), (2, .ref (b + 3 + (Int32.toNatClampNeg v1))), (0, .ref (b + 55)), (1, .int v1)]) rfl ?_
  exact xm_X.sub [2, 3, 1, 0] rfl (h hS)
set_option maxRecDepth 20000 in
theorem t5_giveEdges_12 {l : Launch} {E : xm_E} {b : Nat} {c p : Bool} {Q : Option Value → xm_M → Prop} (M : xm_M) (v1 : Int32) (a2 : Nat) (v3 : Int32) (ha2 : xS b a2 = some (.inr 2)) (hS : xm_st b c true M)
  (h : xm_C l E y2_edgeCount rm2_edgeCount [.ref a2] M (fun r M1 => ∃ r2 : Int32, r = some (.int r2) ∧ xm_st b c true M1 ∧ ((r2 ≤ v3 → (xm_st b c true M1 → Q (some (.int (1 : Int32))) M1)) ∧ (¬ r2 ≤ v3 → (vp_in v1 48 ∧ xm_C l E y6_takeEdge rm6_takeEdge [.ref (b + 110), .ref a2, .int v3, .ref (b + 57 + (Int32.toNatClampNeg v1))] M1 (fun r M4 => r = none ∧ xm_st b c true M4 ∧ (vp_in (((2 : Int32) * v1) + v3) 96 ∧ (((xm_gi M4 (b + 106) (Int32.toNatClampNeg (((2 : Int32) * v1) + v3))) = 0 → xm_C l E y5_put rm5_put [.ref (b + 55), .int (0 : Int32)] M4 (fun r M7 => r = none ∧ xm_st b c true M7 ∧ xm_C l E y2_edgeEnd rm2_edgeEnd [.ref a2, .int v1, .int v3] M7 (fun r M9 => ∃ r10 : Int32, r = some (.int r10) ∧ xm_st b c true M9 ∧ xm_C l E y5_giveReasonsFor rm5_giveReasonsFor [.ref (b + 55), .int r10, .int v1] M9 (fun r M11 => ∃ r12 : Bool, r = some (.int (xz r12)) ∧ xm_st b c true M11 ∧ ((¬ (xz r12) = 0 → (xm_st b c true M11 → xm_X l E y5_giveEdges rm5_giveEdges Q 12 [(0, .ref (b + 55)), (1, .int v1), (2, .ref a2), (3, .int (v3 + Int32.ofInt (1)))] [] 0 0 M11)) ∧ ((xz r12) = 0 → (xm_st b c true M11 → Q (some (.int (0 : Int32))) M11))))))) ∧ (¬ (xm_gi M4 (b + 106) (Int32.toNatClampNeg (((2 : Int32) * v1) + v3))) = 0 → xm_C l E y5_put rm5_put [.ref (b + 55), .int (1 : Int32)] M4 (fun r M13 => r = none ∧ xm_st b c true M13 ∧ xm_C l E y5_giveImpossible rm5_giveImpossible [.ref (b + 55), .int v1] M13 (fun r M15 => ∃ r16 : Bool, r = some (.int (xz r16)) ∧ xm_st b c true M15 ∧ ((¬ (xz r16) = 0 → (xm_st b c true M15 → xm_X l E y5_giveEdges rm5_giveEdges Q 12 [(0, .ref (b + 55)), (1, .int v1), (2, .ref a2), (3, .int (v3 + Int32.ofInt (1)))] [] 0 0 M15)) ∧ ((xz r16) = 0 → (xm_st b c true M15 → Q (some (.int (0 : Int32))) M15)))))))))))))) :
  xm_X l E y5_giveEdges rm5_giveEdges Q 12 [(0, .ref (b + 55)), (1, .int v1), (2, .ref a2), (3, .int v3)] [] 0 0 M := by
  refine x_iload_n d5_giveEdges_12 3 rfl rfl ?_
  refine x_aload_n d5_giveEdges_13 2 rfl rfl ?_
  refine x_cVI (Z := y2_edgeCount) (S := rm2_edgeCount) (As := []) (rest := [.int v3]) d5_giveEdges_14 ml5_117 k2_edgeCount rfl (b := a2) (hS.1 _ _ ha2) rfl rfl (Nat.le_of_ble_eq_true rfl) ⟨⟨by decide, by decide⟩, by decide, by decide⟩ ⟨rfl, rfl⟩ h (fun r2 M1 h => ?_)
  obtain ⟨hS, h⟩ := h
  refine x_icmp_ge d5_giveEdges_17 (t := 94) (by decide) (fun g => ?_) (fun g => ?_)
  · have h := h.1 g
    refine x_iconst d5_giveEdges_94 qi_1 ?_
    exact x_ret (r := (some (.int (1 : Int32)))) d5_giveEdges_95 (xm_rZ (Or.inr rfl)) rfl ⟨Nat.le_refl _, Nat.le_refl _⟩ (h hS)
  · have h := h.2 g
    refine x_aload_n d5_giveEdges_20 0 rfl rfl ?_
    refine x_getR d5_giveEdges_21 fl5_36 (fun _ _ => rfl) (hS.1 _ _ (sh_55 b)) (hS.2.1 _ _ _ (pt_55_6 b)) ?_
    refine x_aload_n d5_giveEdges_24 2 rfl rfl ?_
    refine x_iload_n d5_giveEdges_25 3 rfl rfl ?_
    refine x_aload_n d5_giveEdges_26 0 rfl rfl ?_
    refine x_getR d5_giveEdges_27 fl5_11 (fun _ _ => rfl) (hS.1 _ _ (sh_55 b)) (hS.2.1 _ _ _ (pt_55_0 b)) ?_
    refine x_iload_n d5_giveEdges_30 1 rfl rfl ?_
    obtain ⟨g3, h⟩ := h
    refine x_aald d5_giveEdges_31 (hS.1 _ _ (sh_56 b)) (by decide) rfl g3 (hS.2.1 _ _ _ (ptf_56 (vp_lt g3))) ?_
    refine x_cVN (Z := y6_takeEdge) (S := rm6_takeEdge) (As := [.ref a2, .int v3, .ref (b + 57 + (Int32.toNatClampNeg v1))]) (rest := []) d5_giveEdges_32 ml5_123 k6_takeEdge rfl (b := (b + 110)) (hS.1 _ _ (sh_110 b)) rfl rfl (Nat.le_of_ble_eq_true rfl) ⟨⟨by decide, by decide⟩, by decide, by decide⟩ ⟨rfl, rfl⟩ h (fun M4 h => ?_)
    obtain ⟨hS, h⟩ := h
    refine x_aload_n d5_giveEdges_35 0 rfl rfl ?_
    refine x_getR d5_giveEdges_36 fl5_20 (fun _ _ => rfl) (hS.1 _ _ (sh_55 b)) (hS.2.1 _ _ _ (pt_55_2 b)) ?_
    refine x_iconst d5_giveEdges_39 qi_2 ?_
    refine x_iload_n d5_giveEdges_40 1 rfl rfl ?_
    refine x_imul d5_giveEdges_41 ?_
    refine x_iload_n d5_giveEdges_42 3 rfl rfl ?_
    refine x_iadd d5_giveEdges_43 ?_
    obtain ⟨g6, h⟩ := h
    refine x_zald d5_giveEdges_44 (hS.1 _ _ (sh_106 b)) g6 ?_
    refine x_if_eq d5_giveEdges_45 (t := 63) (by decide) (fun g => ?_) (fun g => ?_)
    · have h := h.1 g
      refine x_aload_n d5_giveEdges_63 0 rfl rfl ?_
      refine x_iconst d5_giveEdges_64 qi_0 ?_
      refine x_cVN (Z := y5_put) (S := rm5_put) (As := [.int (0 : Int32)]) (rest := []) d5_giveEdges_65 ml5_168 k5_put rfl (b := (b + 55)) (hS.1 _ _ (sh_55 b)) rfl rfl (Nat.le_of_ble_eq_true rfl) ⟨⟨by decide, by decide⟩, by decide, by decide⟩ ⟨rfl, rfl⟩ h (fun M7 h => ?_)
      obtain ⟨hS, h⟩ := h
      refine x_aload_n d5_giveEdges_68 0 rfl rfl ?_
      refine x_aload_n d5_giveEdges_69 2 rfl rfl ?_
      refine x_iload_n d5_giveEdges_70 1 rfl rfl ?_
      refine x_iload_n d5_giveEdges_71 3 rfl rfl ?_
      refine x_cVI (Z := y2_edgeEnd) (S := rm2_edgeEnd) (As := [.int v1, .int v3]) (rest := [.ref (b + 55)]) d5_giveEdges_72 ml5_127 k2_edgeEnd rfl (b := a2) (hS.1 _ _ ha2) rfl rfl (Nat.le_of_ble_eq_true rfl) ⟨⟨by decide, by decide⟩, by decide, by decide⟩ ⟨rfl, rfl⟩ h (fun r10 M9 h => ?_)
      obtain ⟨hS, h⟩ := h
      refine x_iload_n d5_giveEdges_75 1 rfl rfl ?_
      refine x_cVZ (Z := y5_giveReasonsFor) (S := rm5_giveReasonsFor) (As := [.int r10, .int v1]) (rest := []) d5_giveEdges_76 ml5_99 k5_giveReasonsFor rfl (b := (b + 55)) (hS.1 _ _ (sh_55 b)) rfl rfl (Nat.le_of_ble_eq_true rfl) ⟨⟨by decide, by decide⟩, by decide, by decide⟩ ⟨rfl, rfl⟩ h (fun r12 M11 h => ?_)
      obtain ⟨hS, h⟩ := h
      refine x_istore d5_giveEdges_79 (by decide) (L' := [(4, .int (xz r12)), (0, .ref (b + 55)), (1, .int v1), (2, .ref a2), (3, .int v3)]) rfl ?_
      refine x_iload d5_giveEdges_81 0 rfl ?_
      refine x_if_ne d5_giveEdges_83 (t := 88) (by decide) (fun g => ?_) (fun g => ?_)
      · have h := h.1 g
        refine x_iinc d5_giveEdges_88 4 rfl rfl (by decide) (L' := [(3, .int (v3 + Int32.ofInt (1))), (4, .int (xz r12)), (0, .ref (b + 55)), (1, .int v1), (2, .ref a2)]) rfl ?_
        refine x_goto d5_giveEdges_91 (t := 12) (by decide) ?_
        exact xm_X.sub [2, 3, 4, 0] rfl (h hS)
      · have h := h.2 g
        refine x_iconst d5_giveEdges_86 qi_0 ?_
        exact x_ret (r := (some (.int (0 : Int32)))) d5_giveEdges_87 (xm_rZ (Or.inl rfl)) rfl ⟨Nat.le_refl _, Nat.le_refl _⟩ (h hS)
    · have h := h.2 g
      refine x_aload_n d5_giveEdges_48 0 rfl rfl ?_
      refine x_iconst d5_giveEdges_49 qi_1 ?_
      refine x_cVN (Z := y5_put) (S := rm5_put) (As := [.int (1 : Int32)]) (rest := []) d5_giveEdges_50 ml5_168 k5_put rfl (b := (b + 55)) (hS.1 _ _ (sh_55 b)) rfl rfl (Nat.le_of_ble_eq_true rfl) ⟨⟨by decide, by decide⟩, by decide, by decide⟩ ⟨rfl, rfl⟩ h (fun M13 h => ?_)
      obtain ⟨hS, h⟩ := h
      refine x_aload_n d5_giveEdges_53 0 rfl rfl ?_
      refine x_iload_n d5_giveEdges_54 1 rfl rfl ?_
      refine x_cVZ (Z := y5_giveImpossible) (S := rm5_giveImpossible) (As := [.int v1]) (rest := []) d5_giveEdges_55 ml5_171 k5_giveImpossible rfl (b := (b + 55)) (hS.1 _ _ (sh_55 b)) rfl rfl (Nat.le_of_ble_eq_true rfl) ⟨⟨by decide, by decide⟩, by decide, by decide⟩ ⟨rfl, rfl⟩ h (fun r16 M15 h => ?_)
      obtain ⟨hS, h⟩ := h
      refine x_istore d5_giveEdges_58 (by decide) (L' := [(4, .int (xz r16)), (0, .ref (b + 55)), (1, .int v1), (2, .ref a2), (3, .int v3)]) rfl ?_
      refine x_goto d5_giveEdges_60 (t := 81) (by decide) ?_
      refine x_iload d5_giveEdges_81 0 rfl ?_
      refine x_if_ne d5_giveEdges_83 (t := 88) (by decide) (fun g => ?_) (fun g => ?_)
      · have h := h.1 g
        refine x_iinc d5_giveEdges_88 4 rfl rfl (by decide) (L' := [(3, .int (v3 + Int32.ofInt (1))), (4, .int (xz r16)), (0, .ref (b + 55)), (1, .int v1), (2, .ref a2)]) rfl ?_
        refine x_goto d5_giveEdges_91 (t := 12) (by decide) ?_
        exact xm_X.sub [2, 3, 4, 0] rfl (h hS)
      · have h := h.2 g
        refine x_iconst d5_giveEdges_86 qi_0 ?_
        exact x_ret (r := (some (.int (0 : Int32)))) d5_giveEdges_87 (xm_rZ (Or.inl rfl)) rfl ⟨Nat.le_refl _, Nat.le_refl _⟩ (h hS)

set_option maxRecDepth 20000 in
theorem t5_giveImpossible_0 {l : Launch} {E : xm_E} {b : Nat} {c p : Bool} {Q : Option Value → xm_M → Prop} (M : xm_M) (v1 : Int32) (hS : xm_st b c true M)
  (h : (xm_st b c true M → xm_X l E y5_giveImpossible rm5_giveImpossible Q 2 [(0, .ref (b + 55)), (1, .int v1), (2, .int (0 : Int32))] [] 0 0 M)) :
  xm_X l E y5_giveImpossible rm5_giveImpossible Q 0 [(0, .ref (b + 55)), (1, .int v1)] [] 0 0 M := by
  refine x_iconst d5_giveImpossible_0 qi_0 ?_
  refine x_istore_n d5_giveImpossible_1 rfl (by decide) (L' := [(2, .int (0 : Int32)), (0, .ref (b + 55)), (1, .int v1)]) rfl ?_
  exact xm_X.sub [1, 2, 0] rfl (h hS)
set_option maxRecDepth 20000 in
theorem t5_giveImpossible_2 {l : Launch} {E : xm_E} {b : Nat} {c p : Bool} {Q : Option Value → xm_M → Prop} (M : xm_M) (v1 : Int32) (v2 : Int32) (hS : xm_st b c true M)
  (h : (((10 : Int32) ≤ v2 → (xm_st b c true M → Q (some (.int (0 : Int32))) M)) ∧ (¬ (10 : Int32) ≤ v2 → xm_C l E y8_find rm8_find [.ref (b + 129), .ref (b + 110), .int v2, .int v2, .long (-1 : Int64)] M (fun r M1 => ∃ r2 : Bool, r = some (.int (xz r2)) ∧ xm_st b c true M1 ∧ (((xz r2) = 0 → (xm_st b c true M1 → xm_X l E y5_giveImpossible rm5_giveImpossible Q 2 [(0, .ref (b + 55)), (1, .int v1), (2, .int (v2 + Int32.ofInt (1)))] [] 0 0 M1)) ∧ (¬ (xz r2) = 0 → xm_C l E y5_put rm5_put [.ref (b + 55), .int v2] M1 (fun r M3 => r = none ∧ xm_st b c true M3 ∧ xm_C l E y5_giveRow rm5_giveRow [.ref (b + 55), .int v1] M3 (fun r M5 => ∃ r6 : Bool, r = some (.int (xz r6)) ∧ xm_st b c true M5 ∧ (xm_st b c true M5 → Q (some (.int (xz r6))) M5))))))))) :
  xm_X l E y5_giveImpossible rm5_giveImpossible Q 2 [(0, .ref (b + 55)), (1, .int v1), (2, .int v2)] [] 0 0 M := by
  refine x_iload_n d5_giveImpossible_2 2 rfl rfl ?_
  refine x_bipush d5_giveImpossible_3 qb_10 ?_
  refine x_icmp_ge d5_giveImpossible_5 (t := 44) (by decide) (fun g => ?_) (fun g => ?_)
  · have h := h.1 g
    refine x_iconst d5_giveImpossible_44 qi_0 ?_
    exact x_ret (r := (some (.int (0 : Int32)))) d5_giveImpossible_45 (xm_rZ (Or.inl rfl)) rfl ⟨Nat.le_refl _, Nat.le_refl _⟩ (h hS)
  · have h := h.2 g
    refine x_aload_n d5_giveImpossible_8 0 rfl rfl ?_
    refine x_getR d5_giveImpossible_9 fl5_43 (fun _ _ => rfl) (hS.1 _ _ (sh_55 b)) (hS.2.1 _ _ _ (pt_55_7 b)) ?_
    refine x_aload_n d5_giveImpossible_12 0 rfl rfl ?_
    refine x_getR d5_giveImpossible_13 fl5_36 (fun _ _ => rfl) (hS.1 _ _ (sh_55 b)) (hS.2.1 _ _ _ (pt_55_6 b)) ?_
    refine x_iload_n d5_giveImpossible_16 2 rfl rfl ?_
    refine x_iload_n d5_giveImpossible_17 2 rfl rfl ?_
    refine x_ldc2 d5_giveImpossible_18 lc5_174 ?_
    refine x_cVZ (Z := y8_find) (S := rm8_find) (As := [.ref (b + 110), .int v2, .int v2, .long (-1 : Int64)]) (rest := []) d5_giveImpossible_21 ml5_154 k8_find rfl (b := (b + 129)) (hS.1 _ _ (sh_129 b)) rfl rfl (Nat.le_of_ble_eq_true rfl) ⟨⟨by decide, by decide⟩, by decide, by decide⟩ ⟨rfl, rfl⟩ h (fun r2 M1 h => ?_)
    obtain ⟨hS, h⟩ := h
    refine x_if_eq d5_giveImpossible_24 (t := 38) (by decide) (fun g => ?_) (fun g => ?_)
    · have h := h.1 g
      refine x_iinc d5_giveImpossible_38 2 rfl rfl (by decide) (L' := [(2, .int (v2 + Int32.ofInt (1))), (0, .ref (b + 55)), (1, .int v1)]) rfl ?_
      refine x_goto d5_giveImpossible_41 (t := 2) (by decide) ?_
      exact xm_X.sub [1, 2, 0] rfl (h hS)
    · have h := h.2 g
      refine x_aload_n d5_giveImpossible_27 0 rfl rfl ?_
      refine x_iload_n d5_giveImpossible_28 2 rfl rfl ?_
      refine x_cVN (Z := y5_put) (S := rm5_put) (As := [.int v2]) (rest := []) d5_giveImpossible_29 ml5_168 k5_put rfl (b := (b + 55)) (hS.1 _ _ (sh_55 b)) rfl rfl (Nat.le_of_ble_eq_true rfl) ⟨⟨by decide, by decide⟩, by decide, by decide⟩ ⟨rfl, rfl⟩ h (fun M3 h => ?_)
      obtain ⟨hS, h⟩ := h
      refine x_aload_n d5_giveImpossible_32 0 rfl rfl ?_
      refine x_iload_n d5_giveImpossible_33 1 rfl rfl ?_
      refine x_cVZ (Z := y5_giveRow) (S := rm5_giveRow) (As := [.int v1]) (rest := []) d5_giveImpossible_34 ml5_158 k5_giveRow rfl (b := (b + 55)) (hS.1 _ _ (sh_55 b)) rfl rfl (Nat.le_of_ble_eq_true rfl) ⟨⟨by decide, by decide⟩, by decide, by decide⟩ ⟨rfl, rfl⟩ h (fun r6 M5 h => ?_)
      obtain ⟨hS, h⟩ := h
      exact x_ret (r := (some (.int (xz r6)))) d5_giveImpossible_37 (xm_rZ (xz_01 _)) rfl ⟨Nat.le_refl _, Nat.le_refl _⟩ (h hS)

set_option maxRecDepth 20000 in
theorem t5_giveReasonsFor_0 {l : Launch} {E : xm_E} {b : Nat} {c p : Bool} {Q : Option Value → xm_M → Prop} (M : xm_M) (v1 : Int32) (v2 : Int32) (hS : xm_st b c true M)
  (h : (xm_st b c true M → xm_X l E y5_giveReasonsFor rm5_giveReasonsFor Q 2 [(0, .ref (b + 55)), (1, .int v1), (2, .int v2), (3, .int (0 : Int32))] [] 0 0 M)) :
  xm_X l E y5_giveReasonsFor rm5_giveReasonsFor Q 0 [(0, .ref (b + 55)), (1, .int v1), (2, .int v2)] [] 0 0 M := by
  refine x_iconst d5_giveReasonsFor_0 qi_0 ?_
  refine x_istore_n d5_giveReasonsFor_1 rfl (by decide) (L' := [(3, .int (0 : Int32)), (0, .ref (b + 55)), (1, .int v1), (2, .int v2)]) rfl ?_
  exact xm_X.sub [1, 2, 3, 0] rfl (h hS)
set_option maxRecDepth 20000 in
theorem t5_giveReasonsFor_2 {l : Launch} {E : xm_E} {b : Nat} {c p : Bool} {Q : Option Value → xm_M → Prop} (M : xm_M) (v1 : Int32) (v2 : Int32) (v3 : Int32) (hS : xm_st b c true M)
  (h : (((100 : Int32) ≤ v3 → (xm_st b c true M → Q (some (.int (1 : Int32))) M)) ∧ (¬ (100 : Int32) ≤ v3 → (vp_in (((100 : Int32) * v1) + v3) 4800 ∧ (((xm_gi M (b + 107) (Int32.toNatClampNeg (((100 : Int32) * v1) + v3))) = 0 → (xm_st b c true M → xm_X l E y5_giveReasonsFor rm5_giveReasonsFor Q 2 [(0, .ref (b + 55)), (1, .int v1), (2, .int v2), (3, .int (v3 + Int32.ofInt (1)))] [] 0 0 M)) ∧ (¬ (xm_gi M (b + 107) (Int32.toNatClampNeg (((100 : Int32) * v1) + v3))) = 0 → (vp_in v1 48 ∧ (vp_in v3 100 ∧ xm_C l E y8_find rm8_find [.ref (b + 129), .ref (b + 110), .int (v3 / (10 : Int32)), .int (v3 - v3 / (10 : Int32) * (10 : Int32)), .long (xm_gl M (b + 57 + (Int32.toNatClampNeg v1)) (Int32.toNatClampNeg v3))] M (fun r M4 => ∃ r5 : Bool, r = some (.int (xz r5)) ∧ xm_st b c true M4 ∧ (((xz r5) = 0 → (xm_st b c true M4 → Q (some (.int (0 : Int32))) M4)) ∧ (¬ (xz r5) = 0 → xm_C l E y5_giveRow rm5_giveRow [.ref (b + 55), .int v2] M4 (fun r M6 => ∃ r7 : Bool, r = some (.int (xz r7)) ∧ xm_st b c true M6 ∧ ((¬ (xz r7) = 0 → (xm_st b c true M6 → xm_X l E y5_giveReasonsFor rm5_giveReasonsFor Q 2 [(0, .ref (b + 55)), (1, .int v1), (2, .int v2), (3, .int (v3 + Int32.ofInt (1)))] [] 0 0 M6)) ∧ ((xz r7) = 0 → (xm_st b c true M6 → Q (some (.int (0 : Int32))) M6))))))))))))))) :
  xm_X l E y5_giveReasonsFor rm5_giveReasonsFor Q 2 [(0, .ref (b + 55)), (1, .int v1), (2, .int v2), (3, .int v3)] [] 0 0 M := by
  refine x_iload_n d5_giveReasonsFor_2 3 rfl rfl ?_
  refine x_bipush d5_giveReasonsFor_3 qb_100 ?_
  refine x_icmp_ge d5_giveReasonsFor_5 (t := 76) (by decide) (fun g => ?_) (fun g => ?_)
  · have h := h.1 g
    refine x_iconst d5_giveReasonsFor_76 qi_1 ?_
    exact x_ret (r := (some (.int (1 : Int32)))) d5_giveReasonsFor_77 (xm_rZ (Or.inr rfl)) rfl ⟨Nat.le_refl _, Nat.le_refl _⟩ (h hS)
  · have h := h.2 g
    refine x_aload_n d5_giveReasonsFor_8 0 rfl rfl ?_
    refine x_getR d5_giveReasonsFor_9 fl5_23 (fun _ _ => rfl) (hS.1 _ _ (sh_55 b)) (hS.2.1 _ _ _ (pt_55_3 b)) ?_
    refine x_bipush d5_giveReasonsFor_12 qb_100 ?_
    refine x_iload_n d5_giveReasonsFor_14 1 rfl rfl ?_
    refine x_imul d5_giveReasonsFor_15 ?_
    refine x_iload_n d5_giveReasonsFor_16 3 rfl rfl ?_
    refine x_iadd d5_giveReasonsFor_17 ?_
    obtain ⟨g1, h⟩ := h
    refine x_zald d5_giveReasonsFor_18 (hS.1 _ _ (sh_107 b)) g1 ?_
    refine x_if_eq d5_giveReasonsFor_19 (t := 70) (by decide) (fun g => ?_) (fun g => ?_)
    · have h := h.1 g
      refine x_iinc d5_giveReasonsFor_70 3 rfl rfl (by decide) (L' := [(3, .int (v3 + Int32.ofInt (1))), (0, .ref (b + 55)), (1, .int v1), (2, .int v2)]) rfl ?_
      refine x_goto d5_giveReasonsFor_73 (t := 2) (by decide) ?_
      exact xm_X.sub [1, 2, 3, 0] rfl (h hS)
    · have h := h.2 g
      refine x_iload_n d5_giveReasonsFor_22 3 rfl rfl ?_
      refine x_bipush d5_giveReasonsFor_23 qb_10 ?_
      refine x_idiv d5_giveReasonsFor_25 (by decide) ?_
      refine x_istore d5_giveReasonsFor_26 (by decide) (L' := [(4, .int (v3 / (10 : Int32))), (0, .ref (b + 55)), (1, .int v1), (2, .int v2), (3, .int v3)]) rfl ?_
      refine x_iload_n d5_giveReasonsFor_28 4 rfl rfl ?_
      refine x_bipush d5_giveReasonsFor_29 qb_10 ?_
      refine x_irem d5_giveReasonsFor_31 (by decide) ?_
      refine x_istore d5_giveReasonsFor_32 (by decide) (L' := [(5, .int (v3 - v3 / (10 : Int32) * (10 : Int32))), (4, .int (v3 / (10 : Int32))), (0, .ref (b + 55)), (1, .int v1), (2, .int v2), (3, .int v3)]) rfl ?_
      refine x_aload_n d5_giveReasonsFor_34 2 rfl rfl ?_
      refine x_getR d5_giveReasonsFor_35 fl5_43 (fun _ _ => rfl) (hS.1 _ _ (sh_55 b)) (hS.2.1 _ _ _ (pt_55_7 b)) ?_
      refine x_aload_n d5_giveReasonsFor_38 2 rfl rfl ?_
      refine x_getR d5_giveReasonsFor_39 fl5_36 (fun _ _ => rfl) (hS.1 _ _ (sh_55 b)) (hS.2.1 _ _ _ (pt_55_6 b)) ?_
      refine x_iload d5_giveReasonsFor_42 1 rfl ?_
      refine x_iload d5_giveReasonsFor_44 0 rfl ?_
      refine x_aload_n d5_giveReasonsFor_46 2 rfl rfl ?_
      refine x_getR d5_giveReasonsFor_47 fl5_11 (fun _ _ => rfl) (hS.1 _ _ (sh_55 b)) (hS.2.1 _ _ _ (pt_55_0 b)) ?_
      refine x_iload_n d5_giveReasonsFor_50 3 rfl rfl ?_
      obtain ⟨g2, h⟩ := h
      refine x_aald d5_giveReasonsFor_51 (hS.1 _ _ (sh_56 b)) (by decide) rfl g2 (hS.2.1 _ _ _ (ptf_56 (vp_lt g2))) ?_
      refine x_iload_n d5_giveReasonsFor_52 5 rfl rfl ?_
      obtain ⟨g3, h⟩ := h
      refine x_lald d5_giveReasonsFor_53 (hS.1 _ _ (shf_56 (vp_lt g2))) g3 ?_
      refine x_cVZ (Z := y8_find) (S := rm8_find) (As := [.ref (b + 110), .int (v3 / (10 : Int32)), .int (v3 - v3 / (10 : Int32) * (10 : Int32)), .long (xm_gl M (b + 57 + (Int32.toNatClampNeg v1)) (Int32.toNatClampNeg v3))]) (rest := []) d5_giveReasonsFor_54 ml5_154 k8_find rfl (b := (b + 129)) (hS.1 _ _ (sh_129 b)) rfl rfl (Nat.le_of_ble_eq_true rfl) ⟨⟨by decide, by decide⟩, by decide, by decide⟩ ⟨rfl, rfl⟩ h (fun r5 M4 h => ?_)
      obtain ⟨hS, h⟩ := h
      refine x_if_eq d5_giveReasonsFor_57 (t := 68) (by decide) (fun g => ?_) (fun g => ?_)
      · have h := h.1 g
        refine x_iconst d5_giveReasonsFor_68 qi_0 ?_
        exact x_ret (r := (some (.int (0 : Int32)))) d5_giveReasonsFor_69 (xm_rZ (Or.inl rfl)) rfl ⟨Nat.le_refl _, Nat.le_refl _⟩ (h hS)
      · have h := h.2 g
        refine x_aload_n d5_giveReasonsFor_60 2 rfl rfl ?_
        refine x_iload_n d5_giveReasonsFor_61 4 rfl rfl ?_
        refine x_cVZ (Z := y5_giveRow) (S := rm5_giveRow) (As := [.int v2]) (rest := []) d5_giveReasonsFor_62 ml5_158 k5_giveRow rfl (b := (b + 55)) (hS.1 _ _ (sh_55 b)) rfl rfl (Nat.le_of_ble_eq_true rfl) ⟨⟨by decide, by decide⟩, by decide, by decide⟩ ⟨rfl, rfl⟩ h (fun r7 M6 h => ?_)
        obtain ⟨hS, h⟩ := h
        refine x_if_ne d5_giveReasonsFor_65 (t := 70) (by decide) (fun g => ?_) (fun g => ?_)
        · have h := h.1 g
          refine x_iinc d5_giveReasonsFor_70 5 rfl rfl (by decide) (L' := [(3, .int (v3 + Int32.ofInt (1))), (5, .int (v3 - v3 / (10 : Int32) * (10 : Int32))), (4, .int (v3 / (10 : Int32))), (0, .ref (b + 55)), (1, .int v1), (2, .int v2)]) rfl ?_
          refine x_goto d5_giveReasonsFor_73 (t := 2) (by decide) ?_
          exact xm_X.sub [3, 4, 5, 0] rfl (h hS)
        · have h := h.2 g
          refine x_iconst d5_giveReasonsFor_68 qi_0 ?_
          exact x_ret (r := (some (.int (0 : Int32)))) d5_giveReasonsFor_69 (xm_rZ (Or.inl rfl)) rfl ⟨Nat.le_refl _, Nat.le_refl _⟩ (h hS)

set_option maxRecDepth 20000 in
theorem t5_writeFacts_0 {l : Launch} {E : xm_E} {b : Nat} {c p : Bool} {Q : Option Value → xm_M → Prop} (M : xm_M)  (hS : xm_st b c true M)
  (h : (xm_st b c true M → xm_X l E y5_writeFacts rm5_writeFacts Q 2 [(0, .ref (b + 55)), (1, .int (0 : Int32))] [] 0 0 M)) :
  xm_X l E y5_writeFacts rm5_writeFacts Q 0 [(0, .ref (b + 55))] [] 0 0 M := by
  refine x_iconst d5_writeFacts_0 qi_0 ?_
  refine x_istore_n d5_writeFacts_1 rfl (by decide) (L' := [(1, .int (0 : Int32)), (0, .ref (b + 55))]) rfl ?_
  exact xm_X.sub [1, 0] rfl (h hS)
set_option maxRecDepth 20000 in
theorem t5_writeFacts_2 {l : Launch} {E : xm_E} {b : Nat} {c p : Bool} {Q : Option Value → xm_M → Prop} (M : xm_M) (v1 : Int32) (hS : xm_st b c true M)
  (h : (((xm_gi M (b + 1) 2) ≤ v1 → (xm_st b c true M → Q none M)) ∧ (¬ (xm_gi M (b + 1) 2) ≤ v1 → (vp_in v1 48 ∧ (((xm_gi M (b + 105) (Int32.toNatClampNeg v1)) = 0 → xm_C l E y5_put rm5_put [.ref (b + 55), .int (-1 : Int32)] M (fun r M2 => r = none ∧ xm_st b c true M2 ∧ (xm_st b c true M2 → xm_X l E y5_writeFacts rm5_writeFacts Q 38 [(0, .ref (b + 55)), (1, .int v1), (2, .int (0 : Int32))] [] 0 0 M2))) ∧ (¬ (xm_gi M (b + 105) (Int32.toNatClampNeg v1)) = 0 → (vp_in v1 48 ∧ xm_C l E y5_put rm5_put [.ref (b + 55), .int (xm_gi M (b + 108) (Int32.toNatClampNeg v1))] M (fun r M5 => r = none ∧ xm_st b c true M5 ∧ (xm_st b c true M5 → xm_X l E y5_writeFacts rm5_writeFacts Q 38 [(0, .ref (b + 55)), (1, .int v1), (2, .int (0 : Int32))] [] 0 0 M5))))))))) :
  xm_X l E y5_writeFacts rm5_writeFacts Q 2 [(0, .ref (b + 55)), (1, .int v1)] [] 0 0 M := by
  refine x_iload_n d5_writeFacts_2 1 rfl rfl ?_
  refine x_aload_n d5_writeFacts_3 0 rfl rfl ?_
  refine x_getR d5_writeFacts_4 fl5_55 (fun _ _ => rfl) (hS.1 _ _ (sh_55 b)) (hS.2.2.2 rfl).1 ?_
  refine x_getI d5_writeFacts_7 fl5_73 (fun _ _ => rfl) (hS.1 _ _ (sh_1 b)) ?_
  refine x_icmp_ge d5_writeFacts_10 (t := 99) (by decide) (fun g => ?_) (fun g => ?_)
  · have h := h.1 g
    exact x_ret (r := none) d5_writeFacts_99 xm_rN rfl ⟨Nat.le_refl _, Nat.le_refl _⟩ (h hS)
  · have h := h.2 g
    refine x_aload_n d5_writeFacts_13 0 rfl rfl ?_
    refine x_aload_n d5_writeFacts_14 0 rfl rfl ?_
    refine x_getR d5_writeFacts_15 fl5_16 (fun _ _ => rfl) (hS.1 _ _ (sh_55 b)) (hS.2.1 _ _ _ (pt_55_1 b)) ?_
    refine x_iload_n d5_writeFacts_18 1 rfl rfl ?_
    obtain ⟨g1, h⟩ := h
    refine x_zald d5_writeFacts_19 (hS.1 _ _ (sh_105 b)) g1 ?_
    refine x_if_eq d5_writeFacts_20 (t := 32) (by decide) (fun g => ?_) (fun g => ?_)
    · have h := h.1 g
      refine x_iconst d5_writeFacts_32 qi_n1 ?_
      refine x_cVN (Z := y5_put) (S := rm5_put) (As := [.int (-1 : Int32)]) (rest := []) d5_writeFacts_33 ml5_168 k5_put rfl (b := (b + 55)) (hS.1 _ _ (sh_55 b)) rfl rfl (Nat.le_of_ble_eq_true rfl) ⟨⟨by decide, by decide⟩, by decide, by decide⟩ ⟨rfl, rfl⟩ h (fun M2 h => ?_)
      obtain ⟨hS, h⟩ := h
      refine x_iconst d5_writeFacts_36 qi_0 ?_
      refine x_istore_n d5_writeFacts_37 rfl (by decide) (L' := [(2, .int (0 : Int32)), (0, .ref (b + 55)), (1, .int v1)]) rfl ?_
      exact xm_X.sub [1, 2, 0] rfl (h hS)
    · have h := h.2 g
      refine x_aload_n d5_writeFacts_23 0 rfl rfl ?_
      refine x_getR d5_writeFacts_24 fl5_26 (fun _ _ => rfl) (hS.1 _ _ (sh_55 b)) (hS.2.1 _ _ _ (pt_55_4 b)) ?_
      refine x_iload_n d5_writeFacts_27 1 rfl rfl ?_
      obtain ⟨g4, h⟩ := h
      refine x_iald d5_writeFacts_28 (hS.1 _ _ (sh_108 b)) g4 ?_
      refine x_goto d5_writeFacts_29 (t := 33) (by decide) ?_
      refine x_cVN (Z := y5_put) (S := rm5_put) (As := [.int (xm_gi M (b + 108) (Int32.toNatClampNeg v1))]) (rest := []) d5_writeFacts_33 ml5_168 k5_put rfl (b := (b + 55)) (hS.1 _ _ (sh_55 b)) rfl rfl (Nat.le_of_ble_eq_true rfl) ⟨⟨by decide, by decide⟩, by decide, by decide⟩ ⟨rfl, rfl⟩ h (fun M5 h => ?_)
      obtain ⟨hS, h⟩ := h
      refine x_iconst d5_writeFacts_36 qi_0 ?_
      refine x_istore_n d5_writeFacts_37 rfl (by decide) (L' := [(2, .int (0 : Int32)), (0, .ref (b + 55)), (1, .int v1)]) rfl ?_
      exact xm_X.sub [1, 2, 0] rfl (h hS)
set_option maxRecDepth 20000 in
theorem t5_writeFacts_38 {l : Launch} {E : xm_E} {b : Nat} {c p : Bool} {Q : Option Value → xm_M → Prop} (M : xm_M) (v1 : Int32) (v2 : Int32) (hS : xm_st b c true M)
  (h : (((100 : Int32) ≤ v2 → (xm_st b c true M → xm_X l E y5_writeFacts rm5_writeFacts Q 2 [(0, .ref (b + 55)), (1, .int (v1 + Int32.ofInt (1)))] [] 0 0 M)) ∧ (¬ (100 : Int32) ≤ v2 → (vp_in (((100 : Int32) * v1) + v2) 4800 ∧ (((xm_gi M (b + 107) (Int32.toNatClampNeg (((100 : Int32) * v1) + v2))) = 0 → (xm_st b c true M → xm_X l E y5_writeFacts rm5_writeFacts Q 38 [(0, .ref (b + 55)), (1, .int v1), (2, .int (v2 + Int32.ofInt (1)))] [] 0 0 M)) ∧ (¬ (xm_gi M (b + 107) (Int32.toNatClampNeg (((100 : Int32) * v1) + v2))) = 0 → xm_C l E y5_put rm5_put [.ref (b + 55), .int (v2 / (10 : Int32))] M (fun r M2 => r = none ∧ xm_st b c true M2 ∧ xm_C l E y5_put rm5_put [.ref (b + 55), .int (v2 - v2 / (10 : Int32) * (10 : Int32))] M2 (fun r M4 => r = none ∧ xm_st b c true M4 ∧ (vp_in v1 48 ∧ (vp_in v2 100 ∧ xm_C l E y5_put rm5_put [.ref (b + 55), .int (Int64.toInt32 (xm_gl M4 (b + 57 + (Int32.toNatClampNeg v1)) (Int32.toNatClampNeg v2)))] M4 (fun r M8 => r = none ∧ xm_st b c true M8 ∧ (xm_st b c true M8 → xm_X l E y5_writeFacts rm5_writeFacts Q 38 [(0, .ref (b + 55)), (1, .int v1), (2, .int (v2 + Int32.ofInt (1)))] [] 0 0 M8)))))))))))) :
  xm_X l E y5_writeFacts rm5_writeFacts Q 38 [(0, .ref (b + 55)), (1, .int v1), (2, .int v2)] [] 0 0 M := by
  refine x_iload_n d5_writeFacts_38 2 rfl rfl ?_
  refine x_bipush d5_writeFacts_39 qb_100 ?_
  refine x_icmp_ge d5_writeFacts_41 (t := 93) (by decide) (fun g => ?_) (fun g => ?_)
  · have h := h.1 g
    refine x_iinc d5_writeFacts_93 1 rfl rfl (by decide) (L' := [(1, .int (v1 + Int32.ofInt (1))), (0, .ref (b + 55)), (2, .int v2)]) rfl ?_
    refine x_goto d5_writeFacts_96 (t := 2) (by decide) ?_
    exact xm_X.sub [1, 0] rfl (h hS)
  · have h := h.2 g
    refine x_aload_n d5_writeFacts_44 0 rfl rfl ?_
    refine x_getR d5_writeFacts_45 fl5_23 (fun _ _ => rfl) (hS.1 _ _ (sh_55 b)) (hS.2.1 _ _ _ (pt_55_3 b)) ?_
    refine x_bipush d5_writeFacts_48 qb_100 ?_
    refine x_iload_n d5_writeFacts_50 1 rfl rfl ?_
    refine x_imul d5_writeFacts_51 ?_
    refine x_iload_n d5_writeFacts_52 2 rfl rfl ?_
    refine x_iadd d5_writeFacts_53 ?_
    obtain ⟨g1, h⟩ := h
    refine x_zald d5_writeFacts_54 (hS.1 _ _ (sh_107 b)) g1 ?_
    refine x_if_eq d5_writeFacts_55 (t := 87) (by decide) (fun g => ?_) (fun g => ?_)
    · have h := h.1 g
      refine x_iinc d5_writeFacts_87 2 rfl rfl (by decide) (L' := [(2, .int (v2 + Int32.ofInt (1))), (0, .ref (b + 55)), (1, .int v1)]) rfl ?_
      refine x_goto d5_writeFacts_90 (t := 38) (by decide) ?_
      exact xm_X.sub [1, 2, 0] rfl (h hS)
    · have h := h.2 g
      refine x_aload_n d5_writeFacts_58 0 rfl rfl ?_
      refine x_iload_n d5_writeFacts_59 2 rfl rfl ?_
      refine x_bipush d5_writeFacts_60 qb_10 ?_
      refine x_idiv d5_writeFacts_62 (by decide) ?_
      refine x_cVN (Z := y5_put) (S := rm5_put) (As := [.int (v2 / (10 : Int32))]) (rest := []) d5_writeFacts_63 ml5_168 k5_put rfl (b := (b + 55)) (hS.1 _ _ (sh_55 b)) rfl rfl (Nat.le_of_ble_eq_true rfl) ⟨⟨by decide, by decide⟩, by decide, by decide⟩ ⟨rfl, rfl⟩ h (fun M2 h => ?_)
      obtain ⟨hS, h⟩ := h
      refine x_aload_n d5_writeFacts_66 0 rfl rfl ?_
      refine x_iload_n d5_writeFacts_67 2 rfl rfl ?_
      refine x_bipush d5_writeFacts_68 qb_10 ?_
      refine x_irem d5_writeFacts_70 (by decide) ?_
      refine x_cVN (Z := y5_put) (S := rm5_put) (As := [.int (v2 - v2 / (10 : Int32) * (10 : Int32))]) (rest := []) d5_writeFacts_71 ml5_168 k5_put rfl (b := (b + 55)) (hS.1 _ _ (sh_55 b)) rfl rfl (Nat.le_of_ble_eq_true rfl) ⟨⟨by decide, by decide⟩, by decide, by decide⟩ ⟨rfl, rfl⟩ h (fun M4 h => ?_)
      obtain ⟨hS, h⟩ := h
      refine x_aload_n d5_writeFacts_74 0 rfl rfl ?_
      refine x_aload_n d5_writeFacts_75 0 rfl rfl ?_
      refine x_getR d5_writeFacts_76 fl5_11 (fun _ _ => rfl) (hS.1 _ _ (sh_55 b)) (hS.2.1 _ _ _ (pt_55_0 b)) ?_
      refine x_iload_n d5_writeFacts_79 1 rfl rfl ?_
      obtain ⟨g6, h⟩ := h
      refine x_aald d5_writeFacts_80 (hS.1 _ _ (sh_56 b)) (by decide) rfl g6 (hS.2.1 _ _ _ (ptf_56 (vp_lt g6))) ?_
      refine x_iload_n d5_writeFacts_81 2 rfl rfl ?_
      obtain ⟨g7, h⟩ := h
      refine x_lald d5_writeFacts_82 (hS.1 _ _ (shf_56 (vp_lt g6))) g7 ?_
      refine x_l2i d5_writeFacts_83 ?_
      refine x_cVN (Z := y5_put) (S := rm5_put) (As := [.int (Int64.toInt32 (xm_gl M4 (b + 57 + (Int32.toNatClampNeg v1)) (Int32.toNatClampNeg v2)))]) (rest := []) d5_writeFacts_84 ml5_168 k5_put rfl (b := (b + 55)) (hS.1 _ _ (sh_55 b)) rfl rfl (Nat.le_of_ble_eq_true rfl) ⟨⟨by decide, by decide⟩, by decide, by decide⟩ ⟨rfl, rfl⟩ h (fun M8 h => ?_)
      obtain ⟨hS, h⟩ := h
      refine x_iinc d5_writeFacts_87 2 rfl rfl (by decide) (L' := [(2, .int (v2 + Int32.ofInt (1))), (0, .ref (b + 55)), (1, .int v1)]) rfl ?_
      refine x_goto d5_writeFacts_90 (t := 38) (by decide) ?_
      exact xm_X.sub [1, 2, 0] rfl (h hS)

set_option maxRecDepth 20000 in
theorem t5_rankNeeds_0 {l : Launch} {E : xm_E} {b : Nat} {c p : Bool} {Q : Option Value → xm_M → Prop} (M : xm_M) (v1 : Int32) (hS : xm_st b c true M)
  (h : (xm_st b c true M → xm_X l E y5_rankNeeds rm5_rankNeeds Q 4 [(0, .ref (b + 55)), (1, .int v1), (2, .int (0 : Int32)), (3, .int (0 : Int32))] [] 0 0 M)) :
  xm_X l E y5_rankNeeds rm5_rankNeeds Q 0 [(0, .ref (b + 55)), (1, .int v1)] [] 0 0 M := by
  refine x_iconst d5_rankNeeds_0 qi_0 ?_
  refine x_istore_n d5_rankNeeds_1 rfl (by decide) (L' := [(2, .int (0 : Int32)), (0, .ref (b + 55)), (1, .int v1)]) rfl ?_
  refine x_iconst d5_rankNeeds_2 qi_0 ?_
  refine x_istore_n d5_rankNeeds_3 rfl (by decide) (L' := [(3, .int (0 : Int32)), (2, .int (0 : Int32)), (0, .ref (b + 55)), (1, .int v1)]) rfl ?_
  exact xm_X.sub [2, 3, 1, 0] rfl (h hS)
set_option maxRecDepth 20000 in
theorem t5_rankNeeds_4 {l : Launch} {E : xm_E} {b : Nat} {c p : Bool} {Q : Option Value → xm_M → Prop} (M : xm_M) (v1 : Int32) (v2 : Int32) (v3 : Int32) (hS : xm_st b c true M)
  (h : (((100 : Int32) ≤ v3 → (xm_st b c true M → Q none M)) ∧ (¬ (100 : Int32) ≤ v3 → (vp_in v3 100 ∧ (vp_in (((100 : Int32) * v1) + v3) 4800 ∧ (((xm_gi (xm_pi M (b + 109) (Int32.toNatClampNeg v3) v2) (b + 107) (Int32.toNatClampNeg (((100 : Int32) * v1) + v3))) = 0 → (xm_st b c true (xm_pi M (b + 109) (Int32.toNatClampNeg v3) v2) → xm_X l E y5_rankNeeds rm5_rankNeeds Q 4 [(0, .ref (b + 55)), (1, .int v1), (2, .int v2), (3, .int (v3 + Int32.ofInt (1)))] [] 0 0 (xm_pi M (b + 109) (Int32.toNatClampNeg v3) v2))) ∧ (¬ (xm_gi (xm_pi M (b + 109) (Int32.toNatClampNeg v3) v2) (b + 107) (Int32.toNatClampNeg (((100 : Int32) * v1) + v3))) = 0 → (xm_st b c true (xm_pi M (b + 109) (Int32.toNatClampNeg v3) v2) → xm_X l E y5_rankNeeds rm5_rankNeeds Q 4 [(0, .ref (b + 55)), (1, .int v1), (2, .int (v2 + Int32.ofInt (1))), (3, .int (v3 + Int32.ofInt (1)))] [] 0 0 (xm_pi M (b + 109) (Int32.toNatClampNeg v3) v2))))))))) :
  xm_X l E y5_rankNeeds rm5_rankNeeds Q 4 [(0, .ref (b + 55)), (1, .int v1), (2, .int v2), (3, .int v3)] [] 0 0 M := by
  refine x_iload_n d5_rankNeeds_4 3 rfl rfl ?_
  refine x_bipush d5_rankNeeds_5 qb_100 ?_
  refine x_icmp_ge d5_rankNeeds_7 (t := 40) (by decide) (fun g => ?_) (fun g => ?_)
  · have h := h.1 g
    exact x_ret (r := none) d5_rankNeeds_40 xm_rN rfl ⟨Nat.le_refl _, Nat.le_refl _⟩ (h hS)
  · have h := h.2 g
    refine x_aload_n d5_rankNeeds_10 0 rfl rfl ?_
    refine x_getR d5_rankNeeds_11 fl5_30 (fun _ _ => rfl) (hS.1 _ _ (sh_55 b)) (hS.2.1 _ _ _ (pt_55_5 b)) ?_
    refine x_iload_n d5_rankNeeds_14 3 rfl rfl ?_
    refine x_iload_n d5_rankNeeds_15 2 rfl rfl ?_
    obtain ⟨g1, h⟩ := h
    refine x_iast d5_rankNeeds_16 (hS.1 _ _ (sh_109 b)) g1 ?_
    refine x_aload_n d5_rankNeeds_17 0 rfl rfl ?_
    refine x_getR d5_rankNeeds_18 fl5_23 (fun _ _ => rfl) (hS.pi.1 _ _ (sh_55 b)) (hS.pi.2.1 _ _ _ (pt_55_3 b)) ?_
    refine x_bipush d5_rankNeeds_21 qb_100 ?_
    refine x_iload_n d5_rankNeeds_23 1 rfl rfl ?_
    refine x_imul d5_rankNeeds_24 ?_
    refine x_iload_n d5_rankNeeds_25 3 rfl rfl ?_
    refine x_iadd d5_rankNeeds_26 ?_
    obtain ⟨g2, h⟩ := h
    refine x_zald d5_rankNeeds_27 (hS.pi.1 _ _ (sh_107 b)) g2 ?_
    refine x_if_eq d5_rankNeeds_28 (t := 34) (by decide) (fun g => ?_) (fun g => ?_)
    · have h := h.1 g
      refine x_iinc d5_rankNeeds_34 3 rfl rfl (by decide) (L' := [(3, .int (v3 + Int32.ofInt (1))), (0, .ref (b + 55)), (1, .int v1), (2, .int v2)]) rfl ?_
      refine x_goto d5_rankNeeds_37 (t := 4) (by decide) ?_
      exact xm_X.sub [1, 2, 3, 0] rfl (h hS.pi)
    · have h := h.2 g
      refine x_iinc d5_rankNeeds_31 2 rfl rfl (by decide) (L' := [(2, .int (v2 + Int32.ofInt (1))), (0, .ref (b + 55)), (1, .int v1), (3, .int v3)]) rfl ?_
      refine x_iinc d5_rankNeeds_34 3 rfl rfl (by decide) (L' := [(3, .int (v3 + Int32.ofInt (1))), (2, .int (v2 + Int32.ofInt (1))), (0, .ref (b + 55)), (1, .int v1)]) rfl ?_
      refine x_goto d5_rankNeeds_37 (t := 4) (by decide) ?_
      exact xm_X.sub [2, 3, 1, 0] rfl (h hS.pi)

set_option maxRecDepth 20000 in
theorem t0_say_0 {l : Launch} {E : xm_E} {b : Nat} {c p : Bool} {Q : Option Value → xm_M → Prop} (M : xm_M) (v1 : Int32) (hS : xm_st b c p M)
  (h : xm_C l E y3_append rm3_append [.ref (b + 51), .int v1] M (fun r M1 => ∃ r2 : Bool, r = some (.int (xz r2)) ∧ xm_st b c p M1 ∧ (((xz r2) = 0 → (xm_st b c p M1 → Q (some (.int (-3 : Int32))) M1)) ∧ (¬ (xz r2) = 0 → (xm_st b c p M1 → Q (some (.int (xm_gi M1 (b + 51) 1))) M1))))) :
  xm_X l E y0_say rm0_say Q 0 [(0, .ref (b + 0)), (1, .int v1)] [] 0 0 M := by
  refine x_aload_n d0_say_0 0 rfl rfl ?_
  refine x_getR d0_say_1 fl0_30 (fun _ _ => rfl) (hS.1 _ _ (sh_0 b)) (hS.2.1 _ _ _ (pt_0_1 b)) ?_
  refine x_iload_n d0_say_4 1 rfl rfl ?_
  refine x_cVZ (Z := y3_append) (S := rm3_append) (As := [.int v1]) (rest := []) d0_say_5 ml0_88 k3_append rfl (b := (b + 51)) (hS.1 _ _ (sh_51 b)) rfl rfl (Nat.le_of_ble_eq_true rfl) ⟨⟨by decide, by decide⟩, by decide, by decide⟩ ⟨rfl, rfl⟩ h (fun r2 M1 h => ?_)
  obtain ⟨hS, h⟩ := h
  refine x_if_eq d0_say_8 (t := 21) (by decide) (fun g => ?_) (fun g => ?_)
  · have h := h.1 g
    refine x_bipush d0_say_21 qb_n3 ?_
    exact x_ret (r := (some (.int (-3 : Int32)))) d0_say_23 xm_rI rfl ⟨Nat.le_refl _, Nat.le_refl _⟩ (h hS)
  · have h := h.2 g
    refine x_aload_n d0_say_11 0 rfl rfl ?_
    refine x_getR d0_say_12 fl0_30 (fun _ _ => rfl) (hS.1 _ _ (sh_0 b)) (hS.2.1 _ _ _ (pt_0_1 b)) ?_
    refine x_getI d0_say_15 fl0_85 (fun _ _ => rfl) (hS.1 _ _ (sh_51 b)) ?_
    refine x_goto d0_say_18 (t := 23) (by decide) ?_
    exact x_ret (r := (some (.int (xm_gi M1 (b + 51) 1)))) d0_say_23 xm_rI rfl ⟨Nat.le_refl _, Nat.le_refl _⟩ (h hS)

set_option maxRecDepth 20000 in
theorem t0_cut_0 {l : Launch} {E : xm_E} {b : Nat} {c p : Bool} {Q : Option Value → xm_M → Prop} (M : xm_M) (v1 : Int32) (hS : xm_st b c p M)
  (h : xm_C l E y3_keep rm3_keep [.ref (b + 51), .int v1] M (fun r M1 => ∃ r2 : Bool, r = some (.int (xz r2)) ∧ xm_st b c p M1 ∧ (xm_st b c p M1 → Q (some (.int (xz r2))) M1))) :
  xm_X l E y0_cut rm0_cut Q 0 [(0, .ref (b + 0)), (1, .int v1)] [] 0 0 M := by
  refine x_aload_n d0_cut_0 0 rfl rfl ?_
  refine x_getR d0_cut_1 fl0_30 (fun _ _ => rfl) (hS.1 _ _ (sh_0 b)) (hS.2.1 _ _ _ (pt_0_1 b)) ?_
  refine x_iload_n d0_cut_4 1 rfl rfl ?_
  refine x_cVZ (Z := y3_keep) (S := rm3_keep) (As := [.int v1]) (rest := []) d0_cut_5 ml0_73 k3_keep rfl (b := (b + 51)) (hS.1 _ _ (sh_51 b)) rfl rfl (Nat.le_of_ble_eq_true rfl) ⟨⟨by decide, by decide⟩, by decide, by decide⟩ ⟨rfl, rfl⟩ h (fun r2 M1 h => ?_)
  obtain ⟨hS, h⟩ := h
  exact x_ret (r := (some (.int (xz r2)))) d0_cut_8 (xm_rZ (xz_01 _)) rfl ⟨Nat.le_refl _, Nat.le_refl _⟩ (h hS)

set_option maxRecDepth 20000 in
theorem t0_change_0 {l : Launch} {E : xm_E} {b : Nat} {c p : Bool} {Q : Option Value → xm_M → Prop} (M : xm_M) (v1 : Int32) (v2 : Int32) (hS : xm_st b c p M)
  (h : xm_C l E y3_replace rm3_replace [.ref (b + 51), .int v1, .int v2] M (fun r M1 => ∃ r2 : Bool, r = some (.int (xz r2)) ∧ xm_st b c p M1 ∧ (xm_st b c p M1 → Q (some (.int (xz r2))) M1))) :
  xm_X l E y0_change rm0_change Q 0 [(0, .ref (b + 0)), (1, .int v1), (2, .int v2)] [] 0 0 M := by
  refine x_aload_n d0_change_0 0 rfl rfl ?_
  refine x_getR d0_change_1 fl0_30 (fun _ _ => rfl) (hS.1 _ _ (sh_0 b)) (hS.2.1 _ _ _ (pt_0_1 b)) ?_
  refine x_iload_n d0_change_4 1 rfl rfl ?_
  refine x_iload_n d0_change_5 2 rfl rfl ?_
  refine x_cVZ (Z := y3_replace) (S := rm3_replace) (As := [.int v1, .int v2]) (rest := []) d0_change_6 ml0_90 k3_replace rfl (b := (b + 51)) (hS.1 _ _ (sh_51 b)) rfl rfl (Nat.le_of_ble_eq_true rfl) ⟨⟨by decide, by decide⟩, by decide, by decide⟩ ⟨rfl, rfl⟩ h (fun r2 M1 h => ?_)
  obtain ⟨hS, h⟩ := h
  exact x_ret (r := (some (.int (xz r2)))) d0_change_9 (xm_rZ (xz_01 _)) rfl ⟨Nat.le_refl _, Nat.le_refl _⟩ (h hS)

set_option maxRecDepth 20000 in
theorem t0_length_0 {l : Launch} {E : xm_E} {b : Nat} {c p : Bool} {Q : Option Value → xm_M → Prop} (M : xm_M)  (hS : xm_st b c p M)
  (h : (xm_st b c p M → Q (some (.int (xm_gi M (b + 51) 1))) M)) :
  xm_X l E y0_length rm0_length Q 0 [(0, .ref (b + 0))] [] 0 0 M := by
  refine x_aload_n d0_length_0 0 rfl rfl ?_
  refine x_getR d0_length_1 fl0_30 (fun _ _ => rfl) (hS.1 _ _ (sh_0 b)) (hS.2.1 _ _ _ (pt_0_1 b)) ?_
  refine x_getI d0_length_4 fl0_85 (fun _ _ => rfl) (hS.1 _ _ (sh_51 b)) ?_
  exact x_ret (r := (some (.int (xm_gi M (b + 51) 1)))) d0_length_7 xm_rI rfl ⟨Nat.le_refl _, Nat.le_refl _⟩ (h hS)

set_option maxRecDepth 20000 in
theorem t0_at_0 {l : Launch} {E : xm_E} {b : Nat} {c p : Bool} {Q : Option Value → xm_M → Prop} (M : xm_M) (v1 : Int32) (hS : xm_st b c p M)
  (h : xm_C l E y3_get rm3_get [.ref (b + 51), .int v1] M (fun r M1 => ∃ r2 : Int32, r = some (.int r2) ∧ xm_st b c p M1 ∧ (xm_st b c p M1 → Q (some (.int r2)) M1))) :
  xm_X l E y0_at rm0_at Q 0 [(0, .ref (b + 0)), (1, .int v1)] [] 0 0 M := by
  refine x_aload_n d0_at_0 0 rfl rfl ?_
  refine x_getR d0_at_1 fl0_30 (fun _ _ => rfl) (hS.1 _ _ (sh_0 b)) (hS.2.1 _ _ _ (pt_0_1 b)) ?_
  refine x_iload_n d0_at_4 1 rfl rfl ?_
  refine x_cVI (Z := y3_get) (S := rm3_get) (As := [.int v1]) (rest := []) d0_at_5 ml0_94 k3_get rfl (b := (b + 51)) (hS.1 _ _ (sh_51 b)) rfl rfl (Nat.le_of_ble_eq_true rfl) ⟨⟨by decide, by decide⟩, by decide, by decide⟩ ⟨rfl, rfl⟩ h (fun r2 M1 h => ?_)
  obtain ⟨hS, h⟩ := h
  exact x_ret (r := (some (.int r2))) d0_at_8 xm_rI rfl ⟨Nat.le_refl _, Nat.le_refl _⟩ (h hS)

set_option maxRecDepth 20000 in
theorem t0_check_0 {l : Launch} {E : xm_E} {b : Nat} {c p : Bool} {Q : Option Value → xm_M → Prop} (M : xm_M)  (hS : xm_st b c p M)
  (h : xm_C l E y9_read rm9_read [.ref (b + 145), .ref (b + 1), .ref (b + 51)] M (fun r M1 => ∃ r2 : Int32, r = some (.int r2) ∧ xm_st b c p M1 ∧ (xm_st b c p (xm_pi M1 (b + 0) 6 (xm_gi M1 (b + 145) 10)) → Q (some (.int (-r2))) (xm_pi M1 (b + 0) 6 (xm_gi M1 (b + 145) 10))))) :
  xm_X l E y0_check rm0_check Q 0 [(0, .ref (b + 0))] [] 0 0 M := by
  refine x_aload_n d0_check_0 0 rfl rfl ?_
  refine x_getR d0_check_1 fl0_51 (fun _ _ => rfl) (hS.1 _ _ (sh_0 b)) (hS.2.1 _ _ _ (pt_0_4 b)) ?_
  refine x_aload_n d0_check_4 0 rfl rfl ?_
  refine x_getR d0_check_5 fl0_23 (fun _ _ => rfl) (hS.1 _ _ (sh_0 b)) (hS.2.1 _ _ _ (pt_0_0 b)) ?_
  refine x_aload_n d0_check_8 0 rfl rfl ?_
  refine x_getR d0_check_9 fl0_30 (fun _ _ => rfl) (hS.1 _ _ (sh_0 b)) (hS.2.1 _ _ _ (pt_0_1 b)) ?_
  refine x_cVI (Z := y9_read) (S := rm9_read) (As := [.ref (b + 1), .ref (b + 51)]) (rest := []) d0_check_12 ml0_98 k9_read rfl (b := (b + 145)) (hS.1 _ _ (sh_145 b)) rfl rfl (Nat.le_of_ble_eq_true rfl) ⟨⟨by decide, by decide⟩, by decide, by decide⟩ ⟨rfl, rfl⟩ h (fun r2 M1 h => ?_)
  obtain ⟨hS, h⟩ := h
  refine x_istore_n d0_check_15 rfl (by decide) (L' := [(1, .int r2), (0, .ref (b + 0))]) rfl ?_
  refine x_aload_n d0_check_16 1 rfl rfl ?_
  refine x_aload_n d0_check_17 1 rfl rfl ?_
  refine x_getR d0_check_18 fl0_51 (fun _ _ => rfl) (hS.1 _ _ (sh_0 b)) (hS.2.1 _ _ _ (pt_0_4 b)) ?_
  refine x_getI d0_check_21 fl0_101 (fun _ _ => rfl) (hS.1 _ _ (sh_145 b)) ?_
  refine x_putI d0_check_24 fw0_62 (fun _ _ => rfl) rfl rfl (hS.1 _ _ (sh_0 b)) ?_
  refine x_iload_n d0_check_27 0 rfl rfl ?_
  refine x_ineg d0_check_28 ?_
  exact x_ret (r := (some (.int (-r2)))) d0_check_29 xm_rI rfl ⟨Nat.le_refl _, Nat.le_refl _⟩ (h hS.pi)

set_option maxRecDepth 20000 in
theorem t9_read_0 {l : Launch} {E : xm_E} {b : Nat} {c p : Bool} {Q : Option Value → xm_M → Prop} (M : xm_M)  (hS : xm_st b c p M)
  (h : xm_C l E y1_wrongPlace rm1_wrongPlace [.ref (b + 1)] (xm_pi (xm_pi (xm_pi (xm_pr (xm_pr M (b + 145) 5 (some (b + 1))) (b + 145) 6 (some (b + 51))) (b + 145) 7 (0 : Int32)) (b + 145) 9 (0 : Int32)) (b + 145) 10 (-2 : Int32)) (fun r M1 => ∃ r2 : Int32, r = some (.int r2) ∧ xm_st b true p M1 ∧ ((¬ r2 = (-2 : Int32) → xm_C l E y9_refuse rm9_refuse [.ref (b + 145), .int (1 : Int32), .int r2] M1 (fun r M3 => ∃ r4 : Bool, r = some (.int (xz r4)) ∧ xm_st b true p M3 ∧ (xm_st b true p M3 → xm_X l E y9_read rm9_read Q 73 [(0, .ref (b + 145)), (1, .ref (b + 1)), (2, .ref (b + 51)), (4, .int (xz r4)), (5, .int (0 : Int32))] [] 0 0 M3))) ∧ (r2 = (-2 : Int32) → xm_C l E y9_readFacts rm9_readFacts [.ref (b + 145)] M1 (fun r M5 => ∃ r6 : Bool, r = some (.int (xz r6)) ∧ xm_st b true p M5 ∧ (((xz r6) = 0 → (xm_st b true p M5 → xm_X l E y9_read rm9_read Q 73 [(0, .ref (b + 145)), (1, .ref (b + 1)), (2, .ref (b + 51)), (4, .int (0 : Int32)), (5, .int (0 : Int32))] [] 0 0 M5)) ∧ (¬ (xz r6) = 0 → xm_C l E y9_readReasonsFor rm9_readReasonsFor [.ref (b + 145), .int (0 : Int32), .int (-1 : Int32), .int (-1 : Int32)] M5 (fun r M7 => ∃ r8 : Bool, r = some (.int (xz r8)) ∧ xm_st b true p M7 ∧ (((xz r8) = 0 → (xm_st b true p M7 → xm_X l E y9_read rm9_read Q 73 [(0, .ref (b + 145)), (1, .ref (b + 1)), (2, .ref (b + 51)), (4, .int (0 : Int32)), (5, .int (0 : Int32))] [] 0 0 M7)) ∧ (¬ (xz r8) = 0 → (xm_st b true p M7 → xm_X l E y9_read rm9_read Q 73 [(0, .ref (b + 145)), (1, .ref (b + 1)), (2, .ref (b + 51)), (4, .int (1 : Int32)), (5, .int (0 : Int32))] [] 0 0 M7))))))))))) :
  xm_X l E y9_read rm9_read Q 0 [(0, .ref (b + 145)), (1, .ref (b + 1)), (2, .ref (b + 51))] [] 0 0 M := by
  refine x_aload_n d9_read_0 0 rfl rfl ?_
  refine x_aload_n d9_read_1 1 rfl rfl ?_
  refine x_putR d9_read_2 fw9_31 (fun _ _ => rfl) rfl rfl (hS.1 _ _ (sh_145 b)) ?_
  refine x_aload_n d9_read_5 0 rfl rfl ?_
  refine x_aload_n d9_read_6 2 rfl rfl ?_
  refine x_putR d9_read_7 fw9_35 (fun _ _ => rfl) rfl rfl (hS.1 _ _ (sh_145 b)) ?_
  refine x_aload_n d9_read_10 0 rfl rfl ?_
  refine x_iconst d9_read_11 qi_0 ?_
  refine x_putI d9_read_12 fw9_39 (fun _ _ => rfl) rfl rfl (hS.toC.1 _ _ (sh_145 b)) ?_
  refine x_aload_n d9_read_15 0 rfl rfl ?_
  refine x_iconst d9_read_16 qi_0 ?_
  refine x_putI d9_read_17 fw9_43 (fun _ _ => rfl) rfl rfl (hS.toC.pi.1 _ _ (sh_145 b)) ?_
  refine x_aload_n d9_read_20 0 rfl rfl ?_
  refine x_bipush d9_read_21 qb_n2 ?_
  refine x_putI d9_read_23 fw9_46 (fun _ _ => rfl) rfl rfl (hS.toC.pi.pi.1 _ _ (sh_145 b)) ?_
  refine x_aload_n d9_read_26 1 rfl rfl ?_
  refine x_cVI (Z := y1_wrongPlace) (S := rm1_wrongPlace) (As := []) (rest := []) d9_read_27 ml9_49 k1_wrongPlace rfl (b := (b + 1)) (hS.toC.pi.pi.pi.1 _ _ (sh_1 b)) rfl rfl (Nat.le_of_ble_eq_true rfl) ⟨⟨by decide, by decide⟩, by decide, by decide⟩ ⟨rfl, rfl⟩ h (fun r2 M1 h => ?_)
  obtain ⟨hS, h⟩ := h
  refine x_istore_n d9_read_30 rfl (by decide) (L' := [(3, .int r2), (0, .ref (b + 145)), (1, .ref (b + 1)), (2, .ref (b + 51))]) rfl ?_
  refine x_iload_n d9_read_31 0 rfl rfl ?_
  refine x_bipush d9_read_32 qb_n2 ?_
  refine x_icmp_ne d9_read_34 (t := 62) (by decide) (fun g => ?_) (fun g => ?_)
  · have h := h.1 g
    refine x_aload_n d9_read_62 1 rfl rfl ?_
    refine x_iconst d9_read_63 qi_1 ?_
    refine x_iload_n d9_read_64 0 rfl rfl ?_
    refine x_cVZ (Z := y9_refuse) (S := rm9_refuse) (As := [.int (1 : Int32), .int r2]) (rest := []) d9_read_65 ml9_63 k9_refuse rfl (b := (b + 145)) (hS.1 _ _ (sh_145 b)) rfl rfl (Nat.le_of_ble_eq_true rfl) ⟨⟨by decide, by decide⟩, by decide, by decide⟩ ⟨rfl, rfl⟩ h (fun r4 M3 h => ?_)
    obtain ⟨hS, h⟩ := h
    refine x_istore d9_read_68 (by decide) (L' := [(4, .int (xz r4)), (3, .int r2), (0, .ref (b + 145)), (1, .ref (b + 1)), (2, .ref (b + 51))]) rfl ?_
    refine x_iconst d9_read_70 qi_0 ?_
    refine x_istore d9_read_71 (by decide) (L' := [(5, .int (0 : Int32)), (4, .int (xz r4)), (3, .int r2), (0, .ref (b + 145)), (1, .ref (b + 1)), (2, .ref (b + 51))]) rfl ?_
    exact xm_X.sub [3, 4, 5, 1, 0] rfl (h hS)
  · have h := h.2 g
    refine x_aload_n d9_read_37 1 rfl rfl ?_
    refine x_cVZ (Z := y9_readFacts) (S := rm9_readFacts) (As := []) (rest := []) d9_read_38 ml9_55 k9_readFacts rfl (b := (b + 145)) (hS.1 _ _ (sh_145 b)) rfl rfl (Nat.le_of_ble_eq_true rfl) ⟨⟨by decide, by decide⟩, by decide, by decide⟩ ⟨rfl, rfl⟩ h (fun r6 M5 h => ?_)
    obtain ⟨hS, h⟩ := h
    refine x_if_eq d9_read_41 (t := 58) (by decide) (fun g => ?_) (fun g => ?_)
    · have h := h.1 g
      refine x_iconst d9_read_58 qi_0 ?_
      refine x_goto d9_read_59 (t := 68) (by decide) ?_
      refine x_istore d9_read_68 (by decide) (L' := [(4, .int (0 : Int32)), (3, .int r2), (0, .ref (b + 145)), (1, .ref (b + 1)), (2, .ref (b + 51))]) rfl ?_
      refine x_iconst d9_read_70 qi_0 ?_
      refine x_istore d9_read_71 (by decide) (L' := [(5, .int (0 : Int32)), (4, .int (0 : Int32)), (3, .int r2), (0, .ref (b + 145)), (1, .ref (b + 1)), (2, .ref (b + 51))]) rfl ?_
      exact xm_X.sub [3, 4, 5, 1, 0] rfl (h hS)
    · have h := h.2 g
      refine x_aload_n d9_read_44 1 rfl rfl ?_
      refine x_iconst d9_read_45 qi_0 ?_
      refine x_iconst d9_read_46 qi_n1 ?_
      refine x_iconst d9_read_47 qi_n1 ?_
      refine x_cVZ (Z := y9_readReasonsFor) (S := rm9_readReasonsFor) (As := [.int (0 : Int32), .int (-1 : Int32), .int (-1 : Int32)]) (rest := []) d9_read_48 ml9_59 k9_readReasonsFor rfl (b := (b + 145)) (hS.1 _ _ (sh_145 b)) rfl rfl (Nat.le_of_ble_eq_true rfl) ⟨⟨by decide, by decide⟩, by decide, by decide⟩ ⟨rfl, rfl⟩ h (fun r8 M7 h => ?_)
      obtain ⟨hS, h⟩ := h
      refine x_if_eq d9_read_51 (t := 58) (by decide) (fun g => ?_) (fun g => ?_)
      · have h := h.1 g
        refine x_iconst d9_read_58 qi_0 ?_
        refine x_goto d9_read_59 (t := 68) (by decide) ?_
        refine x_istore d9_read_68 (by decide) (L' := [(4, .int (0 : Int32)), (3, .int r2), (0, .ref (b + 145)), (1, .ref (b + 1)), (2, .ref (b + 51))]) rfl ?_
        refine x_iconst d9_read_70 qi_0 ?_
        refine x_istore d9_read_71 (by decide) (L' := [(5, .int (0 : Int32)), (4, .int (0 : Int32)), (3, .int r2), (0, .ref (b + 145)), (1, .ref (b + 1)), (2, .ref (b + 51))]) rfl ?_
        exact xm_X.sub [3, 4, 5, 1, 0] rfl (h hS)
      · have h := h.2 g
        refine x_iconst d9_read_54 qi_1 ?_
        refine x_goto d9_read_55 (t := 68) (by decide) ?_
        refine x_istore d9_read_68 (by decide) (L' := [(4, .int (1 : Int32)), (3, .int r2), (0, .ref (b + 145)), (1, .ref (b + 1)), (2, .ref (b + 51))]) rfl ?_
        refine x_iconst d9_read_70 qi_0 ?_
        refine x_istore d9_read_71 (by decide) (L' := [(5, .int (0 : Int32)), (4, .int (1 : Int32)), (3, .int r2), (0, .ref (b + 145)), (1, .ref (b + 1)), (2, .ref (b + 51))]) rfl ?_
        exact xm_X.sub [3, 4, 5, 1, 0] rfl (h hS)
set_option maxRecDepth 20000 in
theorem t9_read_73 {l : Launch} {E : xm_E} {b : Nat} {c p : Bool} {Q : Option Value → xm_M → Prop} (M : xm_M) (v4 : Int32) (v5 : Int32) (hS : xm_st b c p M)
  (h : ((v4 = 0 → ((v4 = 0 → (xm_st b c p M → Q (some (.int (xm_gi M (b + 145) 9))) M)) ∧ (¬ v4 = 0 → (((xm_gi M (b + 51) 1) ≤ (xm_gi M (b + 145) 7) → (xm_st b c p M → Q (some (.int (xm_gi M (b + 145) 9))) M)) ∧ (¬ (xm_gi M (b + 51) 1) ≤ (xm_gi M (b + 145) 7) → xm_C l E y9_refuse rm9_refuse [.ref (b + 145), .int (8 : Int32), .int (xm_gi M (b + 145) 7)] M (fun r M1 => ∃ r2 : Bool, r = some (.int (xz r2)) ∧ xm_st b c p M1 ∧ (xm_st b c p M1 → Q (some (.int (xm_gi M1 (b + 145) 9))) M1))))))) ∧ (¬ v4 = 0 → (((xm_gi M (b + 1) 2) ≤ v5 → ((v4 = 0 → (xm_st b c p M → Q (some (.int (xm_gi M (b + 145) 9))) M)) ∧ (¬ v4 = 0 → (((xm_gi M (b + 51) 1) ≤ (xm_gi M (b + 145) 7) → (xm_st b c p M → Q (some (.int (xm_gi M (b + 145) 9))) M)) ∧ (¬ (xm_gi M (b + 51) 1) ≤ (xm_gi M (b + 145) 7) → xm_C l E y9_refuse rm9_refuse [.ref (b + 145), .int (8 : Int32), .int (xm_gi M (b + 145) 7)] M (fun r M3 => ∃ r4 : Bool, r = some (.int (xz r4)) ∧ xm_st b c p M3 ∧ (xm_st b c p M3 → Q (some (.int (xm_gi M3 (b + 145) 9))) M3))))))) ∧ (¬ (xm_gi M (b + 1) 2) ≤ v5 → (vp_in v5 48 ∧ (((xm_gi M (b + 146) (Int32.toNatClampNeg v5)) = (-1 : Int32) → (xm_st b c p M → xm_X l E y9_read rm9_read Q 73 [(0, .ref (b + 145)), (1, .ref (b + 1)), (2, .ref (b + 51)), (4, .int (1 : Int32)), (5, .int (v5 + Int32.ofInt (1)))] [] 0 0 M)) ∧ (¬ (xm_gi M (b + 146) (Int32.toNatClampNeg v5)) = (-1 : Int32) → xm_C l E y9_readAccess rm9_readAccess [.ref (b + 145), .int v5] M (fun r M6 => ∃ r7 : Bool, r = some (.int (xz r7)) ∧ xm_st b c p M6 ∧ (((xz r7) = 0 → (xm_st b c p M6 → xm_X l E y9_read rm9_read Q 73 [(0, .ref (b + 145)), (1, .ref (b + 1)), (2, .ref (b + 51)), (4, .int (0 : Int32)), (5, .int (v5 + Int32.ofInt (1)))] [] 0 0 M6)) ∧ (¬ (xz r7) = 0 → xm_C l E y9_readEdges rm9_readEdges [.ref (b + 145), .int v5] M6 (fun r M8 => ∃ r9 : Bool, r = some (.int (xz r9)) ∧ xm_st b c p M8 ∧ (((xz r9) = 0 → (xm_st b c p M8 → xm_X l E y9_read rm9_read Q 73 [(0, .ref (b + 145)), (1, .ref (b + 1)), (2, .ref (b + 51)), (4, .int (0 : Int32)), (5, .int (v5 + Int32.ofInt (1)))] [] 0 0 M8)) ∧ (¬ (xz r9) = 0 → (xm_st b c p M8 → xm_X l E y9_read rm9_read Q 73 [(0, .ref (b + 145)), (1, .ref (b + 1)), (2, .ref (b + 51)), (4, .int (1 : Int32)), (5, .int (v5 + Int32.ofInt (1)))] [] 0 0 M8))))))))))))))) :
  xm_X l E y9_read rm9_read Q 73 [(0, .ref (b + 145)), (1, .ref (b + 1)), (2, .ref (b + 51)), (4, .int v4), (5, .int v5)] [] 0 0 M := by
  refine x_iload d9_read_73 3 rfl ?_
  refine x_if_eq d9_read_75 (t := 129) (by decide) (fun g => ?_) (fun g => ?_)
  · have h := h.1 g
    refine x_iload d9_read_129 3 rfl ?_
    refine x_if_eq d9_read_131 (t := 156) (by decide) (fun g => ?_) (fun g => ?_)
    · have h := h.1 g
      refine x_aload_n d9_read_156 0 rfl rfl ?_
      refine x_getI d9_read_157 fl9_43 (fun _ _ => rfl) (hS.1 _ _ (sh_145 b)) ?_
      exact x_ret (r := (some (.int (xm_gi M (b + 145) 9)))) d9_read_160 xm_rI rfl ⟨Nat.le_refl _, Nat.le_refl _⟩ (h hS)
    · have h := h.2 g
      refine x_aload_n d9_read_134 0 rfl rfl ?_
      refine x_getI d9_read_135 fl9_39 (fun _ _ => rfl) (hS.1 _ _ (sh_145 b)) ?_
      refine x_aload_n d9_read_138 2 rfl rfl ?_
      refine x_getI d9_read_139 fl9_77 (fun _ _ => rfl) (hS.1 _ _ (sh_51 b)) ?_
      refine x_icmp_ge d9_read_142 (t := 156) (by decide) (fun g => ?_) (fun g => ?_)
      · have h := h.1 g
        refine x_aload_n d9_read_156 0 rfl rfl ?_
        refine x_getI d9_read_157 fl9_43 (fun _ _ => rfl) (hS.1 _ _ (sh_145 b)) ?_
        exact x_ret (r := (some (.int (xm_gi M (b + 145) 9)))) d9_read_160 xm_rI rfl ⟨Nat.le_refl _, Nat.le_refl _⟩ (h hS)
      · have h := h.2 g
        refine x_aload_n d9_read_145 0 rfl rfl ?_
        refine x_bipush d9_read_146 qb_8 ?_
        refine x_aload_n d9_read_148 0 rfl rfl ?_
        refine x_getI d9_read_149 fl9_39 (fun _ _ => rfl) (hS.1 _ _ (sh_145 b)) ?_
        refine x_cVZ (Z := y9_refuse) (S := rm9_refuse) (As := [.int (8 : Int32), .int (xm_gi M (b + 145) 7)]) (rest := []) d9_read_152 ml9_63 k9_refuse rfl (b := (b + 145)) (hS.1 _ _ (sh_145 b)) rfl rfl (Nat.le_of_ble_eq_true rfl) ⟨⟨by decide, by decide⟩, by decide, by decide⟩ ⟨rfl, rfl⟩ h (fun r2 M1 h => ?_)
        obtain ⟨hS, h⟩ := h
        refine x_pop d9_read_155 rfl ?_
        refine x_aload_n d9_read_156 0 rfl rfl ?_
        refine x_getI d9_read_157 fl9_43 (fun _ _ => rfl) (hS.1 _ _ (sh_145 b)) ?_
        exact x_ret (r := (some (.int (xm_gi M1 (b + 145) 9)))) d9_read_160 xm_rI rfl ⟨Nat.le_refl _, Nat.le_refl _⟩ (h hS)
  · have h := h.2 g
    refine x_iload d9_read_78 4 rfl ?_
    refine x_aload_n d9_read_80 1 rfl rfl ?_
    refine x_getI d9_read_81 fl9_67 (fun _ _ => rfl) (hS.1 _ _ (sh_1 b)) ?_
    refine x_icmp_ge d9_read_84 (t := 129) (by decide) (fun g => ?_) (fun g => ?_)
    · have h := h.1 g
      refine x_iload d9_read_129 3 rfl ?_
      refine x_if_eq d9_read_131 (t := 156) (by decide) (fun g => ?_) (fun g => ?_)
      · have h := h.1 g
        refine x_aload_n d9_read_156 0 rfl rfl ?_
        refine x_getI d9_read_157 fl9_43 (fun _ _ => rfl) (hS.1 _ _ (sh_145 b)) ?_
        exact x_ret (r := (some (.int (xm_gi M (b + 145) 9)))) d9_read_160 xm_rI rfl ⟨Nat.le_refl _, Nat.le_refl _⟩ (h hS)
      · have h := h.2 g
        refine x_aload_n d9_read_134 0 rfl rfl ?_
        refine x_getI d9_read_135 fl9_39 (fun _ _ => rfl) (hS.1 _ _ (sh_145 b)) ?_
        refine x_aload_n d9_read_138 2 rfl rfl ?_
        refine x_getI d9_read_139 fl9_77 (fun _ _ => rfl) (hS.1 _ _ (sh_51 b)) ?_
        refine x_icmp_ge d9_read_142 (t := 156) (by decide) (fun g => ?_) (fun g => ?_)
        · have h := h.1 g
          refine x_aload_n d9_read_156 0 rfl rfl ?_
          refine x_getI d9_read_157 fl9_43 (fun _ _ => rfl) (hS.1 _ _ (sh_145 b)) ?_
          exact x_ret (r := (some (.int (xm_gi M (b + 145) 9)))) d9_read_160 xm_rI rfl ⟨Nat.le_refl _, Nat.le_refl _⟩ (h hS)
        · have h := h.2 g
          refine x_aload_n d9_read_145 0 rfl rfl ?_
          refine x_bipush d9_read_146 qb_8 ?_
          refine x_aload_n d9_read_148 0 rfl rfl ?_
          refine x_getI d9_read_149 fl9_39 (fun _ _ => rfl) (hS.1 _ _ (sh_145 b)) ?_
          refine x_cVZ (Z := y9_refuse) (S := rm9_refuse) (As := [.int (8 : Int32), .int (xm_gi M (b + 145) 7)]) (rest := []) d9_read_152 ml9_63 k9_refuse rfl (b := (b + 145)) (hS.1 _ _ (sh_145 b)) rfl rfl (Nat.le_of_ble_eq_true rfl) ⟨⟨by decide, by decide⟩, by decide, by decide⟩ ⟨rfl, rfl⟩ h (fun r4 M3 h => ?_)
          obtain ⟨hS, h⟩ := h
          refine x_pop d9_read_155 rfl ?_
          refine x_aload_n d9_read_156 0 rfl rfl ?_
          refine x_getI d9_read_157 fl9_43 (fun _ _ => rfl) (hS.1 _ _ (sh_145 b)) ?_
          exact x_ret (r := (some (.int (xm_gi M3 (b + 145) 9)))) d9_read_160 xm_rI rfl ⟨Nat.le_refl _, Nat.le_refl _⟩ (h hS)
    · have h := h.2 g
      refine x_aload_n d9_read_87 0 rfl rfl ?_
      refine x_getR d9_read_88 fl9_9 (fun _ _ => rfl) (hS.1 _ _ (sh_145 b)) (hS.2.1 _ _ _ (pt_145_0 b)) ?_
      refine x_iload d9_read_91 4 rfl ?_
      obtain ⟨g5, h⟩ := h
      refine x_iald d9_read_93 (hS.1 _ _ (sh_146 b)) g5 ?_
      refine x_iconst d9_read_94 qi_n1 ?_
      refine x_icmp_eq d9_read_95 (t := 116) (by decide) (fun g => ?_) (fun g => ?_)
      · have h := h.1 g
        refine x_iconst d9_read_116 qi_1 ?_
        refine x_goto d9_read_117 (t := 121) (by decide) ?_
        refine x_istore d9_read_121 (by decide) (L' := [(4, .int (1 : Int32)), (0, .ref (b + 145)), (1, .ref (b + 1)), (2, .ref (b + 51)), (5, .int v5)]) rfl ?_
        refine x_iinc d9_read_123 4 rfl rfl (by decide) (L' := [(5, .int (v5 + Int32.ofInt (1))), (4, .int (1 : Int32)), (0, .ref (b + 145)), (1, .ref (b + 1)), (2, .ref (b + 51))]) rfl ?_
        refine x_goto d9_read_126 (t := 73) (by decide) ?_
        exact xm_X.sub [2, 3, 4, 1, 0] rfl (h hS)
      · have h := h.2 g
        refine x_aload_n d9_read_98 0 rfl rfl ?_
        refine x_iload d9_read_99 4 rfl ?_
        refine x_cVZ (Z := y9_readAccess) (S := rm9_readAccess) (As := [.int v5]) (rest := []) d9_read_101 ml9_70 k9_readAccess rfl (b := (b + 145)) (hS.1 _ _ (sh_145 b)) rfl rfl (Nat.le_of_ble_eq_true rfl) ⟨⟨by decide, by decide⟩, by decide, by decide⟩ ⟨rfl, rfl⟩ h (fun r7 M6 h => ?_)
        obtain ⟨hS, h⟩ := h
        refine x_if_eq d9_read_104 (t := 120) (by decide) (fun g => ?_) (fun g => ?_)
        · have h := h.1 g
          refine x_iconst d9_read_120 qi_0 ?_
          refine x_istore d9_read_121 (by decide) (L' := [(4, .int (0 : Int32)), (0, .ref (b + 145)), (1, .ref (b + 1)), (2, .ref (b + 51)), (5, .int v5)]) rfl ?_
          refine x_iinc d9_read_123 4 rfl rfl (by decide) (L' := [(5, .int (v5 + Int32.ofInt (1))), (4, .int (0 : Int32)), (0, .ref (b + 145)), (1, .ref (b + 1)), (2, .ref (b + 51))]) rfl ?_
          refine x_goto d9_read_126 (t := 73) (by decide) ?_
          exact xm_X.sub [2, 3, 4, 1, 0] rfl (h hS)
        · have h := h.2 g
          refine x_aload_n d9_read_107 0 rfl rfl ?_
          refine x_iload d9_read_108 4 rfl ?_
          refine x_cVZ (Z := y9_readEdges) (S := rm9_readEdges) (As := [.int v5]) (rest := []) d9_read_110 ml9_74 k9_readEdges rfl (b := (b + 145)) (hS.1 _ _ (sh_145 b)) rfl rfl (Nat.le_of_ble_eq_true rfl) ⟨⟨by decide, by decide⟩, by decide, by decide⟩ ⟨rfl, rfl⟩ h (fun r9 M8 h => ?_)
          obtain ⟨hS, h⟩ := h
          refine x_if_eq d9_read_113 (t := 120) (by decide) (fun g => ?_) (fun g => ?_)
          · have h := h.1 g
            refine x_iconst d9_read_120 qi_0 ?_
            refine x_istore d9_read_121 (by decide) (L' := [(4, .int (0 : Int32)), (0, .ref (b + 145)), (1, .ref (b + 1)), (2, .ref (b + 51)), (5, .int v5)]) rfl ?_
            refine x_iinc d9_read_123 4 rfl rfl (by decide) (L' := [(5, .int (v5 + Int32.ofInt (1))), (4, .int (0 : Int32)), (0, .ref (b + 145)), (1, .ref (b + 1)), (2, .ref (b + 51))]) rfl ?_
            refine x_goto d9_read_126 (t := 73) (by decide) ?_
            exact xm_X.sub [2, 3, 4, 1, 0] rfl (h hS)
          · have h := h.2 g
            refine x_iconst d9_read_116 qi_1 ?_
            refine x_goto d9_read_117 (t := 121) (by decide) ?_
            refine x_istore d9_read_121 (by decide) (L' := [(4, .int (1 : Int32)), (0, .ref (b + 145)), (1, .ref (b + 1)), (2, .ref (b + 51)), (5, .int v5)]) rfl ?_
            refine x_iinc d9_read_123 4 rfl rfl (by decide) (L' := [(5, .int (v5 + Int32.ofInt (1))), (4, .int (1 : Int32)), (0, .ref (b + 145)), (1, .ref (b + 1)), (2, .ref (b + 51))]) rfl ?_
            refine x_goto d9_read_126 (t := 73) (by decide) ?_
            exact xm_X.sub [2, 3, 4, 1, 0] rfl (h hS)

set_option maxRecDepth 20000 in
theorem t9_readFacts_0 {l : Launch} {E : xm_E} {b : Nat} {c p : Bool} {Q : Option Value → xm_M → Prop} (M : xm_M)  (hS : xm_st b true p M)
  (h : (xm_st b true p M → xm_X l E y9_readFacts rm9_readFacts Q 2 [(0, .ref (b + 145)), (1, .int (0 : Int32))] [] 0 0 M)) :
  xm_X l E y9_readFacts rm9_readFacts Q 0 [(0, .ref (b + 145))] [] 0 0 M := by
  refine x_iconst d9_readFacts_0 qi_0 ?_
  refine x_istore_n d9_readFacts_1 rfl (by decide) (L' := [(1, .int (0 : Int32)), (0, .ref (b + 145))]) rfl ?_
  exact xm_X.sub [1, 0] rfl (h hS)
set_option maxRecDepth 20000 in
theorem t9_readFacts_2 {l : Launch} {E : xm_E} {b : Nat} {c p : Bool} {Q : Option Value → xm_M → Prop} (M : xm_M) (v1 : Int32) (hS : xm_st b true p M)
  (h : (((xm_gi M (b + 1) 2) ≤ v1 → ((¬ (xm_gi M (b + 146) (Int32.toNatClampNeg (0 : Int32))) = (-1 : Int32) → (xm_st b true p M → Q (some (.int (1 : Int32))) M)) ∧ ((xm_gi M (b + 146) (Int32.toNatClampNeg (0 : Int32))) = (-1 : Int32) → xm_C l E y9_refuse rm9_refuse [.ref (b + 145), .int (7 : Int32), .int (0 : Int32)] M (fun r M1 => ∃ r2 : Bool, r = some (.int (xz r2)) ∧ xm_st b true p M1 ∧ (((xz r2) = 0 → (xm_st b true p M1 → Q (some (.int (0 : Int32))) M1)) ∧ (¬ (xz r2) = 0 → (xm_st b true p M1 → Q (some (.int (1 : Int32))) M1))))))) ∧ (¬ (xm_gi M (b + 1) 2) ≤ v1 → xm_C l E y9_readWithin rm9_readWithin [.ref (b + 145), .int (-1 : Int32), .int (24 : Int32)] M (fun r M3 => ∃ r4 : Bool, r = some (.int (xz r4)) ∧ xm_st b true p M3 ∧ ((¬ (xz r4) = 0 → (vp_in v1 48 ∧ (vp_in v1 48 ∧ (xm_st b true p (xm_pi (xm_pi M3 (b + 146) (Int32.toNatClampNeg v1) (xm_gi M3 (b + 145) 8)) (b + 147) (Int32.toNatClampNeg v1) (xm_gi (xm_pi M3 (b + 146) (Int32.toNatClampNeg v1) (xm_gi M3 (b + 145) 8)) (b + 145) 7)) → xm_X l E y9_readFacts rm9_readFacts Q 47 [(0, .ref (b + 145)), (1, .int v1), (2, .int (0 : Int32))] [] 0 0 (xm_pi (xm_pi M3 (b + 146) (Int32.toNatClampNeg v1) (xm_gi M3 (b + 145) 8)) (b + 147) (Int32.toNatClampNeg v1) (xm_gi (xm_pi M3 (b + 146) (Int32.toNatClampNeg v1) (xm_gi M3 (b + 145) 8)) (b + 145) 7)))))) ∧ ((xz r4) = 0 → (xm_st b true p M3 → Q (some (.int (0 : Int32))) M3))))))) :
  xm_X l E y9_readFacts rm9_readFacts Q 2 [(0, .ref (b + 145)), (1, .int v1)] [] 0 0 M := by
  refine x_iload_n d9_readFacts_2 1 rfl rfl ?_
  refine x_aload_n d9_readFacts_3 0 rfl rfl ?_
  refine x_getR d9_readFacts_4 fl9_31 (fun _ _ => rfl) (hS.1 _ _ (sh_145 b)) (hS.2.2.1 rfl).1 ?_
  refine x_getI d9_readFacts_7 fl9_67 (fun _ _ => rfl) (hS.1 _ _ (sh_1 b)) ?_
  refine x_icmp_ge d9_readFacts_10 (t := 78) (by decide) (fun g => ?_) (fun g => ?_)
  · have h := h.1 g
    refine x_aload_n d9_readFacts_78 0 rfl rfl ?_
    refine x_getR d9_readFacts_79 fl9_9 (fun _ _ => rfl) (hS.1 _ _ (sh_145 b)) (hS.2.1 _ _ _ (pt_145_0 b)) ?_
    refine x_iconst d9_readFacts_82 qi_0 ?_
    refine x_iald d9_readFacts_83 (hS.1 _ _ (sh_146 b)) (xm_vl (by decide)) ?_
    refine x_iconst d9_readFacts_84 qi_n1 ?_
    refine x_icmp_ne d9_readFacts_85 (t := 98) (by decide) (fun g => ?_) (fun g => ?_)
    · have h := h.1 g
      refine x_iconst d9_readFacts_98 qi_1 ?_
      refine x_goto d9_readFacts_99 (t := 103) (by decide) ?_
      exact x_ret (r := (some (.int (1 : Int32)))) d9_readFacts_103 (xm_rZ (Or.inr rfl)) rfl ⟨Nat.le_refl _, Nat.le_refl _⟩ (h hS)
    · have h := h.2 g
      refine x_aload_n d9_readFacts_88 0 rfl rfl ?_
      refine x_bipush d9_readFacts_89 qb_7 ?_
      refine x_iconst d9_readFacts_91 qi_0 ?_
      refine x_cVZ (Z := y9_refuse) (S := rm9_refuse) (As := [.int (7 : Int32), .int (0 : Int32)]) (rest := []) d9_readFacts_92 ml9_63 k9_refuse rfl (b := (b + 145)) (hS.1 _ _ (sh_145 b)) rfl rfl (Nat.le_of_ble_eq_true rfl) ⟨⟨by decide, by decide⟩, by decide, by decide⟩ ⟨rfl, rfl⟩ h (fun r2 M1 h => ?_)
      obtain ⟨hS, h⟩ := h
      refine x_if_eq d9_readFacts_95 (t := 102) (by decide) (fun g => ?_) (fun g => ?_)
      · have h := h.1 g
        refine x_iconst d9_readFacts_102 qi_0 ?_
        exact x_ret (r := (some (.int (0 : Int32)))) d9_readFacts_103 (xm_rZ (Or.inl rfl)) rfl ⟨Nat.le_refl _, Nat.le_refl _⟩ (h hS)
      · have h := h.2 g
        refine x_iconst d9_readFacts_98 qi_1 ?_
        refine x_goto d9_readFacts_99 (t := 103) (by decide) ?_
        exact x_ret (r := (some (.int (1 : Int32)))) d9_readFacts_103 (xm_rZ (Or.inr rfl)) rfl ⟨Nat.le_refl _, Nat.le_refl _⟩ (h hS)
  · have h := h.2 g
    refine x_aload_n d9_readFacts_13 0 rfl rfl ?_
    refine x_iconst d9_readFacts_14 qi_n1 ?_
    refine x_bipush d9_readFacts_15 qb_24 ?_
    refine x_cVZ (Z := y9_readWithin) (S := rm9_readWithin) (As := [.int (-1 : Int32), .int (24 : Int32)]) (rest := []) d9_readFacts_17 ml9_92 k9_readWithin rfl (b := (b + 145)) (hS.1 _ _ (sh_145 b)) rfl rfl (Nat.le_of_ble_eq_true rfl) ⟨⟨by decide, by decide⟩, by decide, by decide⟩ ⟨rfl, rfl⟩ h (fun r4 M3 h => ?_)
    obtain ⟨hS, h⟩ := h
    refine x_if_ne d9_readFacts_20 (t := 25) (by decide) (fun g => ?_) (fun g => ?_)
    · have h := h.1 g
      refine x_aload_n d9_readFacts_25 0 rfl rfl ?_
      refine x_getR d9_readFacts_26 fl9_9 (fun _ _ => rfl) (hS.1 _ _ (sh_145 b)) (hS.2.1 _ _ _ (pt_145_0 b)) ?_
      refine x_iload_n d9_readFacts_29 1 rfl rfl ?_
      refine x_aload_n d9_readFacts_30 0 rfl rfl ?_
      refine x_getI d9_readFacts_31 fl9_86 (fun _ _ => rfl) (hS.1 _ _ (sh_145 b)) ?_
      obtain ⟨g5, h⟩ := h
      refine x_iast d9_readFacts_34 (hS.1 _ _ (sh_146 b)) g5 ?_
      refine x_aload_n d9_readFacts_35 0 rfl rfl ?_
      refine x_getR d9_readFacts_36 fl9_15 (fun _ _ => rfl) (hS.pi.1 _ _ (sh_145 b)) (hS.pi.2.1 _ _ _ (pt_145_1 b)) ?_
      refine x_iload_n d9_readFacts_39 1 rfl rfl ?_
      refine x_aload_n d9_readFacts_40 0 rfl rfl ?_
      refine x_getI d9_readFacts_41 fl9_39 (fun _ _ => rfl) (hS.pi.1 _ _ (sh_145 b)) ?_
      obtain ⟨g6, h⟩ := h
      refine x_iast d9_readFacts_44 (hS.pi.1 _ _ (sh_147 b)) g6 ?_
      refine x_iconst d9_readFacts_45 qi_0 ?_
      refine x_istore_n d9_readFacts_46 rfl (by decide) (L' := [(2, .int (0 : Int32)), (0, .ref (b + 145)), (1, .int v1)]) rfl ?_
      exact xm_X.sub [1, 2, 0] rfl (h hS.pi.pi)
    · have h := h.2 g
      refine x_iconst d9_readFacts_23 qi_0 ?_
      exact x_ret (r := (some (.int (0 : Int32)))) d9_readFacts_24 (xm_rZ (Or.inl rfl)) rfl ⟨Nat.le_refl _, Nat.le_refl _⟩ (h hS)
set_option maxRecDepth 20000 in
theorem t9_readFacts_47 {l : Launch} {E : xm_E} {b : Nat} {c p : Bool} {Q : Option Value → xm_M → Prop} (M : xm_M) (v1 : Int32) (v2 : Int32) (hS : xm_st b true p M)
  (h : (vp_in v1 48 ∧ (((xm_gi M (b + 146) (Int32.toNatClampNeg v1)) ≤ v2 → (xm_st b true p M → xm_X l E y9_readFacts rm9_readFacts Q 2 [(0, .ref (b + 145)), (1, .int (v1 + Int32.ofInt (1)))] [] 0 0 M)) ∧ (¬ (xm_gi M (b + 146) (Int32.toNatClampNeg v1)) ≤ v2 → xm_C l E y9_readFact rm9_readFact [.ref (b + 145)] M (fun r M2 => ∃ r3 : Bool, r = some (.int (xz r3)) ∧ xm_st b true p M2 ∧ ((¬ (xz r3) = 0 → (xm_st b true p M2 → xm_X l E y9_readFacts rm9_readFacts Q 47 [(0, .ref (b + 145)), (1, .int v1), (2, .int (v2 + Int32.ofInt (1)))] [] 0 0 M2)) ∧ ((xz r3) = 0 → (xm_st b true p M2 → Q (some (.int (0 : Int32))) M2)))))))) :
  xm_X l E y9_readFacts rm9_readFacts Q 47 [(0, .ref (b + 145)), (1, .int v1), (2, .int v2)] [] 0 0 M := by
  refine x_iload_n d9_readFacts_47 2 rfl rfl ?_
  refine x_aload_n d9_readFacts_48 0 rfl rfl ?_
  refine x_getR d9_readFacts_49 fl9_9 (fun _ _ => rfl) (hS.1 _ _ (sh_145 b)) (hS.2.1 _ _ _ (pt_145_0 b)) ?_
  refine x_iload_n d9_readFacts_52 1 rfl rfl ?_
  obtain ⟨g1, h⟩ := h
  refine x_iald d9_readFacts_53 (hS.1 _ _ (sh_146 b)) g1 ?_
  refine x_icmp_ge d9_readFacts_54 (t := 72) (by decide) (fun g => ?_) (fun g => ?_)
  · have h := h.1 g
    refine x_iinc d9_readFacts_72 1 rfl rfl (by decide) (L' := [(1, .int (v1 + Int32.ofInt (1))), (0, .ref (b + 145)), (2, .int v2)]) rfl ?_
    refine x_goto d9_readFacts_75 (t := 2) (by decide) ?_
    exact xm_X.sub [1, 0] rfl (h hS)
  · have h := h.2 g
    refine x_aload_n d9_readFacts_57 0 rfl rfl ?_
    refine x_cVZ (Z := y9_readFact) (S := rm9_readFact) (As := []) (rest := []) d9_readFacts_58 ml9_95 k9_readFact rfl (b := (b + 145)) (hS.1 _ _ (sh_145 b)) rfl rfl (Nat.le_of_ble_eq_true rfl) ⟨⟨by decide, by decide⟩, by decide, by decide⟩ ⟨rfl, rfl⟩ h (fun r3 M2 h => ?_)
    obtain ⟨hS, h⟩ := h
    refine x_if_ne d9_readFacts_61 (t := 66) (by decide) (fun g => ?_) (fun g => ?_)
    · have h := h.1 g
      refine x_iinc d9_readFacts_66 2 rfl rfl (by decide) (L' := [(2, .int (v2 + Int32.ofInt (1))), (0, .ref (b + 145)), (1, .int v1)]) rfl ?_
      refine x_goto d9_readFacts_69 (t := 47) (by decide) ?_
      exact xm_X.sub [1, 2, 0] rfl (h hS)
    · have h := h.2 g
      refine x_iconst d9_readFacts_64 qi_0 ?_
      exact x_ret (r := (some (.int (0 : Int32)))) d9_readFacts_65 (xm_rZ (Or.inl rfl)) rfl ⟨Nat.le_refl _, Nat.le_refl _⟩ (h hS)

set_option maxRecDepth 20000 in
theorem t9_readWithin_0 {l : Launch} {E : xm_E} {b : Nat} {c p : Bool} {Q : Option Value → xm_M → Prop} (M : xm_M) (v1 : Int32) (v2 : Int32) (hS : xm_st b true p M)
  (h : xm_C l E y9_readAny rm9_readAny [.ref (b + 145)] M (fun r M1 => ∃ r2 : Bool, r = some (.int (xz r2)) ∧ xm_st b true p M1 ∧ ((¬ (xz r2) = 0 → (((xm_gi M1 (b + 145) 8) < v1 → xm_C l E y9_refuse rm9_refuse [.ref (b + 145), .int (3 : Int32), .int ((xm_gi M1 (b + 145) 7) - (1 : Int32))] M1 (fun r M3 => ∃ r4 : Bool, r = some (.int (xz r4)) ∧ xm_st b true p M3 ∧ (((xz r4) = 0 → (xm_st b true p M3 → Q (some (.int (0 : Int32))) M3)) ∧ (¬ (xz r4) = 0 → (xm_st b true p M3 → Q (some (.int (1 : Int32))) M3))))) ∧ (¬ (xm_gi M1 (b + 145) 8) < v1 → (((xm_gi M1 (b + 145) 8) ≤ v2 → (xm_st b true p M1 → Q (some (.int (1 : Int32))) M1)) ∧ (¬ (xm_gi M1 (b + 145) 8) ≤ v2 → xm_C l E y9_refuse rm9_refuse [.ref (b + 145), .int (3 : Int32), .int ((xm_gi M1 (b + 145) 7) - (1 : Int32))] M1 (fun r M5 => ∃ r6 : Bool, r = some (.int (xz r6)) ∧ xm_st b true p M5 ∧ (((xz r6) = 0 → (xm_st b true p M5 → Q (some (.int (0 : Int32))) M5)) ∧ (¬ (xz r6) = 0 → (xm_st b true p M5 → Q (some (.int (1 : Int32))) M5))))))))) ∧ ((xz r2) = 0 → (xm_st b true p M1 → Q (some (.int (0 : Int32))) M1))))) :
  xm_X l E y9_readWithin rm9_readWithin Q 0 [(0, .ref (b + 145)), (1, .int v1), (2, .int v2)] [] 0 0 M := by
  refine x_aload_n d9_readWithin_0 0 rfl rfl ?_
  refine x_cVZ (Z := y9_readAny) (S := rm9_readAny) (As := []) (rest := []) d9_readWithin_1 ml9_89 k9_readAny rfl (b := (b + 145)) (hS.1 _ _ (sh_145 b)) rfl rfl (Nat.le_of_ble_eq_true rfl) ⟨⟨by decide, by decide⟩, by decide, by decide⟩ ⟨rfl, rfl⟩ h (fun r2 M1 h => ?_)
  obtain ⟨hS, h⟩ := h
  refine x_if_ne d9_readWithin_4 (t := 9) (by decide) (fun g => ?_) (fun g => ?_)
  · have h := h.1 g
    refine x_aload_n d9_readWithin_9 0 rfl rfl ?_
    refine x_getI d9_readWithin_10 fl9_86 (fun _ _ => rfl) (hS.1 _ _ (sh_145 b)) ?_
    refine x_iload_n d9_readWithin_13 1 rfl rfl ?_
    refine x_icmp_lt d9_readWithin_14 (t := 25) (by decide) (fun g => ?_) (fun g => ?_)
    · have h := h.1 g
      refine x_aload_n d9_readWithin_25 0 rfl rfl ?_
      refine x_iconst d9_readWithin_26 qi_3 ?_
      refine x_aload_n d9_readWithin_27 0 rfl rfl ?_
      refine x_getI d9_readWithin_28 fl9_39 (fun _ _ => rfl) (hS.1 _ _ (sh_145 b)) ?_
      refine x_iconst d9_readWithin_31 qi_1 ?_
      refine x_isub d9_readWithin_32 ?_
      refine x_cVZ (Z := y9_refuse) (S := rm9_refuse) (As := [.int (3 : Int32), .int ((xm_gi M1 (b + 145) 7) - (1 : Int32))]) (rest := []) d9_readWithin_33 ml9_63 k9_refuse rfl (b := (b + 145)) (hS.1 _ _ (sh_145 b)) rfl rfl (Nat.le_of_ble_eq_true rfl) ⟨⟨by decide, by decide⟩, by decide, by decide⟩ ⟨rfl, rfl⟩ h (fun r4 M3 h => ?_)
      obtain ⟨hS, h⟩ := h
      refine x_if_eq d9_readWithin_36 (t := 43) (by decide) (fun g => ?_) (fun g => ?_)
      · have h := h.1 g
        refine x_iconst d9_readWithin_43 qi_0 ?_
        exact x_ret (r := (some (.int (0 : Int32)))) d9_readWithin_44 (xm_rZ (Or.inl rfl)) rfl ⟨Nat.le_refl _, Nat.le_refl _⟩ (h hS)
      · have h := h.2 g
        refine x_iconst d9_readWithin_39 qi_1 ?_
        refine x_goto d9_readWithin_40 (t := 44) (by decide) ?_
        exact x_ret (r := (some (.int (1 : Int32)))) d9_readWithin_44 (xm_rZ (Or.inr rfl)) rfl ⟨Nat.le_refl _, Nat.le_refl _⟩ (h hS)
    · have h := h.2 g
      refine x_aload_n d9_readWithin_17 0 rfl rfl ?_
      refine x_getI d9_readWithin_18 fl9_86 (fun _ _ => rfl) (hS.1 _ _ (sh_145 b)) ?_
      refine x_iload_n d9_readWithin_21 2 rfl rfl ?_
      refine x_icmp_le d9_readWithin_22 (t := 39) (by decide) (fun g => ?_) (fun g => ?_)
      · have h := h.1 g
        refine x_iconst d9_readWithin_39 qi_1 ?_
        refine x_goto d9_readWithin_40 (t := 44) (by decide) ?_
        exact x_ret (r := (some (.int (1 : Int32)))) d9_readWithin_44 (xm_rZ (Or.inr rfl)) rfl ⟨Nat.le_refl _, Nat.le_refl _⟩ (h hS)
      · have h := h.2 g
        refine x_aload_n d9_readWithin_25 0 rfl rfl ?_
        refine x_iconst d9_readWithin_26 qi_3 ?_
        refine x_aload_n d9_readWithin_27 0 rfl rfl ?_
        refine x_getI d9_readWithin_28 fl9_39 (fun _ _ => rfl) (hS.1 _ _ (sh_145 b)) ?_
        refine x_iconst d9_readWithin_31 qi_1 ?_
        refine x_isub d9_readWithin_32 ?_
        refine x_cVZ (Z := y9_refuse) (S := rm9_refuse) (As := [.int (3 : Int32), .int ((xm_gi M1 (b + 145) 7) - (1 : Int32))]) (rest := []) d9_readWithin_33 ml9_63 k9_refuse rfl (b := (b + 145)) (hS.1 _ _ (sh_145 b)) rfl rfl (Nat.le_of_ble_eq_true rfl) ⟨⟨by decide, by decide⟩, by decide, by decide⟩ ⟨rfl, rfl⟩ h (fun r6 M5 h => ?_)
        obtain ⟨hS, h⟩ := h
        refine x_if_eq d9_readWithin_36 (t := 43) (by decide) (fun g => ?_) (fun g => ?_)
        · have h := h.1 g
          refine x_iconst d9_readWithin_43 qi_0 ?_
          exact x_ret (r := (some (.int (0 : Int32)))) d9_readWithin_44 (xm_rZ (Or.inl rfl)) rfl ⟨Nat.le_refl _, Nat.le_refl _⟩ (h hS)
        · have h := h.2 g
          refine x_iconst d9_readWithin_39 qi_1 ?_
          refine x_goto d9_readWithin_40 (t := 44) (by decide) ?_
          exact x_ret (r := (some (.int (1 : Int32)))) d9_readWithin_44 (xm_rZ (Or.inr rfl)) rfl ⟨Nat.le_refl _, Nat.le_refl _⟩ (h hS)
  · have h := h.2 g
    refine x_iconst d9_readWithin_7 qi_0 ?_
    exact x_ret (r := (some (.int (0 : Int32)))) d9_readWithin_8 (xm_rZ (Or.inl rfl)) rfl ⟨Nat.le_refl _, Nat.le_refl _⟩ (h hS)

set_option maxRecDepth 20000 in
theorem t9_readAny_0 {l : Launch} {E : xm_E} {b : Nat} {c p : Bool} {Q : Option Value → xm_M → Prop} (M : xm_M)  (hS : xm_st b true p M)
  (h : (((xm_gi M (b + 145) 7) < (xm_gi M (b + 51) 1) → xm_C l E y3_get rm3_get [.ref (b + 51), .int (xm_gi M (b + 145) 7)] M (fun r M1 => ∃ r2 : Int32, r = some (.int r2) ∧ xm_st b true p M1 ∧ (xm_st b true p (xm_pi (xm_pi M1 (b + 145) 8 r2) (b + 145) 7 ((xm_gi (xm_pi M1 (b + 145) 8 r2) (b + 145) 7) + (1 : Int32))) → Q (some (.int (1 : Int32))) (xm_pi (xm_pi M1 (b + 145) 8 r2) (b + 145) 7 ((xm_gi (xm_pi M1 (b + 145) 8 r2) (b + 145) 7) + (1 : Int32)))))) ∧ (¬ (xm_gi M (b + 145) 7) < (xm_gi M (b + 51) 1) → xm_C l E y9_refuse rm9_refuse [.ref (b + 145), .int (2 : Int32), .int (xm_gi M (b + 51) 1)] M (fun r M3 => ∃ r4 : Bool, r = some (.int (xz r4)) ∧ xm_st b true p M3 ∧ (xm_st b true p M3 → Q (some (.int (xz r4))) M3))))) :
  xm_X l E y9_readAny rm9_readAny Q 0 [(0, .ref (b + 145))] [] 0 0 M := by
  refine x_aload_n d9_readAny_0 0 rfl rfl ?_
  refine x_getI d9_readAny_1 fl9_39 (fun _ _ => rfl) (hS.1 _ _ (sh_145 b)) ?_
  refine x_aload_n d9_readAny_4 0 rfl rfl ?_
  refine x_getR d9_readAny_5 fl9_35 (fun _ _ => rfl) (hS.1 _ _ (sh_145 b)) (hS.2.2.1 rfl).2 ?_
  refine x_getI d9_readAny_8 fl9_77 (fun _ _ => rfl) (hS.1 _ _ (sh_51 b)) ?_
  refine x_icmp_lt d9_readAny_11 (t := 27) (by decide) (fun g => ?_) (fun g => ?_)
  · have h := h.1 g
    refine x_aload_n d9_readAny_27 0 rfl rfl ?_
    refine x_aload_n d9_readAny_28 0 rfl rfl ?_
    refine x_getR d9_readAny_29 fl9_35 (fun _ _ => rfl) (hS.1 _ _ (sh_145 b)) (hS.2.2.1 rfl).2 ?_
    refine x_aload_n d9_readAny_32 0 rfl rfl ?_
    refine x_getI d9_readAny_33 fl9_39 (fun _ _ => rfl) (hS.1 _ _ (sh_145 b)) ?_
    refine x_cVI (Z := y3_get) (S := rm3_get) (As := [.int (xm_gi M (b + 145) 7)]) (rest := [.ref (b + 145)]) d9_readAny_36 ml9_82 k3_get rfl (b := (b + 51)) (hS.1 _ _ (sh_51 b)) rfl rfl (Nat.le_of_ble_eq_true rfl) ⟨⟨by decide, by decide⟩, by decide, by decide⟩ ⟨rfl, rfl⟩ h (fun r2 M1 h => ?_)
    obtain ⟨hS, h⟩ := h
    refine x_putI d9_readAny_39 fw9_86 (fun _ _ => rfl) rfl rfl (hS.1 _ _ (sh_145 b)) ?_
    refine x_aload_n d9_readAny_42 0 rfl rfl ?_
    refine x_dup d9_readAny_43 rfl ?_
    refine x_getI d9_readAny_44 fl9_39 (fun _ _ => rfl) (hS.pi.1 _ _ (sh_145 b)) ?_
    refine x_iconst d9_readAny_47 qi_1 ?_
    refine x_iadd d9_readAny_48 ?_
    refine x_putI d9_readAny_49 fw9_39 (fun _ _ => rfl) rfl rfl (hS.pi.1 _ _ (sh_145 b)) ?_
    refine x_iconst d9_readAny_52 qi_1 ?_
    exact x_ret (r := (some (.int (1 : Int32)))) d9_readAny_53 (xm_rZ (Or.inr rfl)) rfl ⟨Nat.le_refl _, Nat.le_refl _⟩ (h hS.pi.pi)
  · have h := h.2 g
    refine x_aload_n d9_readAny_14 0 rfl rfl ?_
    refine x_iconst d9_readAny_15 qi_2 ?_
    refine x_aload_n d9_readAny_16 0 rfl rfl ?_
    refine x_getR d9_readAny_17 fl9_35 (fun _ _ => rfl) (hS.1 _ _ (sh_145 b)) (hS.2.2.1 rfl).2 ?_
    refine x_getI d9_readAny_20 fl9_77 (fun _ _ => rfl) (hS.1 _ _ (sh_51 b)) ?_
    refine x_cVZ (Z := y9_refuse) (S := rm9_refuse) (As := [.int (2 : Int32), .int (xm_gi M (b + 51) 1)]) (rest := []) d9_readAny_23 ml9_63 k9_refuse rfl (b := (b + 145)) (hS.1 _ _ (sh_145 b)) rfl rfl (Nat.le_of_ble_eq_true rfl) ⟨⟨by decide, by decide⟩, by decide, by decide⟩ ⟨rfl, rfl⟩ h (fun r4 M3 h => ?_)
    obtain ⟨hS, h⟩ := h
    exact x_ret (r := (some (.int (xz r4)))) d9_readAny_26 (xm_rZ (xz_01 _)) rfl ⟨Nat.le_refl _, Nat.le_refl _⟩ (h hS)

set_option maxRecDepth 20000 in
theorem t9_refuse_0 {l : Launch} {E : xm_E} {b : Nat} {c p : Bool} {Q : Option Value → xm_M → Prop} (M : xm_M) (v1 : Int32) (v2 : Int32) (hS : xm_st b true p M)
  (h : (xm_st b true p (xm_pi (xm_pi M (b + 145) 9 v1) (b + 145) 10 v2) → Q (some (.int (0 : Int32))) (xm_pi (xm_pi M (b + 145) 9 v1) (b + 145) 10 v2))) :
  xm_X l E y9_refuse rm9_refuse Q 0 [(0, .ref (b + 145)), (1, .int v1), (2, .int v2)] [] 0 0 M := by
  refine x_aload_n d9_refuse_0 0 rfl rfl ?_
  refine x_iload_n d9_refuse_1 1 rfl rfl ?_
  refine x_putI d9_refuse_2 fw9_43 (fun _ _ => rfl) rfl rfl (hS.1 _ _ (sh_145 b)) ?_
  refine x_aload_n d9_refuse_5 0 rfl rfl ?_
  refine x_iload_n d9_refuse_6 2 rfl rfl ?_
  refine x_putI d9_refuse_7 fw9_46 (fun _ _ => rfl) rfl rfl (hS.pi.1 _ _ (sh_145 b)) ?_
  refine x_iconst d9_refuse_10 qi_0 ?_
  exact x_ret (r := (some (.int (0 : Int32)))) d9_refuse_11 (xm_rZ (Or.inl rfl)) rfl ⟨Nat.le_refl _, Nat.le_refl _⟩ (h hS.pi.pi)

set_option maxRecDepth 20000 in
theorem t9_readFact_0 {l : Launch} {E : xm_E} {b : Nat} {c p : Bool} {Q : Option Value → xm_M → Prop} (M : xm_M)  (hS : xm_st b true p M)
  (h : xm_C l E y9_readWithin rm9_readWithin [.ref (b + 145), .int (0 : Int32), .int (9 : Int32)] M (fun r M1 => ∃ r2 : Bool, r = some (.int (xz r2)) ∧ xm_st b true p M1 ∧ ((¬ (xz r2) = 0 → xm_C l E y9_readWithin rm9_readWithin [.ref (b + 145), .int (0 : Int32), .int (9 : Int32)] M1 (fun r M3 => ∃ r4 : Bool, r = some (.int (xz r4)) ∧ xm_st b true p M3 ∧ ((¬ (xz r4) = 0 → ((¬ (xm_gi M3 (b + 145) 8) = (xm_gi M1 (b + 145) 8) → xm_C l E y9_readAny rm9_readAny [.ref (b + 145)] M3 (fun r M5 => ∃ r6 : Bool, r = some (.int (xz r6)) ∧ xm_st b true p M5 ∧ (xm_st b true p M5 → Q (some (.int (xz r6))) M5))) ∧ ((xm_gi M3 (b + 145) 8) = (xm_gi M1 (b + 145) 8) → xm_C l E y9_refuse rm9_refuse [.ref (b + 145), .int (3 : Int32), .int ((xm_gi M3 (b + 145) 7) - (1 : Int32))] M3 (fun r M7 => ∃ r8 : Bool, r = some (.int (xz r8)) ∧ xm_st b true p M7 ∧ (xm_st b true p M7 → Q (some (.int (xz r8))) M7))))) ∧ ((xz r4) = 0 → (xm_st b true p M3 → Q (some (.int (0 : Int32))) M3))))) ∧ ((xz r2) = 0 → (xm_st b true p M1 → Q (some (.int (0 : Int32))) M1))))) :
  xm_X l E y9_readFact rm9_readFact Q 0 [(0, .ref (b + 145))] [] 0 0 M := by
  refine x_aload_n d9_readFact_0 0 rfl rfl ?_
  refine x_iconst d9_readFact_1 qi_0 ?_
  refine x_bipush d9_readFact_2 qb_9 ?_
  refine x_cVZ (Z := y9_readWithin) (S := rm9_readWithin) (As := [.int (0 : Int32), .int (9 : Int32)]) (rest := []) d9_readFact_4 ml9_92 k9_readWithin rfl (b := (b + 145)) (hS.1 _ _ (sh_145 b)) rfl rfl (Nat.le_of_ble_eq_true rfl) ⟨⟨by decide, by decide⟩, by decide, by decide⟩ ⟨rfl, rfl⟩ h (fun r2 M1 h => ?_)
  obtain ⟨hS, h⟩ := h
  refine x_if_ne d9_readFact_7 (t := 12) (by decide) (fun g => ?_) (fun g => ?_)
  · have h := h.1 g
    refine x_aload_n d9_readFact_12 0 rfl rfl ?_
    refine x_getI d9_readFact_13 fl9_86 (fun _ _ => rfl) (hS.1 _ _ (sh_145 b)) ?_
    refine x_istore_n d9_readFact_16 rfl (by decide) (L' := [(1, .int (xm_gi M1 (b + 145) 8)), (0, .ref (b + 145))]) rfl ?_
    refine x_aload_n d9_readFact_17 1 rfl rfl ?_
    refine x_iconst d9_readFact_18 qi_0 ?_
    refine x_bipush d9_readFact_19 qb_9 ?_
    refine x_cVZ (Z := y9_readWithin) (S := rm9_readWithin) (As := [.int (0 : Int32), .int (9 : Int32)]) (rest := []) d9_readFact_21 ml9_92 k9_readWithin rfl (b := (b + 145)) (hS.1 _ _ (sh_145 b)) rfl rfl (Nat.le_of_ble_eq_true rfl) ⟨⟨by decide, by decide⟩, by decide, by decide⟩ ⟨rfl, rfl⟩ h (fun r4 M3 h => ?_)
    obtain ⟨hS, h⟩ := h
    refine x_if_ne d9_readFact_24 (t := 29) (by decide) (fun g => ?_) (fun g => ?_)
    · have h := h.1 g
      refine x_aload_n d9_readFact_29 1 rfl rfl ?_
      refine x_getI d9_readFact_30 fl9_86 (fun _ _ => rfl) (hS.1 _ _ (sh_145 b)) ?_
      refine x_iload_n d9_readFact_33 0 rfl rfl ?_
      refine x_icmp_ne d9_readFact_34 (t := 49) (by decide) (fun g => ?_) (fun g => ?_)
      · have h := h.1 g
        refine x_aload_n d9_readFact_49 1 rfl rfl ?_
        refine x_cVZ (Z := y9_readAny) (S := rm9_readAny) (As := []) (rest := []) d9_readFact_50 ml9_89 k9_readAny rfl (b := (b + 145)) (hS.1 _ _ (sh_145 b)) rfl rfl (Nat.le_of_ble_eq_true rfl) ⟨⟨by decide, by decide⟩, by decide, by decide⟩ ⟨rfl, rfl⟩ h (fun r6 M5 h => ?_)
        obtain ⟨hS, h⟩ := h
        exact x_ret (r := (some (.int (xz r6)))) d9_readFact_53 (xm_rZ (xz_01 _)) rfl ⟨Nat.le_refl _, Nat.le_refl _⟩ (h hS)
      · have h := h.2 g
        refine x_aload_n d9_readFact_37 1 rfl rfl ?_
        refine x_iconst d9_readFact_38 qi_3 ?_
        refine x_aload_n d9_readFact_39 1 rfl rfl ?_
        refine x_getI d9_readFact_40 fl9_39 (fun _ _ => rfl) (hS.1 _ _ (sh_145 b)) ?_
        refine x_iconst d9_readFact_43 qi_1 ?_
        refine x_isub d9_readFact_44 ?_
        refine x_cVZ (Z := y9_refuse) (S := rm9_refuse) (As := [.int (3 : Int32), .int ((xm_gi M3 (b + 145) 7) - (1 : Int32))]) (rest := []) d9_readFact_45 ml9_63 k9_refuse rfl (b := (b + 145)) (hS.1 _ _ (sh_145 b)) rfl rfl (Nat.le_of_ble_eq_true rfl) ⟨⟨by decide, by decide⟩, by decide, by decide⟩ ⟨rfl, rfl⟩ h (fun r8 M7 h => ?_)
        obtain ⟨hS, h⟩ := h
        exact x_ret (r := (some (.int (xz r8)))) d9_readFact_48 (xm_rZ (xz_01 _)) rfl ⟨Nat.le_refl _, Nat.le_refl _⟩ (h hS)
    · have h := h.2 g
      refine x_iconst d9_readFact_27 qi_0 ?_
      exact x_ret (r := (some (.int (0 : Int32)))) d9_readFact_28 (xm_rZ (Or.inl rfl)) rfl ⟨Nat.le_refl _, Nat.le_refl _⟩ (h hS)
  · have h := h.2 g
    refine x_iconst d9_readFact_10 qi_0 ?_
    exact x_ret (r := (some (.int (0 : Int32)))) d9_readFact_11 (xm_rZ (Or.inl rfl)) rfl ⟨Nat.le_refl _, Nat.le_refl _⟩ (h hS)

set_option maxRecDepth 20000 in
theorem t9_readReasonsFor_0 {l : Launch} {E : xm_E} {b : Nat} {c p : Bool} {Q : Option Value → xm_M → Prop} (M : xm_M) (v1 : Int32) (v2 : Int32) (v3 : Int32) (hS : xm_st b true p M)
  (h : (xm_st b true p M → xm_X l E y9_readReasonsFor rm9_readReasonsFor Q 3 [(0, .ref (b + 145)), (1, .int v1), (2, .int v2), (3, .int v3), (4, .int (0 : Int32))] [] 0 0 M)) :
  xm_X l E y9_readReasonsFor rm9_readReasonsFor Q 0 [(0, .ref (b + 145)), (1, .int v1), (2, .int v2), (3, .int v3)] [] 0 0 M := by
  refine x_iconst d9_readReasonsFor_0 qi_0 ?_
  refine x_istore d9_readReasonsFor_1 (by decide) (L' := [(4, .int (0 : Int32)), (0, .ref (b + 145)), (1, .int v1), (2, .int v2), (3, .int v3)]) rfl ?_
  exact xm_X.sub [1, 2, 3, 4, 0] rfl (h hS)
set_option maxRecDepth 20000 in
theorem t9_readReasonsFor_3 {l : Launch} {E : xm_E} {b : Nat} {c p : Bool} {Q : Option Value → xm_M → Prop} (M : xm_M) (v1 : Int32) (v2 : Int32) (v3 : Int32) (v4 : Int32) (hS : xm_st b true p M)
  (h : (vp_in v1 48 ∧ (((xm_gi M (b + 146) (Int32.toNatClampNeg v1)) ≤ v4 → (xm_st b true p M → Q (some (.int (1 : Int32))) M)) ∧ (¬ (xm_gi M (b + 146) (Int32.toNatClampNeg v1)) ≤ v4 → (vp_in v1 48 ∧ xm_C l E y3_get rm3_get [.ref (b + 51), .int ((xm_gi M (b + 147) (Int32.toNatClampNeg v1)) + ((3 : Int32) * v4))] M (fun r M3 => ∃ r4 : Int32, r = some (.int r4) ∧ xm_st b true p M3 ∧ xm_C l E y3_get rm3_get [.ref (b + 51), .int (((xm_gi M (b + 147) (Int32.toNatClampNeg v1)) + ((3 : Int32) * v4)) + (1 : Int32))] M3 (fun r M5 => ∃ r6 : Int32, r = some (.int r6) ∧ xm_st b true p M5 ∧ xm_C l E y3_get rm3_get [.ref (b + 51), .int (((xm_gi M (b + 147) (Int32.toNatClampNeg v1)) + ((3 : Int32) * v4)) + (2 : Int32))] M5 (fun r M7 => ∃ r8 : Int32, r = some (.int r8) ∧ xm_st b true p M7 ∧ xm_C l E y9_readReason rm9_readReason [.ref (b + 145), .int v2, .int v3, .int r4, .int r6, .long (Int32.toInt64 r8)] M7 (fun r M9 => ∃ r10 : Bool, r = some (.int (xz r10)) ∧ xm_st b true p M9 ∧ ((¬ (xz r10) = 0 → (xm_st b true p M9 → xm_X l E y9_readReasonsFor rm9_readReasonsFor Q 3 [(0, .ref (b + 145)), (1, .int v1), (2, .int v2), (3, .int v3), (4, .int (v4 + Int32.ofInt (1)))] [] 0 0 M9)) ∧ ((xz r10) = 0 → (xm_st b true p M9 → Q (some (.int (0 : Int32))) M9)))))))))))) :
  xm_X l E y9_readReasonsFor rm9_readReasonsFor Q 3 [(0, .ref (b + 145)), (1, .int v1), (2, .int v2), (3, .int v3), (4, .int v4)] [] 0 0 M := by
  refine x_iload d9_readReasonsFor_3 4 rfl ?_
  refine x_aload_n d9_readReasonsFor_5 0 rfl rfl ?_
  refine x_getR d9_readReasonsFor_6 fl9_9 (fun _ _ => rfl) (hS.1 _ _ (sh_145 b)) (hS.2.1 _ _ _ (pt_145_0 b)) ?_
  refine x_iload_n d9_readReasonsFor_9 1 rfl rfl ?_
  obtain ⟨g1, h⟩ := h
  refine x_iald d9_readReasonsFor_10 (hS.1 _ _ (sh_146 b)) g1 ?_
  refine x_icmp_ge d9_readReasonsFor_11 (t := 76) (by decide) (fun g => ?_) (fun g => ?_)
  · have h := h.1 g
    refine x_iconst d9_readReasonsFor_76 qi_1 ?_
    exact x_ret (r := (some (.int (1 : Int32)))) d9_readReasonsFor_77 (xm_rZ (Or.inr rfl)) rfl ⟨Nat.le_refl _, Nat.le_refl _⟩ (h hS)
  · have h := h.2 g
    refine x_aload_n d9_readReasonsFor_14 0 rfl rfl ?_
    refine x_getR d9_readReasonsFor_15 fl9_15 (fun _ _ => rfl) (hS.1 _ _ (sh_145 b)) (hS.2.1 _ _ _ (pt_145_1 b)) ?_
    refine x_iload_n d9_readReasonsFor_18 1 rfl rfl ?_
    obtain ⟨g2, h⟩ := h
    refine x_iald d9_readReasonsFor_19 (hS.1 _ _ (sh_147 b)) g2 ?_
    refine x_iconst d9_readReasonsFor_20 qi_3 ?_
    refine x_iload d9_readReasonsFor_21 4 rfl ?_
    refine x_imul d9_readReasonsFor_23 ?_
    refine x_iadd d9_readReasonsFor_24 ?_
    refine x_istore d9_readReasonsFor_25 (by decide) (L' := [(5, .int ((xm_gi M (b + 147) (Int32.toNatClampNeg v1)) + ((3 : Int32) * v4))), (0, .ref (b + 145)), (1, .int v1), (2, .int v2), (3, .int v3), (4, .int v4)]) rfl ?_
    refine x_aload_n d9_readReasonsFor_27 1 rfl rfl ?_
    refine x_iload_n d9_readReasonsFor_28 3 rfl rfl ?_
    refine x_iload_n d9_readReasonsFor_29 4 rfl rfl ?_
    refine x_aload_n d9_readReasonsFor_30 1 rfl rfl ?_
    refine x_getR d9_readReasonsFor_31 fl9_35 (fun _ _ => rfl) (hS.1 _ _ (sh_145 b)) (hS.2.2.1 rfl).2 ?_
    refine x_iload d9_readReasonsFor_34 0 rfl ?_
    refine x_cVI (Z := y3_get) (S := rm3_get) (As := [.int ((xm_gi M (b + 147) (Int32.toNatClampNeg v1)) + ((3 : Int32) * v4))]) (rest := [.int v3, .int v2, .ref (b + 145)]) d9_readReasonsFor_36 ml9_82 k3_get rfl (b := (b + 51)) (hS.1 _ _ (sh_51 b)) rfl rfl (Nat.le_of_ble_eq_true rfl) ⟨⟨by decide, by decide⟩, by decide, by decide⟩ ⟨rfl, rfl⟩ h (fun r4 M3 h => ?_)
    obtain ⟨hS, h⟩ := h
    refine x_aload_n d9_readReasonsFor_39 1 rfl rfl ?_
    refine x_getR d9_readReasonsFor_40 fl9_35 (fun _ _ => rfl) (hS.1 _ _ (sh_145 b)) (hS.2.2.1 rfl).2 ?_
    refine x_iload d9_readReasonsFor_43 0 rfl ?_
    refine x_iconst d9_readReasonsFor_45 qi_1 ?_
    refine x_iadd d9_readReasonsFor_46 ?_
    refine x_cVI (Z := y3_get) (S := rm3_get) (As := [.int (((xm_gi M (b + 147) (Int32.toNatClampNeg v1)) + ((3 : Int32) * v4)) + (1 : Int32))]) (rest := [.int r4, .int v3, .int v2, .ref (b + 145)]) d9_readReasonsFor_47 ml9_82 k3_get rfl (b := (b + 51)) (hS.1 _ _ (sh_51 b)) rfl rfl (Nat.le_of_ble_eq_true rfl) ⟨⟨by decide, by decide⟩, by decide, by decide⟩ ⟨rfl, rfl⟩ h (fun r6 M5 h => ?_)
    obtain ⟨hS, h⟩ := h
    refine x_aload_n d9_readReasonsFor_50 1 rfl rfl ?_
    refine x_getR d9_readReasonsFor_51 fl9_35 (fun _ _ => rfl) (hS.1 _ _ (sh_145 b)) (hS.2.2.1 rfl).2 ?_
    refine x_iload d9_readReasonsFor_54 0 rfl ?_
    refine x_iconst d9_readReasonsFor_56 qi_2 ?_
    refine x_iadd d9_readReasonsFor_57 ?_
    refine x_cVI (Z := y3_get) (S := rm3_get) (As := [.int (((xm_gi M (b + 147) (Int32.toNatClampNeg v1)) + ((3 : Int32) * v4)) + (2 : Int32))]) (rest := [.int r6, .int r4, .int v3, .int v2, .ref (b + 145)]) d9_readReasonsFor_58 ml9_82 k3_get rfl (b := (b + 51)) (hS.1 _ _ (sh_51 b)) rfl rfl (Nat.le_of_ble_eq_true rfl) ⟨⟨by decide, by decide⟩, by decide, by decide⟩ ⟨rfl, rfl⟩ h (fun r8 M7 h => ?_)
    obtain ⟨hS, h⟩ := h
    refine x_i2l d9_readReasonsFor_61 ?_
    refine x_cVZ (Z := y9_readReason) (S := rm9_readReason) (As := [.int v2, .int v3, .int r4, .int r6, .long (Int32.toInt64 r8)]) (rest := []) d9_readReasonsFor_62 ml9_113 k9_readReason rfl (b := (b + 145)) (hS.1 _ _ (sh_145 b)) rfl rfl (Nat.le_of_ble_eq_true rfl) ⟨⟨by decide, by decide⟩, by decide, by decide⟩ ⟨rfl, rfl⟩ h (fun r10 M9 h => ?_)
    obtain ⟨hS, h⟩ := h
    refine x_if_ne d9_readReasonsFor_65 (t := 70) (by decide) (fun g => ?_) (fun g => ?_)
    · have h := h.1 g
      refine x_iinc d9_readReasonsFor_70 5 rfl rfl (by decide) (L' := [(4, .int (v4 + Int32.ofInt (1))), (5, .int ((xm_gi M (b + 147) (Int32.toNatClampNeg v1)) + ((3 : Int32) * v4))), (0, .ref (b + 145)), (1, .int v1), (2, .int v2), (3, .int v3)]) rfl ?_
      refine x_goto d9_readReasonsFor_73 (t := 3) (by decide) ?_
      exact xm_X.sub [2, 3, 4, 5, 0] rfl (h hS)
    · have h := h.2 g
      refine x_iconst d9_readReasonsFor_68 qi_0 ?_
      exact x_ret (r := (some (.int (0 : Int32)))) d9_readReasonsFor_69 (xm_rZ (Or.inl rfl)) rfl ⟨Nat.le_refl _, Nat.le_refl _⟩ (h hS)

set_option maxRecDepth 20000 in
theorem t9_readReason_0 {l : Launch} {E : xm_E} {b : Nat} {c p : Bool} {Q : Option Value → xm_M → Prop} (M : xm_M) (v1 : Int32) (v2 : Int32) (v3 : Int32) (v4 : Int32) (w5 : Int64) (hS : xm_st b true p M)
  (h : xm_C l E y9_readWithin rm9_readWithin [.ref (b + 145), .int (1 : Int32), .int (12 : Int32)] M (fun r M1 => ∃ r2 : Bool, r = some (.int (xz r2)) ∧ xm_st b true p M1 ∧ ((¬ (xz r2) = 0 → (xm_st b true p M1 → xm_X l E y9_readReason rm9_readReason Q 34 [(0, .ref (b + 145)), (1, .int v1), (2, .int v2), (4, .int v4), (5, .long w5), (7, .int (xm_gi M (b + 145) 7)), (9, .int v3), (10, .long (0 : Int64)), (12, .int (xm_gi M1 (b + 145) 8))] [] 0 0 M1)) ∧ ((xz r2) = 0 → (xm_st b true p M1 → Q (some (.int (0 : Int32))) M1))))) :
  xm_X l E y9_readReason rm9_readReason Q 0 [(0, .ref (b + 145)), (1, .int v1), (2, .int v2), (3, .int v3), (4, .int v4), (5, .long w5)] [] 0 0 M := by
  refine x_aload_n d9_readReason_0 0 rfl rfl ?_
  refine x_getI d9_readReason_1 fl9_39 (fun _ _ => rfl) (hS.1 _ _ (sh_145 b)) ?_
  refine x_istore d9_readReason_4 (by decide) (L' := [(7, .int (xm_gi M (b + 145) 7)), (0, .ref (b + 145)), (1, .int v1), (2, .int v2), (3, .int v3), (4, .int v4), (5, .long w5)]) rfl ?_
  refine x_aload_n d9_readReason_6 1 rfl rfl ?_
  refine x_iconst d9_readReason_7 qi_1 ?_
  refine x_bipush d9_readReason_8 qb_12 ?_
  refine x_cVZ (Z := y9_readWithin) (S := rm9_readWithin) (As := [.int (1 : Int32), .int (12 : Int32)]) (rest := []) d9_readReason_10 ml9_92 k9_readWithin rfl (b := (b + 145)) (hS.1 _ _ (sh_145 b)) rfl rfl (Nat.le_of_ble_eq_true rfl) ⟨⟨by decide, by decide⟩, by decide, by decide⟩ ⟨rfl, rfl⟩ h (fun r2 M1 h => ?_)
  obtain ⟨hS, h⟩ := h
  refine x_if_ne d9_readReason_13 (t := 18) (by decide) (fun g => ?_) (fun g => ?_)
  · have h := h.1 g
    refine x_aload_n d9_readReason_18 1 rfl rfl ?_
    refine x_getI d9_readReason_19 fl9_86 (fun _ _ => rfl) (hS.1 _ _ (sh_145 b)) ?_
    refine x_istore d9_readReason_22 (by decide) (L' := [(8, .int (xm_gi M1 (b + 145) 8)), (7, .int (xm_gi M (b + 145) 7)), (0, .ref (b + 145)), (1, .int v1), (2, .int v2), (3, .int v3), (4, .int v4), (5, .long w5)]) rfl ?_
    refine x_iload_n d9_readReason_24 5 rfl rfl ?_
    refine x_istore d9_readReason_25 (by decide) (L' := [(9, .int v3), (8, .int (xm_gi M1 (b + 145) 8)), (7, .int (xm_gi M (b + 145) 7)), (0, .ref (b + 145)), (1, .int v1), (2, .int v2), (3, .int v3), (4, .int v4), (5, .long w5)]) rfl ?_
    refine x_lconst d9_readReason_27 ql_0 ?_
    refine x_lstore d9_readReason_28 (by decide) (L' := [(10, .long (0 : Int64)), (9, .int v3), (8, .int (xm_gi M1 (b + 145) 8)), (7, .int (xm_gi M (b + 145) 7)), (0, .ref (b + 145)), (1, .int v1), (2, .int v2), (3, .int v3), (4, .int v4), (5, .long w5)]) rfl ?_
    refine x_iload d9_readReason_30 2 rfl ?_
    refine x_istore d9_readReason_32 (by decide) (L' := [(12, .int (xm_gi M1 (b + 145) 8)), (10, .long (0 : Int64)), (9, .int v3), (8, .int (xm_gi M1 (b + 145) 8)), (7, .int (xm_gi M (b + 145) 7)), (0, .ref (b + 145)), (1, .int v1), (2, .int v2), (3, .int v3), (4, .int v4), (5, .long w5)]) rfl ?_
    exact xm_X.sub [5, 6, 7, 9, 10, 4, 2, 1, 0] rfl (h hS)
  · have h := h.2 g
    refine x_iconst d9_readReason_16 qi_0 ?_
    exact x_ret (r := (some (.int (0 : Int32)))) d9_readReason_17 (xm_rZ (Or.inl rfl)) rfl ⟨Nat.le_refl _, Nat.le_refl _⟩ (h hS)
set_option maxRecDepth 20000 in
theorem t9_readReason_34 {l : Launch} {E : xm_E} {b : Nat} {c p : Bool} {Q : Option Value → xm_M → Prop} (M : xm_M) (v1 : Int32) (v2 : Int32) (v4 : Int32) (w5 : Int64) (v7 : Int32) (v9 : Int32) (w10 : Int64) (v12 : Int32) (hS : xm_st b true p M)
  (h : ((v12 ≤ 0 → ((w10 ≤ w5 → (xm_st b true p M → Q (some (.int (1 : Int32))) M)) ∧ (¬ w10 ≤ w5 → xm_C l E y9_refuse rm9_refuse [.ref (b + 145), .int (6 : Int32), .int v7] M (fun r M1 => ∃ r2 : Bool, r = some (.int (xz r2)) ∧ xm_st b true p M1 ∧ (((xz r2) = 0 → (xm_st b true p M1 → Q (some (.int (0 : Int32))) M1)) ∧ (¬ (xz r2) = 0 → (xm_st b true p M1 → Q (some (.int (1 : Int32))) M1))))))) ∧ (¬ v12 ≤ 0 → xm_C l E y9_readAny rm9_readAny [.ref (b + 145)] M (fun r M3 => ∃ r4 : Bool, r = some (.int (xz r4)) ∧ xm_st b true p M3 ∧ ((¬ (xz r4) = 0 → xm_C l E y9_findStep rm9_findStep [.ref (b + 145), .int v1, .int v2, .int (xm_gi M3 (b + 145) 8)] M3 (fun r M5 => ∃ r6 : Bool, r = some (.int (xz r6)) ∧ xm_st b true p M5 ∧ ((¬ (xz r6) = 0 → ((¬ (xm_gi M5 (b + 148) 0) = v9 → xm_C l E y9_refuse rm9_refuse [.ref (b + 145), .int (5 : Int32), .int ((xm_gi M5 (b + 145) 7) - (1 : Int32))] M5 (fun r M7 => ∃ r8 : Bool, r = some (.int (xz r8)) ∧ xm_st b true p M7 ∧ (xm_st b true p M7 → Q (some (.int (xz r8))) M7))) ∧ ((xm_gi M5 (b + 148) 0) = v9 → ((¬ v12 = (1 : Int32) → (xm_st b true p M5 → xm_X l E y9_readReason rm9_readReason Q 34 [(0, .ref (b + 145)), (1, .int v1), (2, .int v2), (4, .int v4), (5, .long w5), (7, .int v7), (9, .int (xm_gi M5 (b + 148) 1)), (10, .long (w10 + (xm_gl M5 (b + 148) 2))), (12, .int (v12 + Int32.ofInt (-1)))] [] 0 0 M5)) ∧ (v12 = (1 : Int32) → (((xm_gi M5 (b + 148) 1) = v4 → (xm_st b true p M5 → xm_X l E y9_readReason rm9_readReason Q 34 [(0, .ref (b + 145)), (1, .int v1), (2, .int v2), (4, .int v4), (5, .long w5), (7, .int v7), (9, .int (xm_gi M5 (b + 148) 1)), (10, .long (w10 + (xm_gl M5 (b + 148) 2))), (12, .int (v12 + Int32.ofInt (-1)))] [] 0 0 M5)) ∧ (¬ (xm_gi M5 (b + 148) 1) = v4 → xm_C l E y9_refuse rm9_refuse [.ref (b + 145), .int (5 : Int32), .int ((xm_gi M5 (b + 145) 7) - (1 : Int32))] M5 (fun r M9 => ∃ r10 : Bool, r = some (.int (xz r10)) ∧ xm_st b true p M9 ∧ (xm_st b true p M9 → Q (some (.int (xz r10))) M9))))))))) ∧ ((xz r6) = 0 → xm_C l E y9_refuse rm9_refuse [.ref (b + 145), .int (4 : Int32), .int ((xm_gi M5 (b + 145) 7) - (1 : Int32))] M5 (fun r M11 => ∃ r12 : Bool, r = some (.int (xz r12)) ∧ xm_st b true p M11 ∧ (xm_st b true p M11 → Q (some (.int (xz r12))) M11)))))) ∧ ((xz r4) = 0 → (xm_st b true p M3 → Q (some (.int (0 : Int32))) M3))))))) :
  xm_X l E y9_readReason rm9_readReason Q 34 [(0, .ref (b + 145)), (1, .int v1), (2, .int v2), (4, .int v4), (5, .long w5), (7, .int v7), (9, .int v9), (10, .long w10), (12, .int v12)] [] 0 0 M := by
  refine x_iload d9_readReason_34 8 rfl ?_
  refine x_if_le d9_readReason_36 (t := 142) (by decide) (fun g => ?_) (fun g => ?_)
  · have h := h.1 g
    refine x_lload d9_readReason_142 7 rfl ?_
    refine x_lload d9_readReason_144 4 rfl ?_
    refine x_lc_le d9_readReason_146 d9_readReason_147 rfl rfl (t := 161) (by decide) (fun g => ?_) (fun g => ?_)
    · have h := h.1 g
      refine x_iconst d9_readReason_161 qi_1 ?_
      refine x_goto d9_readReason_162 (t := 166) (by decide) ?_
      exact x_ret (r := (some (.int (1 : Int32)))) d9_readReason_166 (xm_rZ (Or.inr rfl)) rfl ⟨Nat.le_refl _, Nat.le_refl _⟩ (h hS)
    · have h := h.2 g
      refine x_aload_n d9_readReason_150 0 rfl rfl ?_
      refine x_bipush d9_readReason_151 qb_6 ?_
      refine x_iload d9_readReason_153 5 rfl ?_
      refine x_cVZ (Z := y9_refuse) (S := rm9_refuse) (As := [.int (6 : Int32), .int v7]) (rest := []) d9_readReason_155 ml9_63 k9_refuse rfl (b := (b + 145)) (hS.1 _ _ (sh_145 b)) rfl rfl (Nat.le_of_ble_eq_true rfl) ⟨⟨by decide, by decide⟩, by decide, by decide⟩ ⟨rfl, rfl⟩ h (fun r2 M1 h => ?_)
      obtain ⟨hS, h⟩ := h
      refine x_if_eq d9_readReason_158 (t := 165) (by decide) (fun g => ?_) (fun g => ?_)
      · have h := h.1 g
        refine x_iconst d9_readReason_165 qi_0 ?_
        exact x_ret (r := (some (.int (0 : Int32)))) d9_readReason_166 (xm_rZ (Or.inl rfl)) rfl ⟨Nat.le_refl _, Nat.le_refl _⟩ (h hS)
      · have h := h.2 g
        refine x_iconst d9_readReason_161 qi_1 ?_
        refine x_goto d9_readReason_162 (t := 166) (by decide) ?_
        exact x_ret (r := (some (.int (1 : Int32)))) d9_readReason_166 (xm_rZ (Or.inr rfl)) rfl ⟨Nat.le_refl _, Nat.le_refl _⟩ (h hS)
  · have h := h.2 g
    refine x_aload_n d9_readReason_39 0 rfl rfl ?_
    refine x_cVZ (Z := y9_readAny) (S := rm9_readAny) (As := []) (rest := []) d9_readReason_40 ml9_89 k9_readAny rfl (b := (b + 145)) (hS.1 _ _ (sh_145 b)) rfl rfl (Nat.le_of_ble_eq_true rfl) ⟨⟨by decide, by decide⟩, by decide, by decide⟩ ⟨rfl, rfl⟩ h (fun r4 M3 h => ?_)
    obtain ⟨hS, h⟩ := h
    refine x_if_ne d9_readReason_43 (t := 48) (by decide) (fun g => ?_) (fun g => ?_)
    · have h := h.1 g
      refine x_aload_n d9_readReason_48 0 rfl rfl ?_
      refine x_iload_n d9_readReason_49 1 rfl rfl ?_
      refine x_iload_n d9_readReason_50 2 rfl rfl ?_
      refine x_aload_n d9_readReason_51 0 rfl rfl ?_
      refine x_getI d9_readReason_52 fl9_86 (fun _ _ => rfl) (hS.1 _ _ (sh_145 b)) ?_
      refine x_cVZ (Z := y9_findStep) (S := rm9_findStep) (As := [.int v1, .int v2, .int (xm_gi M3 (b + 145) 8)]) (rest := []) d9_readReason_55 ml9_133 k9_findStep rfl (b := (b + 145)) (hS.1 _ _ (sh_145 b)) rfl rfl (Nat.le_of_ble_eq_true rfl) ⟨⟨by decide, by decide⟩, by decide, by decide⟩ ⟨rfl, rfl⟩ h (fun r6 M5 h => ?_)
      obtain ⟨hS, h⟩ := h
      refine x_if_ne d9_readReason_58 (t := 73) (by decide) (fun g => ?_) (fun g => ?_)
      · have h := h.1 g
        refine x_aload_n d9_readReason_73 0 rfl rfl ?_
        refine x_getR d9_readReason_74 fl9_21 (fun _ _ => rfl) (hS.1 _ _ (sh_145 b)) (hS.2.1 _ _ _ (pt_145_2 b)) ?_
        refine x_getI d9_readReason_77 fl9_136 (fun _ _ => rfl) (hS.1 _ _ (sh_148 b)) ?_
        refine x_iload d9_readReason_80 6 rfl ?_
        refine x_icmp_ne d9_readReason_82 (t := 103) (by decide) (fun g => ?_) (fun g => ?_)
        · have h := h.1 g
          refine x_aload_n d9_readReason_103 0 rfl rfl ?_
          refine x_iconst d9_readReason_104 qi_5 ?_
          refine x_aload_n d9_readReason_105 0 rfl rfl ?_
          refine x_getI d9_readReason_106 fl9_39 (fun _ _ => rfl) (hS.1 _ _ (sh_145 b)) ?_
          refine x_iconst d9_readReason_109 qi_1 ?_
          refine x_isub d9_readReason_110 ?_
          refine x_cVZ (Z := y9_refuse) (S := rm9_refuse) (As := [.int (5 : Int32), .int ((xm_gi M5 (b + 145) 7) - (1 : Int32))]) (rest := []) d9_readReason_111 ml9_63 k9_refuse rfl (b := (b + 145)) (hS.1 _ _ (sh_145 b)) rfl rfl (Nat.le_of_ble_eq_true rfl) ⟨⟨by decide, by decide⟩, by decide, by decide⟩ ⟨rfl, rfl⟩ h (fun r8 M7 h => ?_)
          obtain ⟨hS, h⟩ := h
          exact x_ret (r := (some (.int (xz r8)))) d9_readReason_114 (xm_rZ (xz_01 _)) rfl ⟨Nat.le_refl _, Nat.le_refl _⟩ (h hS)
        · have h := h.2 g
          refine x_iload d9_readReason_85 8 rfl ?_
          refine x_iconst d9_readReason_87 qi_1 ?_
          refine x_icmp_ne d9_readReason_88 (t := 115) (by decide) (fun g => ?_) (fun g => ?_)
          · have h := h.1 g
            refine x_aload_n d9_readReason_115 0 rfl rfl ?_
            refine x_getR d9_readReason_116 fl9_21 (fun _ _ => rfl) (hS.1 _ _ (sh_145 b)) (hS.2.1 _ _ _ (pt_145_2 b)) ?_
            refine x_getI d9_readReason_119 fl9_139 (fun _ _ => rfl) (hS.1 _ _ (sh_148 b)) ?_
            refine x_istore d9_readReason_122 (by decide) (L' := [(9, .int (xm_gi M5 (b + 148) 1)), (0, .ref (b + 145)), (1, .int v1), (2, .int v2), (4, .int v4), (5, .long w5), (7, .int v7), (10, .long w10), (12, .int v12)]) rfl ?_
            refine x_lload d9_readReason_124 7 rfl ?_
            refine x_aload_n d9_readReason_126 1 rfl rfl ?_
            refine x_getR d9_readReason_127 fl9_21 (fun _ _ => rfl) (hS.1 _ _ (sh_145 b)) (hS.2.1 _ _ _ (pt_145_2 b)) ?_
            refine x_getL d9_readReason_130 fl9_142 (fun _ _ => rfl) (hS.1 _ _ (sh_148 b)) ?_
            refine x_ladd d9_readReason_133 ?_
            refine x_lstore d9_readReason_134 (by decide) (L' := [(10, .long (w10 + (xm_gl M5 (b + 148) 2))), (9, .int (xm_gi M5 (b + 148) 1)), (0, .ref (b + 145)), (1, .int v1), (2, .int v2), (4, .int v4), (5, .long w5), (7, .int v7), (12, .int v12)]) rfl ?_
            refine x_iinc d9_readReason_136 8 rfl rfl (by decide) (L' := [(12, .int (v12 + Int32.ofInt (-1))), (10, .long (w10 + (xm_gl M5 (b + 148) 2))), (9, .int (xm_gi M5 (b + 148) 1)), (0, .ref (b + 145)), (1, .int v1), (2, .int v2), (4, .int v4), (5, .long w5), (7, .int v7)]) rfl ?_
            refine x_goto d9_readReason_139 (t := 34) (by decide) ?_
            exact xm_X.sub [3, 4, 5, 6, 7, 8, 2, 1, 0] rfl (h hS)
          · have h := h.2 g
            refine x_aload_n d9_readReason_91 0 rfl rfl ?_
            refine x_getR d9_readReason_92 fl9_21 (fun _ _ => rfl) (hS.1 _ _ (sh_145 b)) (hS.2.1 _ _ _ (pt_145_2 b)) ?_
            refine x_getI d9_readReason_95 fl9_139 (fun _ _ => rfl) (hS.1 _ _ (sh_148 b)) ?_
            refine x_iload d9_readReason_98 3 rfl ?_
            refine x_icmp_eq d9_readReason_100 (t := 115) (by decide) (fun g => ?_) (fun g => ?_)
            · have h := h.1 g
              refine x_aload_n d9_readReason_115 0 rfl rfl ?_
              refine x_getR d9_readReason_116 fl9_21 (fun _ _ => rfl) (hS.1 _ _ (sh_145 b)) (hS.2.1 _ _ _ (pt_145_2 b)) ?_
              refine x_getI d9_readReason_119 fl9_139 (fun _ _ => rfl) (hS.1 _ _ (sh_148 b)) ?_
              refine x_istore d9_readReason_122 (by decide) (L' := [(9, .int (xm_gi M5 (b + 148) 1)), (0, .ref (b + 145)), (1, .int v1), (2, .int v2), (4, .int v4), (5, .long w5), (7, .int v7), (10, .long w10), (12, .int v12)]) rfl ?_
              refine x_lload d9_readReason_124 7 rfl ?_
              refine x_aload_n d9_readReason_126 1 rfl rfl ?_
              refine x_getR d9_readReason_127 fl9_21 (fun _ _ => rfl) (hS.1 _ _ (sh_145 b)) (hS.2.1 _ _ _ (pt_145_2 b)) ?_
              refine x_getL d9_readReason_130 fl9_142 (fun _ _ => rfl) (hS.1 _ _ (sh_148 b)) ?_
              refine x_ladd d9_readReason_133 ?_
              refine x_lstore d9_readReason_134 (by decide) (L' := [(10, .long (w10 + (xm_gl M5 (b + 148) 2))), (9, .int (xm_gi M5 (b + 148) 1)), (0, .ref (b + 145)), (1, .int v1), (2, .int v2), (4, .int v4), (5, .long w5), (7, .int v7), (12, .int v12)]) rfl ?_
              refine x_iinc d9_readReason_136 8 rfl rfl (by decide) (L' := [(12, .int (v12 + Int32.ofInt (-1))), (10, .long (w10 + (xm_gl M5 (b + 148) 2))), (9, .int (xm_gi M5 (b + 148) 1)), (0, .ref (b + 145)), (1, .int v1), (2, .int v2), (4, .int v4), (5, .long w5), (7, .int v7)]) rfl ?_
              refine x_goto d9_readReason_139 (t := 34) (by decide) ?_
              exact xm_X.sub [3, 4, 5, 6, 7, 8, 2, 1, 0] rfl (h hS)
            · have h := h.2 g
              refine x_aload_n d9_readReason_103 0 rfl rfl ?_
              refine x_iconst d9_readReason_104 qi_5 ?_
              refine x_aload_n d9_readReason_105 0 rfl rfl ?_
              refine x_getI d9_readReason_106 fl9_39 (fun _ _ => rfl) (hS.1 _ _ (sh_145 b)) ?_
              refine x_iconst d9_readReason_109 qi_1 ?_
              refine x_isub d9_readReason_110 ?_
              refine x_cVZ (Z := y9_refuse) (S := rm9_refuse) (As := [.int (5 : Int32), .int ((xm_gi M5 (b + 145) 7) - (1 : Int32))]) (rest := []) d9_readReason_111 ml9_63 k9_refuse rfl (b := (b + 145)) (hS.1 _ _ (sh_145 b)) rfl rfl (Nat.le_of_ble_eq_true rfl) ⟨⟨by decide, by decide⟩, by decide, by decide⟩ ⟨rfl, rfl⟩ h (fun r10 M9 h => ?_)
              obtain ⟨hS, h⟩ := h
              exact x_ret (r := (some (.int (xz r10)))) d9_readReason_114 (xm_rZ (xz_01 _)) rfl ⟨Nat.le_refl _, Nat.le_refl _⟩ (h hS)
      · have h := h.2 g
        refine x_aload_n d9_readReason_61 0 rfl rfl ?_
        refine x_iconst d9_readReason_62 qi_4 ?_
        refine x_aload_n d9_readReason_63 0 rfl rfl ?_
        refine x_getI d9_readReason_64 fl9_39 (fun _ _ => rfl) (hS.1 _ _ (sh_145 b)) ?_
        refine x_iconst d9_readReason_67 qi_1 ?_
        refine x_isub d9_readReason_68 ?_
        refine x_cVZ (Z := y9_refuse) (S := rm9_refuse) (As := [.int (4 : Int32), .int ((xm_gi M5 (b + 145) 7) - (1 : Int32))]) (rest := []) d9_readReason_69 ml9_63 k9_refuse rfl (b := (b + 145)) (hS.1 _ _ (sh_145 b)) rfl rfl (Nat.le_of_ble_eq_true rfl) ⟨⟨by decide, by decide⟩, by decide, by decide⟩ ⟨rfl, rfl⟩ h (fun r12 M11 h => ?_)
        obtain ⟨hS, h⟩ := h
        exact x_ret (r := (some (.int (xz r12)))) d9_readReason_72 (xm_rZ (xz_01 _)) rfl ⟨Nat.le_refl _, Nat.le_refl _⟩ (h hS)
    · have h := h.2 g
      refine x_iconst d9_readReason_46 qi_0 ?_
      exact x_ret (r := (some (.int (0 : Int32)))) d9_readReason_47 (xm_rZ (Or.inl rfl)) rfl ⟨Nat.le_refl _, Nat.le_refl _⟩ (h hS)

set_option maxRecDepth 20000 in
theorem t9_findStep_0 {l : Launch} {E : xm_E} {b : Nat} {c p : Bool} {Q : Option Value → xm_M → Prop} (M : xm_M) (v1 : Int32) (v2 : Int32) (v3 : Int32) (hS : xm_st b true p M)
  (h : ((¬ v1 = (-1 : Int32) → (vp_in v1 48 ∧ (vp_in v1 48 ∧ (((xm_gi M (b + 146) (Int32.toNatClampNeg v1)) ≤ v3 → ((¬ v2 = (-1 : Int32) → (((xm_gi M (b + 3 + (Int32.toNatClampNeg v1)) 0) = (4 : Int32) → (((xm_gi M (b + 146) (Int32.toNatClampNeg v1)) ≤ 0 → (xm_st b true p M → Q (some (.int (0 : Int32))) M)) ∧ (¬ (xm_gi M (b + 146) (Int32.toNatClampNeg v1)) ≤ 0 → (¬ (xm_gi M (b + 146) (Int32.toNatClampNeg v1)) = 0 ∧ xm_C l E y9_findFact rm9_findFact [.ref (b + 145), .ref (b + 149), .int v1, .int ((v3 - (xm_gi M (b + 146) (Int32.toNatClampNeg v1))) / (xm_gi M (b + 146) (Int32.toNatClampNeg v1)))] M (fun r M4 => ∃ r5 : Bool, r = some (.int (xz r5)) ∧ xm_st b true p M4 ∧ (((xz r5) = 0 → (xm_st b true p M4 → Q (some (.int (0 : Int32))) M4)) ∧ (¬ (xz r5) = 0 → (¬ (xm_gi M (b + 146) (Int32.toNatClampNeg v1)) = 0 ∧ xm_C l E y9_findFact rm9_findFact [.ref (b + 145), .ref (b + 150), .int v1, .int ((v3 - (xm_gi M (b + 146) (Int32.toNatClampNeg v1))) - (v3 - (xm_gi M (b + 146) (Int32.toNatClampNeg v1))) / (xm_gi M (b + 146) (Int32.toNatClampNeg v1)) * (xm_gi M (b + 146) (Int32.toNatClampNeg v1)))] M4 (fun r M7 => ∃ r8 : Bool, r = some (.int (xz r8)) ∧ xm_st b true p M7 ∧ (((xz r8) = 0 → (xm_st b true p M7 → Q (some (.int (0 : Int32))) M7)) ∧ (¬ (xz r8) = 0 → xm_C l E y7_becomeSum rm7_becomeSum [.ref (b + 148), .ref (b + 3 + (Int32.toNatClampNeg v1)), .ref (b + 149), .ref (b + 150)] M7 (fun r M9 => ∃ r10 : Bool, r = some (.int (xz r10)) ∧ xm_st b true p M9 ∧ (((xz r10) = 0 → (xm_st b true p M9 → Q (some (.int (0 : Int32))) M9)) ∧ (¬ (xz r10) = 0 → (xm_st b true p M9 → Q (some (.int (1 : Int32))) M9))))))))))))))) ∧ (¬ (xm_gi M (b + 3 + (Int32.toNatClampNeg v1)) 0) = (4 : Int32) → xm_C l E y2_jumpsBy rm2_jumpsBy [.ref (b + 3 + (Int32.toNatClampNeg v1)), .int v2] M (fun r M11 => ∃ r12 : Bool, r = some (.int (xz r12)) ∧ xm_st b true p M11 ∧ xm_C l E y7_becomeFurther rm7_becomeFurther [.ref (b + 148), .ref (b + 3 + (Int32.toNatClampNeg v1)), .int (xz r12), .int (v3 - (xm_gi M (b + 146) (Int32.toNatClampNeg v1)))] M11 (fun r M13 => ∃ r14 : Bool, r = some (.int (xz r14)) ∧ xm_st b true p M13 ∧ (xm_st b true p M13 → Q (some (.int (xz r14))) M13)))))) ∧ (v2 = (-1 : Int32) → (xm_st b true p M → Q (some (.int (0 : Int32))) M)))) ∧ (¬ (xm_gi M (b + 146) (Int32.toNatClampNeg v1)) ≤ v3 → xm_C l E y9_findFact rm9_findFact [.ref (b + 145), .ref (b + 148), .int v1, .int v3] M (fun r M15 => ∃ r16 : Bool, r = some (.int (xz r16)) ∧ xm_st b true p M15 ∧ (((xz r16) = 0 → (xm_st b true p M15 → Q (some (.int (0 : Int32))) M15)) ∧ (¬ (xz r16) = 0 → ((v2 = (-1 : Int32) → (xm_st b true p M15 → Q (some (.int (1 : Int32))) M15)) ∧ (¬ v2 = (-1 : Int32) → xm_C l E y7_carryOver rm7_carryOver [.ref (b + 148), .ref (b + 3 + (Int32.toNatClampNeg v1))] M15 (fun r M17 => ∃ r18 : Bool, r = some (.int (xz r18)) ∧ xm_st b true p M17 ∧ (((xz r18) = 0 → (xm_st b true p M17 → Q (some (.int (0 : Int32))) M17)) ∧ (¬ (xz r18) = 0 → (xm_st b true p M17 → Q (some (.int (1 : Int32))) M17)))))))))))))) ∧ (v1 = (-1 : Int32) → xm_C l E y7_becomeBeginning rm7_becomeBeginning [.ref (b + 148), .int v3, .int (xm_gi M (b + 1) 0)] M (fun r M19 => ∃ r20 : Bool, r = some (.int (xz r20)) ∧ xm_st b true p M19 ∧ (xm_st b true p M19 → Q (some (.int (xz r20))) M19))))) :
  xm_X l E y9_findStep rm9_findStep Q 0 [(0, .ref (b + 145)), (1, .int v1), (2, .int v2), (3, .int v3)] [] 0 0 M := by
  refine x_iload_n d9_findStep_0 1 rfl rfl ?_
  refine x_iconst d9_findStep_1 qi_n1 ?_
  refine x_icmp_ne d9_findStep_2 (t := 21) (by decide) (fun g => ?_) (fun g => ?_)
  · have h := h.1 g
    refine x_aload_n d9_findStep_21 0 rfl rfl ?_
    refine x_getR d9_findStep_22 fl9_9 (fun _ _ => rfl) (hS.1 _ _ (sh_145 b)) (hS.2.1 _ _ _ (pt_145_0 b)) ?_
    refine x_iload_n d9_findStep_25 1 rfl rfl ?_
    obtain ⟨g1, h⟩ := h
    refine x_iald d9_findStep_26 (hS.1 _ _ (sh_146 b)) g1 ?_
    refine x_istore d9_findStep_27 (by decide) (L' := [(4, .int (xm_gi M (b + 146) (Int32.toNatClampNeg v1))), (0, .ref (b + 145)), (1, .int v1), (2, .int v2), (3, .int v3)]) rfl ?_
    refine x_aload_n d9_findStep_29 1 rfl rfl ?_
    refine x_getR d9_findStep_30 fl9_31 (fun _ _ => rfl) (hS.1 _ _ (sh_145 b)) (hS.2.2.1 rfl).1 ?_
    refine x_getR d9_findStep_33 fl9_98 (fun _ _ => rfl) (hS.1 _ _ (sh_1 b)) (hS.2.1 _ _ _ (pt_1_1 b)) ?_
    refine x_iload_n d9_findStep_36 2 rfl rfl ?_
    obtain ⟨g2, h⟩ := h
    refine x_aald d9_findStep_37 (hS.1 _ _ (sh_2 b)) (by decide) rfl g2 (hS.2.1 _ _ _ (ptf_2 (vp_lt g2))) ?_
    refine x_astore d9_findStep_38 (by decide) (L' := [(5, .ref (b + 3 + (Int32.toNatClampNeg v1))), (4, .int (xm_gi M (b + 146) (Int32.toNatClampNeg v1))), (0, .ref (b + 145)), (1, .int v1), (2, .int v2), (3, .int v3)]) rfl ?_
    refine x_iload_n d9_findStep_40 5 rfl rfl ?_
    refine x_iload d9_findStep_41 1 rfl ?_
    refine x_icmp_ge d9_findStep_43 (t := 82) (by decide) (fun g => ?_) (fun g => ?_)
    · have h := h.1 g
      refine x_iload_n d9_findStep_82 4 rfl rfl ?_
      refine x_iconst d9_findStep_83 qi_n1 ?_
      refine x_icmp_ne d9_findStep_84 (t := 89) (by decide) (fun g => ?_) (fun g => ?_)
      · have h := h.1 g
        refine x_iload_n d9_findStep_89 5 rfl rfl ?_
        refine x_iload d9_findStep_90 1 rfl ?_
        refine x_isub d9_findStep_92 ?_
        refine x_istore d9_findStep_93 (by decide) (L' := [(6, .int (v3 - (xm_gi M (b + 146) (Int32.toNatClampNeg v1)))), (5, .ref (b + 3 + (Int32.toNatClampNeg v1))), (4, .int (xm_gi M (b + 146) (Int32.toNatClampNeg v1))), (0, .ref (b + 145)), (1, .int v1), (2, .int v2), (3, .int v3)]) rfl ?_
        refine x_aload d9_findStep_95 1 rfl ?_
        refine x_getI d9_findStep_97 fl9_160 (fun _ _ => rfl) (hS.1 _ _ (shf_2 (vp_lt g2))) ?_
        refine x_iconst d9_findStep_100 qi_4 ?_
        refine x_icmp_eq d9_findStep_101 (t := 122) (by decide) (fun g => ?_) (fun g => ?_)
        · have h := h.1 g
          refine x_iload d9_findStep_122 2 rfl ?_
          refine x_if_le d9_findStep_124 (t := 185) (by decide) (fun g => ?_) (fun g => ?_)
          · have h := h.1 g
            refine x_iconst d9_findStep_185 qi_0 ?_
            exact x_ret (r := (some (.int (0 : Int32)))) d9_findStep_186 (xm_rZ (Or.inl rfl)) rfl ⟨Nat.le_refl _, Nat.le_refl _⟩ (h hS)
          · have h := h.2 g
            refine x_aload_n d9_findStep_127 3 rfl rfl ?_
            refine x_aload_n d9_findStep_128 3 rfl rfl ?_
            refine x_getR d9_findStep_129 fl9_25 (fun _ _ => rfl) (hS.1 _ _ (sh_145 b)) (hS.2.1 _ _ _ (pt_145_3 b)) ?_
            refine x_iload_n d9_findStep_132 4 rfl rfl ?_
            refine x_iload d9_findStep_133 0 rfl ?_
            refine x_iload d9_findStep_135 2 rfl ?_
            obtain ⟨g3, h⟩ := h
            refine x_idiv d9_findStep_137 g3 ?_
            refine x_cVZ (Z := y9_findFact) (S := rm9_findFact) (As := [.ref (b + 149), .int v1, .int ((v3 - (xm_gi M (b + 146) (Int32.toNatClampNeg v1))) / (xm_gi M (b + 146) (Int32.toNatClampNeg v1)))]) (rest := []) d9_findStep_138 ml9_152 k9_findFact rfl (b := (b + 145)) (hS.1 _ _ (sh_145 b)) rfl rfl (Nat.le_of_ble_eq_true rfl) ⟨⟨by decide, by decide⟩, by decide, by decide⟩ ⟨rfl, rfl⟩ h (fun r5 M4 h => ?_)
            obtain ⟨hS, h⟩ := h
            refine x_if_eq d9_findStep_141 (t := 185) (by decide) (fun g => ?_) (fun g => ?_)
            · have h := h.1 g
              refine x_iconst d9_findStep_185 qi_0 ?_
              exact x_ret (r := (some (.int (0 : Int32)))) d9_findStep_186 (xm_rZ (Or.inl rfl)) rfl ⟨Nat.le_refl _, Nat.le_refl _⟩ (h hS)
            · have h := h.2 g
              refine x_aload_n d9_findStep_144 3 rfl rfl ?_
              refine x_aload_n d9_findStep_145 3 rfl rfl ?_
              refine x_getR d9_findStep_146 fl9_28 (fun _ _ => rfl) (hS.1 _ _ (sh_145 b)) (hS.2.1 _ _ _ (pt_145_4 b)) ?_
              refine x_iload_n d9_findStep_149 4 rfl rfl ?_
              refine x_iload d9_findStep_150 0 rfl ?_
              refine x_iload d9_findStep_152 2 rfl ?_
              obtain ⟨g6, h⟩ := h
              refine x_irem d9_findStep_154 g6 ?_
              refine x_cVZ (Z := y9_findFact) (S := rm9_findFact) (As := [.ref (b + 150), .int v1, .int ((v3 - (xm_gi M (b + 146) (Int32.toNatClampNeg v1))) - (v3 - (xm_gi M (b + 146) (Int32.toNatClampNeg v1))) / (xm_gi M (b + 146) (Int32.toNatClampNeg v1)) * (xm_gi M (b + 146) (Int32.toNatClampNeg v1)))]) (rest := []) d9_findStep_155 ml9_152 k9_findFact rfl (b := (b + 145)) (hS.1 _ _ (sh_145 b)) rfl rfl (Nat.le_of_ble_eq_true rfl) ⟨⟨by decide, by decide⟩, by decide, by decide⟩ ⟨rfl, rfl⟩ h (fun r8 M7 h => ?_)
              obtain ⟨hS, h⟩ := h
              refine x_if_eq d9_findStep_158 (t := 185) (by decide) (fun g => ?_) (fun g => ?_)
              · have h := h.1 g
                refine x_iconst d9_findStep_185 qi_0 ?_
                exact x_ret (r := (some (.int (0 : Int32)))) d9_findStep_186 (xm_rZ (Or.inl rfl)) rfl ⟨Nat.le_refl _, Nat.le_refl _⟩ (h hS)
              · have h := h.2 g
                refine x_aload_n d9_findStep_161 3 rfl rfl ?_
                refine x_getR d9_findStep_162 fl9_21 (fun _ _ => rfl) (hS.1 _ _ (sh_145 b)) (hS.2.1 _ _ _ (pt_145_2 b)) ?_
                refine x_aload d9_findStep_165 1 rfl ?_
                refine x_aload_n d9_findStep_167 3 rfl rfl ?_
                refine x_getR d9_findStep_168 fl9_25 (fun _ _ => rfl) (hS.1 _ _ (sh_145 b)) (hS.2.1 _ _ _ (pt_145_3 b)) ?_
                refine x_aload_n d9_findStep_171 3 rfl rfl ?_
                refine x_getR d9_findStep_172 fl9_28 (fun _ _ => rfl) (hS.1 _ _ (sh_145 b)) (hS.2.1 _ _ _ (pt_145_4 b)) ?_
                refine x_cVZ (Z := y7_becomeSum) (S := rm7_becomeSum) (As := [.ref (b + 3 + (Int32.toNatClampNeg v1)), .ref (b + 149), .ref (b + 150)]) (rest := []) d9_findStep_175 ml9_170 k7_becomeSum rfl (b := (b + 148)) (hS.1 _ _ (sh_148 b)) rfl rfl (Nat.le_of_ble_eq_true rfl) ⟨⟨by decide, by decide⟩, by decide, by decide⟩ ⟨rfl, rfl⟩ h (fun r10 M9 h => ?_)
                obtain ⟨hS, h⟩ := h
                refine x_if_eq d9_findStep_178 (t := 185) (by decide) (fun g => ?_) (fun g => ?_)
                · have h := h.1 g
                  refine x_iconst d9_findStep_185 qi_0 ?_
                  exact x_ret (r := (some (.int (0 : Int32)))) d9_findStep_186 (xm_rZ (Or.inl rfl)) rfl ⟨Nat.le_refl _, Nat.le_refl _⟩ (h hS)
                · have h := h.2 g
                  refine x_iconst d9_findStep_181 qi_1 ?_
                  refine x_goto d9_findStep_182 (t := 186) (by decide) ?_
                  exact x_ret (r := (some (.int (1 : Int32)))) d9_findStep_186 (xm_rZ (Or.inr rfl)) rfl ⟨Nat.le_refl _, Nat.le_refl _⟩ (h hS)
        · have h := h.2 g
          refine x_aload_n d9_findStep_104 3 rfl rfl ?_
          refine x_getR d9_findStep_105 fl9_21 (fun _ _ => rfl) (hS.1 _ _ (sh_145 b)) (hS.2.1 _ _ _ (pt_145_2 b)) ?_
          refine x_aload d9_findStep_108 1 rfl ?_
          refine x_aload d9_findStep_110 1 rfl ?_
          refine x_iload_n d9_findStep_112 5 rfl rfl ?_
          refine x_cVZ (Z := y2_jumpsBy) (S := rm2_jumpsBy) (As := [.int v2]) (rest := [.ref (b + 3 + (Int32.toNatClampNeg v1)), .ref (b + 148)]) d9_findStep_113 ml9_163 k2_jumpsBy rfl (b := (b + 3 + (Int32.toNatClampNeg v1))) (hS.1 _ _ (shf_2 (vp_lt g2))) rfl rfl (Nat.le_of_ble_eq_true rfl) ⟨⟨by decide, by decide⟩, by decide, by decide⟩ ⟨rfl, rfl⟩ h (fun r12 M11 h => ?_)
          obtain ⟨hS, h⟩ := h
          refine x_iload d9_findStep_116 0 rfl ?_
          refine x_cVZ (Z := y7_becomeFurther) (S := rm7_becomeFurther) (As := [.ref (b + 3 + (Int32.toNatClampNeg v1)), .int (xz r12), .int (v3 - (xm_gi M (b + 146) (Int32.toNatClampNeg v1)))]) (rest := []) d9_findStep_118 ml9_166 k7_becomeFurther rfl (b := (b + 148)) (hS.1 _ _ (sh_148 b)) rfl rfl (Nat.le_of_ble_eq_true rfl) ⟨⟨by decide, by decide⟩, by decide, by decide⟩ ⟨rfl, rfl⟩ h (fun r14 M13 h => ?_)
          obtain ⟨hS, h⟩ := h
          exact x_ret (r := (some (.int (xz r14)))) d9_findStep_121 (xm_rZ (xz_01 _)) rfl ⟨Nat.le_refl _, Nat.le_refl _⟩ (h hS)
      · have h := h.2 g
        refine x_iconst d9_findStep_87 qi_0 ?_
        exact x_ret (r := (some (.int (0 : Int32)))) d9_findStep_88 (xm_rZ (Or.inl rfl)) rfl ⟨Nat.le_refl _, Nat.le_refl _⟩ (h hS)
    · have h := h.2 g
      refine x_aload_n d9_findStep_46 2 rfl rfl ?_
      refine x_aload_n d9_findStep_47 2 rfl rfl ?_
      refine x_getR d9_findStep_48 fl9_21 (fun _ _ => rfl) (hS.1 _ _ (sh_145 b)) (hS.2.1 _ _ _ (pt_145_2 b)) ?_
      refine x_iload_n d9_findStep_51 3 rfl rfl ?_
      refine x_iload_n d9_findStep_52 5 rfl rfl ?_
      refine x_cVZ (Z := y9_findFact) (S := rm9_findFact) (As := [.ref (b + 148), .int v1, .int v3]) (rest := []) d9_findStep_53 ml9_152 k9_findFact rfl (b := (b + 145)) (hS.1 _ _ (sh_145 b)) rfl rfl (Nat.le_of_ble_eq_true rfl) ⟨⟨by decide, by decide⟩, by decide, by decide⟩ ⟨rfl, rfl⟩ h (fun r16 M15 h => ?_)
      obtain ⟨hS, h⟩ := h
      refine x_if_eq d9_findStep_56 (t := 80) (by decide) (fun g => ?_) (fun g => ?_)
      · have h := h.1 g
        refine x_iconst d9_findStep_80 qi_0 ?_
        exact x_ret (r := (some (.int (0 : Int32)))) d9_findStep_81 (xm_rZ (Or.inl rfl)) rfl ⟨Nat.le_refl _, Nat.le_refl _⟩ (h hS)
      · have h := h.2 g
        refine x_iload_n d9_findStep_59 4 rfl rfl ?_
        refine x_iconst d9_findStep_60 qi_n1 ?_
        refine x_icmp_eq d9_findStep_61 (t := 76) (by decide) (fun g => ?_) (fun g => ?_)
        · have h := h.1 g
          refine x_iconst d9_findStep_76 qi_1 ?_
          refine x_goto d9_findStep_77 (t := 81) (by decide) ?_
          exact x_ret (r := (some (.int (1 : Int32)))) d9_findStep_81 (xm_rZ (Or.inr rfl)) rfl ⟨Nat.le_refl _, Nat.le_refl _⟩ (h hS)
        · have h := h.2 g
          refine x_aload_n d9_findStep_64 2 rfl rfl ?_
          refine x_getR d9_findStep_65 fl9_21 (fun _ _ => rfl) (hS.1 _ _ (sh_145 b)) (hS.2.1 _ _ _ (pt_145_2 b)) ?_
          refine x_aload d9_findStep_68 0 rfl ?_
          refine x_cVZ (Z := y7_carryOver) (S := rm7_carryOver) (As := [.ref (b + 3 + (Int32.toNatClampNeg v1))]) (rest := []) d9_findStep_70 ml9_156 k7_carryOver rfl (b := (b + 148)) (hS.1 _ _ (sh_148 b)) rfl rfl (Nat.le_of_ble_eq_true rfl) ⟨⟨by decide, by decide⟩, by decide, by decide⟩ ⟨rfl, rfl⟩ h (fun r18 M17 h => ?_)
          obtain ⟨hS, h⟩ := h
          refine x_if_eq d9_findStep_73 (t := 80) (by decide) (fun g => ?_) (fun g => ?_)
          · have h := h.1 g
            refine x_iconst d9_findStep_80 qi_0 ?_
            exact x_ret (r := (some (.int (0 : Int32)))) d9_findStep_81 (xm_rZ (Or.inl rfl)) rfl ⟨Nat.le_refl _, Nat.le_refl _⟩ (h hS)
          · have h := h.2 g
            refine x_iconst d9_findStep_76 qi_1 ?_
            refine x_goto d9_findStep_77 (t := 81) (by decide) ?_
            exact x_ret (r := (some (.int (1 : Int32)))) d9_findStep_81 (xm_rZ (Or.inr rfl)) rfl ⟨Nat.le_refl _, Nat.le_refl _⟩ (h hS)
  · have h := h.2 g
    refine x_aload_n d9_findStep_5 0 rfl rfl ?_
    refine x_getR d9_findStep_6 fl9_21 (fun _ _ => rfl) (hS.1 _ _ (sh_145 b)) (hS.2.1 _ _ _ (pt_145_2 b)) ?_
    refine x_iload_n d9_findStep_9 3 rfl rfl ?_
    refine x_aload_n d9_findStep_10 0 rfl rfl ?_
    refine x_getR d9_findStep_11 fl9_31 (fun _ _ => rfl) (hS.1 _ _ (sh_145 b)) (hS.2.2.1 rfl).1 ?_
    refine x_getI d9_findStep_14 fl9_146 (fun _ _ => rfl) (hS.1 _ _ (sh_1 b)) ?_
    refine x_cVZ (Z := y7_becomeBeginning) (S := rm7_becomeBeginning) (As := [.int v3, .int (xm_gi M (b + 1) 0)]) (rest := []) d9_findStep_17 ml9_149 k7_becomeBeginning rfl (b := (b + 148)) (hS.1 _ _ (sh_148 b)) rfl rfl (Nat.le_of_ble_eq_true rfl) ⟨⟨by decide, by decide⟩, by decide, by decide⟩ ⟨rfl, rfl⟩ h (fun r20 M19 h => ?_)
    obtain ⟨hS, h⟩ := h
    exact x_ret (r := (some (.int (xz r20)))) d9_findStep_20 (xm_rZ (xz_01 _)) rfl ⟨Nat.le_refl _, Nat.le_refl _⟩ (h hS)

set_option maxRecDepth 20000 in
theorem t9_findFact_0 {l : Launch} {E : xm_E} {b : Nat} {c p : Bool} {Q : Option Value → xm_M → Prop} (M : xm_M) (a1 : Nat) (v2 : Int32) (v3 : Int32) (ha1 : xS b a1 = some (.inr 7)) (hS : xm_st b true p M)
  (h : ((v3 < 0 → (xm_st b true p M → Q (some (.int (0 : Int32))) M)) ∧ (¬ v3 < 0 → (vp_in v2 48 ∧ ((v3 < (xm_gi M (b + 146) (Int32.toNatClampNeg v2)) → (vp_in v2 48 ∧ xm_C l E y3_get rm3_get [.ref (b + 51), .int ((xm_gi M (b + 147) (Int32.toNatClampNeg v2)) + ((3 : Int32) * v3))] M (fun r M3 => ∃ r4 : Int32, r = some (.int r4) ∧ xm_st b true p M3 ∧ xm_C l E y3_get rm3_get [.ref (b + 51), .int (((xm_gi M (b + 147) (Int32.toNatClampNeg v2)) + ((3 : Int32) * v3)) + (1 : Int32))] M3 (fun r M5 => ∃ r6 : Int32, r = some (.int r6) ∧ xm_st b true p M5 ∧ xm_C l E y3_get rm3_get [.ref (b + 51), .int (((xm_gi M (b + 147) (Int32.toNatClampNeg v2)) + ((3 : Int32) * v3)) + (2 : Int32))] M5 (fun r M7 => ∃ r8 : Int32, r = some (.int r8) ∧ xm_st b true p M7 ∧ xm_C l E y7_become rm7_become [.ref a1, .int r4, .int r6, .long (Int32.toInt64 r8)] M7 (fun r M9 => ∃ r10 : Bool, r = some (.int (xz r10)) ∧ xm_st b true p M9 ∧ (xm_st b true p M9 → Q (some (.int (xz r10))) M9))))))) ∧ (¬ v3 < (xm_gi M (b + 146) (Int32.toNatClampNeg v2)) → (xm_st b true p M → Q (some (.int (0 : Int32))) M))))))) :
  xm_X l E y9_findFact rm9_findFact Q 0 [(0, .ref (b + 145)), (1, .ref a1), (2, .int v2), (3, .int v3)] [] 0 0 M := by
  refine x_iload_n d9_findFact_0 3 rfl rfl ?_
  refine x_if_lt d9_findFact_1 (t := 14) (by decide) (fun g => ?_) (fun g => ?_)
  · have h := h.1 g
    refine x_iconst d9_findFact_14 qi_0 ?_
    exact x_ret (r := (some (.int (0 : Int32)))) d9_findFact_15 (xm_rZ (Or.inl rfl)) rfl ⟨Nat.le_refl _, Nat.le_refl _⟩ (h hS)
  · have h := h.2 g
    refine x_iload_n d9_findFact_4 3 rfl rfl ?_
    refine x_aload_n d9_findFact_5 0 rfl rfl ?_
    refine x_getR d9_findFact_6 fl9_9 (fun _ _ => rfl) (hS.1 _ _ (sh_145 b)) (hS.2.1 _ _ _ (pt_145_0 b)) ?_
    refine x_iload_n d9_findFact_9 2 rfl rfl ?_
    obtain ⟨g1, h⟩ := h
    refine x_iald d9_findFact_10 (hS.1 _ _ (sh_146 b)) g1 ?_
    refine x_icmp_lt d9_findFact_11 (t := 16) (by decide) (fun g => ?_) (fun g => ?_)
    · have h := h.1 g
      refine x_aload_n d9_findFact_16 0 rfl rfl ?_
      refine x_getR d9_findFact_17 fl9_15 (fun _ _ => rfl) (hS.1 _ _ (sh_145 b)) (hS.2.1 _ _ _ (pt_145_1 b)) ?_
      refine x_iload_n d9_findFact_20 2 rfl rfl ?_
      obtain ⟨g2, h⟩ := h
      refine x_iald d9_findFact_21 (hS.1 _ _ (sh_147 b)) g2 ?_
      refine x_iconst d9_findFact_22 qi_3 ?_
      refine x_iload_n d9_findFact_23 3 rfl rfl ?_
      refine x_imul d9_findFact_24 ?_
      refine x_iadd d9_findFact_25 ?_
      refine x_istore d9_findFact_26 (by decide) (L' := [(4, .int ((xm_gi M (b + 147) (Int32.toNatClampNeg v2)) + ((3 : Int32) * v3))), (0, .ref (b + 145)), (1, .ref a1), (2, .int v2), (3, .int v3)]) rfl ?_
      refine x_aload_n d9_findFact_28 2 rfl rfl ?_
      refine x_aload_n d9_findFact_29 1 rfl rfl ?_
      refine x_getR d9_findFact_30 fl9_35 (fun _ _ => rfl) (hS.1 _ _ (sh_145 b)) (hS.2.2.1 rfl).2 ?_
      refine x_iload d9_findFact_33 0 rfl ?_
      refine x_cVI (Z := y3_get) (S := rm3_get) (As := [.int ((xm_gi M (b + 147) (Int32.toNatClampNeg v2)) + ((3 : Int32) * v3))]) (rest := [.ref a1]) d9_findFact_35 ml9_82 k3_get rfl (b := (b + 51)) (hS.1 _ _ (sh_51 b)) rfl rfl (Nat.le_of_ble_eq_true rfl) ⟨⟨by decide, by decide⟩, by decide, by decide⟩ ⟨rfl, rfl⟩ h (fun r4 M3 h => ?_)
      obtain ⟨hS, h⟩ := h
      refine x_aload_n d9_findFact_38 1 rfl rfl ?_
      refine x_getR d9_findFact_39 fl9_35 (fun _ _ => rfl) (hS.1 _ _ (sh_145 b)) (hS.2.2.1 rfl).2 ?_
      refine x_iload d9_findFact_42 0 rfl ?_
      refine x_iconst d9_findFact_44 qi_1 ?_
      refine x_iadd d9_findFact_45 ?_
      refine x_cVI (Z := y3_get) (S := rm3_get) (As := [.int (((xm_gi M (b + 147) (Int32.toNatClampNeg v2)) + ((3 : Int32) * v3)) + (1 : Int32))]) (rest := [.int r4, .ref a1]) d9_findFact_46 ml9_82 k3_get rfl (b := (b + 51)) (hS.1 _ _ (sh_51 b)) rfl rfl (Nat.le_of_ble_eq_true rfl) ⟨⟨by decide, by decide⟩, by decide, by decide⟩ ⟨rfl, rfl⟩ h (fun r6 M5 h => ?_)
      obtain ⟨hS, h⟩ := h
      refine x_aload_n d9_findFact_49 1 rfl rfl ?_
      refine x_getR d9_findFact_50 fl9_35 (fun _ _ => rfl) (hS.1 _ _ (sh_145 b)) (hS.2.2.1 rfl).2 ?_
      refine x_iload d9_findFact_53 0 rfl ?_
      refine x_iconst d9_findFact_55 qi_2 ?_
      refine x_iadd d9_findFact_56 ?_
      refine x_cVI (Z := y3_get) (S := rm3_get) (As := [.int (((xm_gi M (b + 147) (Int32.toNatClampNeg v2)) + ((3 : Int32) * v3)) + (2 : Int32))]) (rest := [.int r6, .int r4, .ref a1]) d9_findFact_57 ml9_82 k3_get rfl (b := (b + 51)) (hS.1 _ _ (sh_51 b)) rfl rfl (Nat.le_of_ble_eq_true rfl) ⟨⟨by decide, by decide⟩, by decide, by decide⟩ ⟨rfl, rfl⟩ h (fun r8 M7 h => ?_)
      obtain ⟨hS, h⟩ := h
      refine x_i2l d9_findFact_60 ?_
      refine x_cVZ (Z := y7_become) (S := rm7_become) (As := [.int r4, .int r6, .long (Int32.toInt64 r8)]) (rest := []) d9_findFact_61 ml9_174 k7_become rfl (b := a1) (hS.1 _ _ ha1) rfl rfl (Nat.le_of_ble_eq_true rfl) ⟨⟨by decide, by decide⟩, by decide, by decide⟩ ⟨rfl, rfl⟩ h (fun r10 M9 h => ?_)
      obtain ⟨hS, h⟩ := h
      exact x_ret (r := (some (.int (xz r10)))) d9_findFact_64 (xm_rZ (xz_01 _)) rfl ⟨Nat.le_refl _, Nat.le_refl _⟩ (h hS)
    · have h := h.2 g
      refine x_iconst d9_findFact_14 qi_0 ?_
      exact x_ret (r := (some (.int (0 : Int32)))) d9_findFact_15 (xm_rZ (Or.inl rfl)) rfl ⟨Nat.le_refl _, Nat.le_refl _⟩ (h hS)

set_option maxRecDepth 20000 in
theorem t9_readAccess_0 {l : Launch} {E : xm_E} {b : Nat} {c p : Bool} {Q : Option Value → xm_M → Prop} (M : xm_M) (v1 : Int32) (hS : xm_st b true p M)
  (h : (vp_in v1 48 ∧ xm_C l E y2_isAccess rm2_isAccess [.ref (b + 3 + (Int32.toNatClampNeg v1))] M (fun r M2 => ∃ r3 : Bool, r = some (.int (xz r3)) ∧ xm_st b true p M2 ∧ ((¬ (xz r3) = 0 → xm_C l E y9_readReason rm9_readReason [.ref (b + 145), .int v1, .int (-1 : Int32), .int (0 : Int32), .int ((1 : Int32) + (xm_gi M2 (b + 3 + (Int32.toNatClampNeg v1)) 2)), .long (Int32.toInt64 (xm_gi M2 (b + 3 + (Int32.toNatClampNeg v1)) 3))] M2 (fun r M4 => ∃ r5 : Bool, r = some (.int (xz r5)) ∧ xm_st b true p M4 ∧ (((xz r5) = 0 → (xm_st b true p M4 → Q (some (.int (0 : Int32))) M4)) ∧ (¬ (xz r5) = 0 → xm_C l E y2_accessTop rm2_accessTop [.ref (b + 3 + (Int32.toNatClampNeg v1))] M4 (fun r M6 => ∃ r7 : Int32, r = some (.int r7) ∧ xm_st b true p M6 ∧ xm_C l E y2_accessMost rm2_accessMost [.ref (b + 3 + (Int32.toNatClampNeg v1))] M6 (fun r M8 => ∃ r9 : Int64, r = some (.long r9) ∧ xm_st b true p M8 ∧ xm_C l E y9_readReason rm9_readReason [.ref (b + 145), .int v1, .int (-1 : Int32), .int ((1 : Int32) + (xm_gi M2 (b + 3 + (Int32.toNatClampNeg v1)) 2)), .int r7, .long r9] M8 (fun r M10 => ∃ r11 : Bool, r = some (.int (xz r11)) ∧ xm_st b true p M10 ∧ (((xz r11) = 0 → (xm_st b true p M10 → Q (some (.int (0 : Int32))) M10)) ∧ (¬ (xz r11) = 0 → (xm_st b true p M10 → Q (some (.int (1 : Int32))) M10)))))))))) ∧ ((xz r3) = 0 → (xm_st b true p M2 → Q (some (.int (1 : Int32))) M2)))))) :
  xm_X l E y9_readAccess rm9_readAccess Q 0 [(0, .ref (b + 145)), (1, .int v1)] [] 0 0 M := by
  refine x_aload_n d9_readAccess_0 0 rfl rfl ?_
  refine x_getR d9_readAccess_1 fl9_31 (fun _ _ => rfl) (hS.1 _ _ (sh_145 b)) (hS.2.2.1 rfl).1 ?_
  refine x_getR d9_readAccess_4 fl9_98 (fun _ _ => rfl) (hS.1 _ _ (sh_1 b)) (hS.2.1 _ _ _ (pt_1_1 b)) ?_
  refine x_iload_n d9_readAccess_7 1 rfl rfl ?_
  obtain ⟨g1, h⟩ := h
  refine x_aald d9_readAccess_8 (hS.1 _ _ (sh_2 b)) (by decide) rfl g1 (hS.2.1 _ _ _ (ptf_2 (vp_lt g1))) ?_
  refine x_astore_n d9_readAccess_9 rfl (by decide) (L' := [(2, .ref (b + 3 + (Int32.toNatClampNeg v1))), (0, .ref (b + 145)), (1, .int v1)]) rfl ?_
  refine x_aload_n d9_readAccess_10 0 rfl rfl ?_
  refine x_cVZ (Z := y2_isAccess) (S := rm2_isAccess) (As := []) (rest := []) d9_readAccess_11 ml9_102 k2_isAccess rfl (b := (b + 3 + (Int32.toNatClampNeg v1))) (hS.1 _ _ (shf_2 (vp_lt g1))) rfl rfl (Nat.le_of_ble_eq_true rfl) ⟨⟨by decide, by decide⟩, by decide, by decide⟩ ⟨rfl, rfl⟩ h (fun r3 M2 h => ?_)
  obtain ⟨hS, h⟩ := h
  refine x_if_ne d9_readAccess_14 (t := 19) (by decide) (fun g => ?_) (fun g => ?_)
  · have h := h.1 g
    refine x_iconst d9_readAccess_19 qi_1 ?_
    refine x_aload_n d9_readAccess_20 0 rfl rfl ?_
    refine x_getI d9_readAccess_21 fl9_107 (fun _ _ => rfl) (hS.1 _ _ (shf_2 (vp_lt g1))) ?_
    refine x_iadd d9_readAccess_24 ?_
    refine x_istore_n d9_readAccess_25 rfl (by decide) (L' := [(3, .int ((1 : Int32) + (xm_gi M2 (b + 3 + (Int32.toNatClampNeg v1)) 2))), (2, .ref (b + 3 + (Int32.toNatClampNeg v1))), (0, .ref (b + 145)), (1, .int v1)]) rfl ?_
    refine x_aload_n d9_readAccess_26 2 rfl rfl ?_
    refine x_iload_n d9_readAccess_27 3 rfl rfl ?_
    refine x_iconst d9_readAccess_28 qi_n1 ?_
    refine x_iconst d9_readAccess_29 qi_0 ?_
    refine x_iload_n d9_readAccess_30 0 rfl rfl ?_
    refine x_aload_n d9_readAccess_31 1 rfl rfl ?_
    refine x_getI d9_readAccess_32 fl9_110 (fun _ _ => rfl) (hS.1 _ _ (shf_2 (vp_lt g1))) ?_
    refine x_i2l d9_readAccess_35 ?_
    refine x_cVZ (Z := y9_readReason) (S := rm9_readReason) (As := [.int v1, .int (-1 : Int32), .int (0 : Int32), .int ((1 : Int32) + (xm_gi M2 (b + 3 + (Int32.toNatClampNeg v1)) 2)), .long (Int32.toInt64 (xm_gi M2 (b + 3 + (Int32.toNatClampNeg v1)) 3))]) (rest := []) d9_readAccess_36 ml9_113 k9_readReason rfl (b := (b + 145)) (hS.1 _ _ (sh_145 b)) rfl rfl (Nat.le_of_ble_eq_true rfl) ⟨⟨by decide, by decide⟩, by decide, by decide⟩ ⟨rfl, rfl⟩ h (fun r5 M4 h => ?_)
    obtain ⟨hS, h⟩ := h
    refine x_if_eq d9_readAccess_39 (t := 64) (by decide) (fun g => ?_) (fun g => ?_)
    · have h := h.1 g
      refine x_iconst d9_readAccess_64 qi_0 ?_
      exact x_ret (r := (some (.int (0 : Int32)))) d9_readAccess_65 (xm_rZ (Or.inl rfl)) rfl ⟨Nat.le_refl _, Nat.le_refl _⟩ (h hS)
    · have h := h.2 g
      refine x_aload_n d9_readAccess_42 2 rfl rfl ?_
      refine x_iload_n d9_readAccess_43 3 rfl rfl ?_
      refine x_iconst d9_readAccess_44 qi_n1 ?_
      refine x_iload_n d9_readAccess_45 0 rfl rfl ?_
      refine x_aload_n d9_readAccess_46 1 rfl rfl ?_
      refine x_cVI (Z := y2_accessTop) (S := rm2_accessTop) (As := []) (rest := [.int ((1 : Int32) + (xm_gi M2 (b + 3 + (Int32.toNatClampNeg v1)) 2)), .int (-1 : Int32), .int v1, .ref (b + 145)]) d9_readAccess_47 ml9_117 k2_accessTop rfl (b := (b + 3 + (Int32.toNatClampNeg v1))) (hS.1 _ _ (shf_2 (vp_lt g1))) rfl rfl (Nat.le_of_ble_eq_true rfl) ⟨⟨by decide, by decide⟩, by decide, by decide⟩ ⟨rfl, rfl⟩ h (fun r7 M6 h => ?_)
      obtain ⟨hS, h⟩ := h
      refine x_aload_n d9_readAccess_50 1 rfl rfl ?_
      refine x_cVJ (Z := y2_accessMost) (S := rm2_accessMost) (As := []) (rest := [.int r7, .int ((1 : Int32) + (xm_gi M2 (b + 3 + (Int32.toNatClampNeg v1)) 2)), .int (-1 : Int32), .int v1, .ref (b + 145)]) d9_readAccess_51 ml9_120 k2_accessMost rfl (b := (b + 3 + (Int32.toNatClampNeg v1))) (hS.1 _ _ (shf_2 (vp_lt g1))) rfl rfl (Nat.le_of_ble_eq_true rfl) ⟨⟨by decide, by decide⟩, by decide, by decide⟩ ⟨rfl, rfl⟩ h (fun r9 M8 h => ?_)
      obtain ⟨hS, h⟩ := h
      refine x_cVZ (Z := y9_readReason) (S := rm9_readReason) (As := [.int v1, .int (-1 : Int32), .int ((1 : Int32) + (xm_gi M2 (b + 3 + (Int32.toNatClampNeg v1)) 2)), .int r7, .long r9]) (rest := []) d9_readAccess_54 ml9_113 k9_readReason rfl (b := (b + 145)) (hS.1 _ _ (sh_145 b)) rfl rfl (Nat.le_of_ble_eq_true rfl) ⟨⟨by decide, by decide⟩, by decide, by decide⟩ ⟨rfl, rfl⟩ h (fun r11 M10 h => ?_)
      obtain ⟨hS, h⟩ := h
      refine x_if_eq d9_readAccess_57 (t := 64) (by decide) (fun g => ?_) (fun g => ?_)
      · have h := h.1 g
        refine x_iconst d9_readAccess_64 qi_0 ?_
        exact x_ret (r := (some (.int (0 : Int32)))) d9_readAccess_65 (xm_rZ (Or.inl rfl)) rfl ⟨Nat.le_refl _, Nat.le_refl _⟩ (h hS)
      · have h := h.2 g
        refine x_iconst d9_readAccess_60 qi_1 ?_
        refine x_goto d9_readAccess_61 (t := 65) (by decide) ?_
        exact x_ret (r := (some (.int (1 : Int32)))) d9_readAccess_65 (xm_rZ (Or.inr rfl)) rfl ⟨Nat.le_refl _, Nat.le_refl _⟩ (h hS)
  · have h := h.2 g
    refine x_iconst d9_readAccess_17 qi_1 ?_
    exact x_ret (r := (some (.int (1 : Int32)))) d9_readAccess_18 (xm_rZ (Or.inr rfl)) rfl ⟨Nat.le_refl _, Nat.le_refl _⟩ (h hS)

set_option maxRecDepth 20000 in
theorem t9_readEdges_0 {l : Launch} {E : xm_E} {b : Nat} {c p : Bool} {Q : Option Value → xm_M → Prop} (M : xm_M) (v1 : Int32) (hS : xm_st b true p M)
  (h : (vp_in v1 48 ∧ (xm_st b true p M → xm_X l E y9_readEdges rm9_readEdges Q 12 [(0, .ref (b + 145)), (1, .int v1), (2, .ref (b + 3 + (Int32.toNatClampNeg v1))), (3, .int (0 : Int32))] [] 0 0 M))) :
  xm_X l E y9_readEdges rm9_readEdges Q 0 [(0, .ref (b + 145)), (1, .int v1)] [] 0 0 M := by
  refine x_aload_n d9_readEdges_0 0 rfl rfl ?_
  refine x_getR d9_readEdges_1 fl9_31 (fun _ _ => rfl) (hS.1 _ _ (sh_145 b)) (hS.2.2.1 rfl).1 ?_
  refine x_getR d9_readEdges_4 fl9_98 (fun _ _ => rfl) (hS.1 _ _ (sh_1 b)) (hS.2.1 _ _ _ (pt_1_1 b)) ?_
  refine x_iload_n d9_readEdges_7 1 rfl rfl ?_
  obtain ⟨g1, h⟩ := h
  refine x_aald d9_readEdges_8 (hS.1 _ _ (sh_2 b)) (by decide) rfl g1 (hS.2.1 _ _ _ (ptf_2 (vp_lt g1))) ?_
  refine x_astore_n d9_readEdges_9 rfl (by decide) (L' := [(2, .ref (b + 3 + (Int32.toNatClampNeg v1))), (0, .ref (b + 145)), (1, .int v1)]) rfl ?_
  refine x_iconst d9_readEdges_10 qi_0 ?_
  refine x_istore_n d9_readEdges_11 rfl (by decide) (L' := [(3, .int (0 : Int32)), (2, .ref (b + 3 + (Int32.toNatClampNeg v1))), (0, .ref (b + 145)), (1, .int v1)]) rfl ?_
  exact xm_X.sub [2, 3, 1, 0] rfl (h hS)
set_option maxRecDepth 20000 in
theorem t9_readEdges_12 {l : Launch} {E : xm_E} {b : Nat} {c p : Bool} {Q : Option Value → xm_M → Prop} (M : xm_M) (v1 : Int32) (a2 : Nat) (v3 : Int32) (ha2 : xS b a2 = some (.inr 2)) (hS : xm_st b true p M)
  (h : xm_C l E y2_edgeCount rm2_edgeCount [.ref a2] M (fun r M1 => ∃ r2 : Int32, r = some (.int r2) ∧ xm_st b true p M1 ∧ ((r2 ≤ v3 → (xm_st b true p M1 → Q (some (.int (1 : Int32))) M1)) ∧ (¬ r2 ≤ v3 → xm_C l E y9_readWithin rm9_readWithin [.ref (b + 145), .int (0 : Int32), .int (1 : Int32)] M1 (fun r M3 => ∃ r4 : Bool, r = some (.int (xz r4)) ∧ xm_st b true p M3 ∧ ((¬ (xz r4) = 0 → xm_C l E y2_edgeEnd rm2_edgeEnd [.ref a2, .int v1, .int v3] M3 (fun r M5 => ∃ r6 : Int32, r = some (.int r6) ∧ xm_st b true p M5 ∧ ((¬ (xm_gi M5 (b + 145) 8) = 0 → ((¬ (xm_gi M5 (b + 145) 8) = 0 → xm_C l E y9_readWithin rm9_readWithin [.ref (b + 145), .int (0 : Int32), .int (9 : Int32)] M5 (fun r M7 => ∃ r8 : Bool, r = some (.int (xz r8)) ∧ xm_st b true p M7 ∧ (((xz r8) = 0 → (xm_st b true p M7 → Q (some (.int (0 : Int32))) M7)) ∧ (¬ (xz r8) = 0 → xm_C l E y9_readReason rm9_readReason [.ref (b + 145), .int v1, .int v3, .int (xm_gi M7 (b + 145) 8), .int (xm_gi M7 (b + 145) 8), .long (-1 : Int64)] M7 (fun r M9 => ∃ r10 : Bool, r = some (.int (xz r10)) ∧ xm_st b true p M9 ∧ (((xz r10) = 0 → (xm_st b true p M9 → Q (some (.int (0 : Int32))) M9)) ∧ (¬ (xz r10) = 0 → (xm_st b true p M9 → xm_X l E y9_readEdges rm9_readEdges Q 12 [(0, .ref (b + 145)), (1, .int v1), (2, .ref a2), (3, .int (v3 + Int32.ofInt (1)))] [] 0 0 M9)))))))) ∧ ((xm_gi M5 (b + 145) 8) = 0 → xm_C l E y9_readReasonsFor rm9_readReasonsFor [.ref (b + 145), .int r6, .int v1, .int v3] M5 (fun r M11 => ∃ r12 : Bool, r = some (.int (xz r12)) ∧ xm_st b true p M11 ∧ ((¬ (xz r12) = 0 → (xm_st b true p M11 → xm_X l E y9_readEdges rm9_readEdges Q 12 [(0, .ref (b + 145)), (1, .int v1), (2, .ref a2), (3, .int (v3 + Int32.ofInt (1)))] [] 0 0 M11)) ∧ ((xz r12) = 0 → (xm_st b true p M11 → Q (some (.int (0 : Int32))) M11))))))) ∧ ((xm_gi M5 (b + 145) 8) = 0 → (vp_in r6 48 ∧ ((¬ (xm_gi M5 (b + 146) (Int32.toNatClampNeg r6)) = (-1 : Int32) → ((¬ (xm_gi M5 (b + 145) 8) = 0 → xm_C l E y9_readWithin rm9_readWithin [.ref (b + 145), .int (0 : Int32), .int (9 : Int32)] M5 (fun r M14 => ∃ r15 : Bool, r = some (.int (xz r15)) ∧ xm_st b true p M14 ∧ (((xz r15) = 0 → (xm_st b true p M14 → Q (some (.int (0 : Int32))) M14)) ∧ (¬ (xz r15) = 0 → xm_C l E y9_readReason rm9_readReason [.ref (b + 145), .int v1, .int v3, .int (xm_gi M14 (b + 145) 8), .int (xm_gi M14 (b + 145) 8), .long (-1 : Int64)] M14 (fun r M16 => ∃ r17 : Bool, r = some (.int (xz r17)) ∧ xm_st b true p M16 ∧ (((xz r17) = 0 → (xm_st b true p M16 → Q (some (.int (0 : Int32))) M16)) ∧ (¬ (xz r17) = 0 → (xm_st b true p M16 → xm_X l E y9_readEdges rm9_readEdges Q 12 [(0, .ref (b + 145)), (1, .int v1), (2, .ref a2), (3, .int (v3 + Int32.ofInt (1)))] [] 0 0 M16)))))))) ∧ ((xm_gi M5 (b + 145) 8) = 0 → xm_C l E y9_readReasonsFor rm9_readReasonsFor [.ref (b + 145), .int r6, .int v1, .int v3] M5 (fun r M18 => ∃ r19 : Bool, r = some (.int (xz r19)) ∧ xm_st b true p M18 ∧ ((¬ (xz r19) = 0 → (xm_st b true p M18 → xm_X l E y9_readEdges rm9_readEdges Q 12 [(0, .ref (b + 145)), (1, .int v1), (2, .ref a2), (3, .int (v3 + Int32.ofInt (1)))] [] 0 0 M18)) ∧ ((xz r19) = 0 → (xm_st b true p M18 → Q (some (.int (0 : Int32))) M18))))))) ∧ ((xm_gi M5 (b + 146) (Int32.toNatClampNeg r6)) = (-1 : Int32) → xm_C l E y9_refuse rm9_refuse [.ref (b + 145), .int (7 : Int32), .int ((xm_gi M5 (b + 145) 7) - (1 : Int32))] M5 (fun r M20 => ∃ r21 : Bool, r = some (.int (xz r21)) ∧ xm_st b true p M20 ∧ (xm_st b true p M20 → Q (some (.int (xz r21))) M20))))))))) ∧ ((xz r4) = 0 → (xm_st b true p M3 → Q (some (.int (0 : Int32))) M3)))))))) :
  xm_X l E y9_readEdges rm9_readEdges Q 12 [(0, .ref (b + 145)), (1, .int v1), (2, .ref a2), (3, .int v3)] [] 0 0 M := by
  refine x_iload_n d9_readEdges_12 3 rfl rfl ?_
  refine x_aload_n d9_readEdges_13 2 rfl rfl ?_
  refine x_cVI (Z := y2_edgeCount) (S := rm2_edgeCount) (As := []) (rest := [.int v3]) d9_readEdges_14 ml9_124 k2_edgeCount rfl (b := a2) (hS.1 _ _ ha2) rfl rfl (Nat.le_of_ble_eq_true rfl) ⟨⟨by decide, by decide⟩, by decide, by decide⟩ ⟨rfl, rfl⟩ h (fun r2 M1 h => ?_)
  obtain ⟨hS, h⟩ := h
  refine x_icmp_ge d9_readEdges_17 (t := 138) (by decide) (fun g => ?_) (fun g => ?_)
  · have h := h.1 g
    refine x_iconst d9_readEdges_138 qi_1 ?_
    exact x_ret (r := (some (.int (1 : Int32)))) d9_readEdges_139 (xm_rZ (Or.inr rfl)) rfl ⟨Nat.le_refl _, Nat.le_refl _⟩ (h hS)
  · have h := h.2 g
    refine x_aload_n d9_readEdges_20 0 rfl rfl ?_
    refine x_iconst d9_readEdges_21 qi_0 ?_
    refine x_iconst d9_readEdges_22 qi_1 ?_
    refine x_cVZ (Z := y9_readWithin) (S := rm9_readWithin) (As := [.int (0 : Int32), .int (1 : Int32)]) (rest := []) d9_readEdges_23 ml9_92 k9_readWithin rfl (b := (b + 145)) (hS.1 _ _ (sh_145 b)) rfl rfl (Nat.le_of_ble_eq_true rfl) ⟨⟨by decide, by decide⟩, by decide, by decide⟩ ⟨rfl, rfl⟩ h (fun r4 M3 h => ?_)
    obtain ⟨hS, h⟩ := h
    refine x_if_ne d9_readEdges_26 (t := 31) (by decide) (fun g => ?_) (fun g => ?_)
    · have h := h.1 g
      refine x_aload_n d9_readEdges_31 2 rfl rfl ?_
      refine x_iload_n d9_readEdges_32 1 rfl rfl ?_
      refine x_iload_n d9_readEdges_33 3 rfl rfl ?_
      refine x_cVI (Z := y2_edgeEnd) (S := rm2_edgeEnd) (As := [.int v1, .int v3]) (rest := []) d9_readEdges_34 ml9_127 k2_edgeEnd rfl (b := a2) (hS.1 _ _ ha2) rfl rfl (Nat.le_of_ble_eq_true rfl) ⟨⟨by decide, by decide⟩, by decide, by decide⟩ ⟨rfl, rfl⟩ h (fun r6 M5 h => ?_)
      obtain ⟨hS, h⟩ := h
      refine x_istore d9_readEdges_37 (by decide) (L' := [(4, .int r6), (0, .ref (b + 145)), (1, .int v1), (2, .ref a2), (3, .int v3)]) rfl ?_
      refine x_aload_n d9_readEdges_39 1 rfl rfl ?_
      refine x_getI d9_readEdges_40 fl9_86 (fun _ _ => rfl) (hS.1 _ _ (sh_145 b)) ?_
      refine x_if_ne d9_readEdges_43 (t := 70) (by decide) (fun g => ?_) (fun g => ?_)
      · have h := h.1 g
        refine x_aload_n d9_readEdges_70 1 rfl rfl ?_
        refine x_getI d9_readEdges_71 fl9_86 (fun _ _ => rfl) (hS.1 _ _ (sh_145 b)) ?_
        refine x_if_ne d9_readEdges_74 (t := 88) (by decide) (fun g => ?_) (fun g => ?_)
        · have h := h.1 g
          refine x_aload_n d9_readEdges_88 1 rfl rfl ?_
          refine x_iconst d9_readEdges_89 qi_0 ?_
          refine x_bipush d9_readEdges_90 qb_9 ?_
          refine x_cVZ (Z := y9_readWithin) (S := rm9_readWithin) (As := [.int (0 : Int32), .int (9 : Int32)]) (rest := []) d9_readEdges_92 ml9_92 k9_readWithin rfl (b := (b + 145)) (hS.1 _ _ (sh_145 b)) rfl rfl (Nat.le_of_ble_eq_true rfl) ⟨⟨by decide, by decide⟩, by decide, by decide⟩ ⟨rfl, rfl⟩ h (fun r8 M7 h => ?_)
          obtain ⟨hS, h⟩ := h
          refine x_if_eq d9_readEdges_95 (t := 122) (by decide) (fun g => ?_) (fun g => ?_)
          · have h := h.1 g
            refine x_iconst d9_readEdges_122 qi_0 ?_
            refine x_istore d9_readEdges_123 (by decide) (L' := [(5, .int (0 : Int32)), (4, .int r6), (0, .ref (b + 145)), (1, .int v1), (2, .ref a2), (3, .int v3)]) rfl ?_
            refine x_iload d9_readEdges_125 0 rfl ?_
            refine x_if_ne d9_readEdges_127 (t := 132) (by decide) (fun g => ?_) (fun g => ?_)
            · exact absurd g (by decide)
            · skip
              refine x_iconst d9_readEdges_130 qi_0 ?_
              exact x_ret (r := (some (.int (0 : Int32)))) d9_readEdges_131 (xm_rZ (Or.inl rfl)) rfl ⟨Nat.le_refl _, Nat.le_refl _⟩ (h hS)
          · have h := h.2 g
            refine x_aload_n d9_readEdges_98 1 rfl rfl ?_
            refine x_iload_n d9_readEdges_99 2 rfl rfl ?_
            refine x_iload_n d9_readEdges_100 4 rfl rfl ?_
            refine x_aload_n d9_readEdges_101 1 rfl rfl ?_
            refine x_getI d9_readEdges_102 fl9_86 (fun _ _ => rfl) (hS.1 _ _ (sh_145 b)) ?_
            refine x_aload_n d9_readEdges_105 1 rfl rfl ?_
            refine x_getI d9_readEdges_106 fl9_86 (fun _ _ => rfl) (hS.1 _ _ (sh_145 b)) ?_
            refine x_ldc2 d9_readEdges_109 lc9_131 ?_
            refine x_cVZ (Z := y9_readReason) (S := rm9_readReason) (As := [.int v1, .int v3, .int (xm_gi M7 (b + 145) 8), .int (xm_gi M7 (b + 145) 8), .long (-1 : Int64)]) (rest := []) d9_readEdges_112 ml9_113 k9_readReason rfl (b := (b + 145)) (hS.1 _ _ (sh_145 b)) rfl rfl (Nat.le_of_ble_eq_true rfl) ⟨⟨by decide, by decide⟩, by decide, by decide⟩ ⟨rfl, rfl⟩ h (fun r10 M9 h => ?_)
            obtain ⟨hS, h⟩ := h
            refine x_if_eq d9_readEdges_115 (t := 122) (by decide) (fun g => ?_) (fun g => ?_)
            · have h := h.1 g
              refine x_iconst d9_readEdges_122 qi_0 ?_
              refine x_istore d9_readEdges_123 (by decide) (L' := [(5, .int (0 : Int32)), (4, .int r6), (0, .ref (b + 145)), (1, .int v1), (2, .ref a2), (3, .int v3)]) rfl ?_
              refine x_iload d9_readEdges_125 0 rfl ?_
              refine x_if_ne d9_readEdges_127 (t := 132) (by decide) (fun g => ?_) (fun g => ?_)
              · exact absurd g (by decide)
              · skip
                refine x_iconst d9_readEdges_130 qi_0 ?_
                exact x_ret (r := (some (.int (0 : Int32)))) d9_readEdges_131 (xm_rZ (Or.inl rfl)) rfl ⟨Nat.le_refl _, Nat.le_refl _⟩ (h hS)
            · have h := h.2 g
              refine x_iconst d9_readEdges_118 qi_1 ?_
              refine x_goto d9_readEdges_119 (t := 123) (by decide) ?_
              refine x_istore d9_readEdges_123 (by decide) (L' := [(5, .int (1 : Int32)), (4, .int r6), (0, .ref (b + 145)), (1, .int v1), (2, .ref a2), (3, .int v3)]) rfl ?_
              refine x_iload d9_readEdges_125 0 rfl ?_
              refine x_if_ne d9_readEdges_127 (t := 132) (by decide) (fun g => ?_) (fun g => ?_)
              · skip
                refine x_iinc d9_readEdges_132 5 rfl rfl (by decide) (L' := [(3, .int (v3 + Int32.ofInt (1))), (5, .int (1 : Int32)), (4, .int r6), (0, .ref (b + 145)), (1, .int v1), (2, .ref a2)]) rfl ?_
                refine x_goto d9_readEdges_135 (t := 12) (by decide) ?_
                exact xm_X.sub [3, 4, 5, 0] rfl (h hS)
              · exact absurd g (by decide)
        · have h := h.2 g
          refine x_aload_n d9_readEdges_77 1 rfl rfl ?_
          refine x_iload d9_readEdges_78 0 rfl ?_
          refine x_iload_n d9_readEdges_80 2 rfl rfl ?_
          refine x_iload_n d9_readEdges_81 4 rfl rfl ?_
          refine x_cVZ (Z := y9_readReasonsFor) (S := rm9_readReasonsFor) (As := [.int r6, .int v1, .int v3]) (rest := []) d9_readEdges_82 ml9_59 k9_readReasonsFor rfl (b := (b + 145)) (hS.1 _ _ (sh_145 b)) rfl rfl (Nat.le_of_ble_eq_true rfl) ⟨⟨by decide, by decide⟩, by decide, by decide⟩ ⟨rfl, rfl⟩ h (fun r12 M11 h => ?_)
          obtain ⟨hS, h⟩ := h
          refine x_goto d9_readEdges_85 (t := 123) (by decide) ?_
          refine x_istore d9_readEdges_123 (by decide) (L' := [(5, .int (xz r12)), (4, .int r6), (0, .ref (b + 145)), (1, .int v1), (2, .ref a2), (3, .int v3)]) rfl ?_
          refine x_iload d9_readEdges_125 0 rfl ?_
          refine x_if_ne d9_readEdges_127 (t := 132) (by decide) (fun g => ?_) (fun g => ?_)
          · have h := h.1 g
            refine x_iinc d9_readEdges_132 5 rfl rfl (by decide) (L' := [(3, .int (v3 + Int32.ofInt (1))), (5, .int (xz r12)), (4, .int r6), (0, .ref (b + 145)), (1, .int v1), (2, .ref a2)]) rfl ?_
            refine x_goto d9_readEdges_135 (t := 12) (by decide) ?_
            exact xm_X.sub [3, 4, 5, 0] rfl (h hS)
          · have h := h.2 g
            refine x_iconst d9_readEdges_130 qi_0 ?_
            exact x_ret (r := (some (.int (0 : Int32)))) d9_readEdges_131 (xm_rZ (Or.inl rfl)) rfl ⟨Nat.le_refl _, Nat.le_refl _⟩ (h hS)
      · have h := h.2 g
        refine x_aload_n d9_readEdges_46 1 rfl rfl ?_
        refine x_getR d9_readEdges_47 fl9_9 (fun _ _ => rfl) (hS.1 _ _ (sh_145 b)) (hS.2.1 _ _ _ (pt_145_0 b)) ?_
        refine x_iload d9_readEdges_50 0 rfl ?_
        obtain ⟨g13, h⟩ := h
        refine x_iald d9_readEdges_52 (hS.1 _ _ (sh_146 b)) g13 ?_
        refine x_iconst d9_readEdges_53 qi_n1 ?_
        refine x_icmp_ne d9_readEdges_54 (t := 70) (by decide) (fun g => ?_) (fun g => ?_)
        · have h := h.1 g
          refine x_aload_n d9_readEdges_70 1 rfl rfl ?_
          refine x_getI d9_readEdges_71 fl9_86 (fun _ _ => rfl) (hS.1 _ _ (sh_145 b)) ?_
          refine x_if_ne d9_readEdges_74 (t := 88) (by decide) (fun g => ?_) (fun g => ?_)
          · have h := h.1 g
            refine x_aload_n d9_readEdges_88 1 rfl rfl ?_
            refine x_iconst d9_readEdges_89 qi_0 ?_
            refine x_bipush d9_readEdges_90 qb_9 ?_
            refine x_cVZ (Z := y9_readWithin) (S := rm9_readWithin) (As := [.int (0 : Int32), .int (9 : Int32)]) (rest := []) d9_readEdges_92 ml9_92 k9_readWithin rfl (b := (b + 145)) (hS.1 _ _ (sh_145 b)) rfl rfl (Nat.le_of_ble_eq_true rfl) ⟨⟨by decide, by decide⟩, by decide, by decide⟩ ⟨rfl, rfl⟩ h (fun r15 M14 h => ?_)
            obtain ⟨hS, h⟩ := h
            refine x_if_eq d9_readEdges_95 (t := 122) (by decide) (fun g => ?_) (fun g => ?_)
            · have h := h.1 g
              refine x_iconst d9_readEdges_122 qi_0 ?_
              refine x_istore d9_readEdges_123 (by decide) (L' := [(5, .int (0 : Int32)), (4, .int r6), (0, .ref (b + 145)), (1, .int v1), (2, .ref a2), (3, .int v3)]) rfl ?_
              refine x_iload d9_readEdges_125 0 rfl ?_
              refine x_if_ne d9_readEdges_127 (t := 132) (by decide) (fun g => ?_) (fun g => ?_)
              · exact absurd g (by decide)
              · skip
                refine x_iconst d9_readEdges_130 qi_0 ?_
                exact x_ret (r := (some (.int (0 : Int32)))) d9_readEdges_131 (xm_rZ (Or.inl rfl)) rfl ⟨Nat.le_refl _, Nat.le_refl _⟩ (h hS)
            · have h := h.2 g
              refine x_aload_n d9_readEdges_98 1 rfl rfl ?_
              refine x_iload_n d9_readEdges_99 2 rfl rfl ?_
              refine x_iload_n d9_readEdges_100 4 rfl rfl ?_
              refine x_aload_n d9_readEdges_101 1 rfl rfl ?_
              refine x_getI d9_readEdges_102 fl9_86 (fun _ _ => rfl) (hS.1 _ _ (sh_145 b)) ?_
              refine x_aload_n d9_readEdges_105 1 rfl rfl ?_
              refine x_getI d9_readEdges_106 fl9_86 (fun _ _ => rfl) (hS.1 _ _ (sh_145 b)) ?_
              refine x_ldc2 d9_readEdges_109 lc9_131 ?_
              refine x_cVZ (Z := y9_readReason) (S := rm9_readReason) (As := [.int v1, .int v3, .int (xm_gi M14 (b + 145) 8), .int (xm_gi M14 (b + 145) 8), .long (-1 : Int64)]) (rest := []) d9_readEdges_112 ml9_113 k9_readReason rfl (b := (b + 145)) (hS.1 _ _ (sh_145 b)) rfl rfl (Nat.le_of_ble_eq_true rfl) ⟨⟨by decide, by decide⟩, by decide, by decide⟩ ⟨rfl, rfl⟩ h (fun r17 M16 h => ?_)
              obtain ⟨hS, h⟩ := h
              refine x_if_eq d9_readEdges_115 (t := 122) (by decide) (fun g => ?_) (fun g => ?_)
              · have h := h.1 g
                refine x_iconst d9_readEdges_122 qi_0 ?_
                refine x_istore d9_readEdges_123 (by decide) (L' := [(5, .int (0 : Int32)), (4, .int r6), (0, .ref (b + 145)), (1, .int v1), (2, .ref a2), (3, .int v3)]) rfl ?_
                refine x_iload d9_readEdges_125 0 rfl ?_
                refine x_if_ne d9_readEdges_127 (t := 132) (by decide) (fun g => ?_) (fun g => ?_)
                · exact absurd g (by decide)
                · skip
                  refine x_iconst d9_readEdges_130 qi_0 ?_
                  exact x_ret (r := (some (.int (0 : Int32)))) d9_readEdges_131 (xm_rZ (Or.inl rfl)) rfl ⟨Nat.le_refl _, Nat.le_refl _⟩ (h hS)
              · have h := h.2 g
                refine x_iconst d9_readEdges_118 qi_1 ?_
                refine x_goto d9_readEdges_119 (t := 123) (by decide) ?_
                refine x_istore d9_readEdges_123 (by decide) (L' := [(5, .int (1 : Int32)), (4, .int r6), (0, .ref (b + 145)), (1, .int v1), (2, .ref a2), (3, .int v3)]) rfl ?_
                refine x_iload d9_readEdges_125 0 rfl ?_
                refine x_if_ne d9_readEdges_127 (t := 132) (by decide) (fun g => ?_) (fun g => ?_)
                · skip
                  refine x_iinc d9_readEdges_132 5 rfl rfl (by decide) (L' := [(3, .int (v3 + Int32.ofInt (1))), (5, .int (1 : Int32)), (4, .int r6), (0, .ref (b + 145)), (1, .int v1), (2, .ref a2)]) rfl ?_
                  refine x_goto d9_readEdges_135 (t := 12) (by decide) ?_
                  exact xm_X.sub [3, 4, 5, 0] rfl (h hS)
                · exact absurd g (by decide)
          · have h := h.2 g
            refine x_aload_n d9_readEdges_77 1 rfl rfl ?_
            refine x_iload d9_readEdges_78 0 rfl ?_
            refine x_iload_n d9_readEdges_80 2 rfl rfl ?_
            refine x_iload_n d9_readEdges_81 4 rfl rfl ?_
            refine x_cVZ (Z := y9_readReasonsFor) (S := rm9_readReasonsFor) (As := [.int r6, .int v1, .int v3]) (rest := []) d9_readEdges_82 ml9_59 k9_readReasonsFor rfl (b := (b + 145)) (hS.1 _ _ (sh_145 b)) rfl rfl (Nat.le_of_ble_eq_true rfl) ⟨⟨by decide, by decide⟩, by decide, by decide⟩ ⟨rfl, rfl⟩ h (fun r19 M18 h => ?_)
            obtain ⟨hS, h⟩ := h
            refine x_goto d9_readEdges_85 (t := 123) (by decide) ?_
            refine x_istore d9_readEdges_123 (by decide) (L' := [(5, .int (xz r19)), (4, .int r6), (0, .ref (b + 145)), (1, .int v1), (2, .ref a2), (3, .int v3)]) rfl ?_
            refine x_iload d9_readEdges_125 0 rfl ?_
            refine x_if_ne d9_readEdges_127 (t := 132) (by decide) (fun g => ?_) (fun g => ?_)
            · have h := h.1 g
              refine x_iinc d9_readEdges_132 5 rfl rfl (by decide) (L' := [(3, .int (v3 + Int32.ofInt (1))), (5, .int (xz r19)), (4, .int r6), (0, .ref (b + 145)), (1, .int v1), (2, .ref a2)]) rfl ?_
              refine x_goto d9_readEdges_135 (t := 12) (by decide) ?_
              exact xm_X.sub [3, 4, 5, 0] rfl (h hS)
            · have h := h.2 g
              refine x_iconst d9_readEdges_130 qi_0 ?_
              exact x_ret (r := (some (.int (0 : Int32)))) d9_readEdges_131 (xm_rZ (Or.inl rfl)) rfl ⟨Nat.le_refl _, Nat.le_refl _⟩ (h hS)
        · have h := h.2 g
          refine x_aload_n d9_readEdges_57 1 rfl rfl ?_
          refine x_bipush d9_readEdges_58 qb_7 ?_
          refine x_aload_n d9_readEdges_60 1 rfl rfl ?_
          refine x_getI d9_readEdges_61 fl9_39 (fun _ _ => rfl) (hS.1 _ _ (sh_145 b)) ?_
          refine x_iconst d9_readEdges_64 qi_1 ?_
          refine x_isub d9_readEdges_65 ?_
          refine x_cVZ (Z := y9_refuse) (S := rm9_refuse) (As := [.int (7 : Int32), .int ((xm_gi M5 (b + 145) 7) - (1 : Int32))]) (rest := []) d9_readEdges_66 ml9_63 k9_refuse rfl (b := (b + 145)) (hS.1 _ _ (sh_145 b)) rfl rfl (Nat.le_of_ble_eq_true rfl) ⟨⟨by decide, by decide⟩, by decide, by decide⟩ ⟨rfl, rfl⟩ h (fun r21 M20 h => ?_)
          obtain ⟨hS, h⟩ := h
          exact x_ret (r := (some (.int (xz r21)))) d9_readEdges_69 (xm_rZ (xz_01 _)) rfl ⟨Nat.le_refl _, Nat.le_refl _⟩ (h hS)
    · have h := h.2 g
      refine x_iconst d9_readEdges_29 qi_0 ?_
      exact x_ret (r := (some (.int (0 : Int32)))) d9_readEdges_30 (xm_rZ (Or.inl rfl)) rfl ⟨Nat.le_refl _, Nat.le_refl _⟩ (h hS)

set_option maxRecDepth 20000 in
theorem t0_place_0 {l : Launch} {E : xm_E} {b : Nat} {c p : Bool} {Q : Option Value → xm_M → Prop} (M : xm_M)  (hS : xm_st b c p M)
  (h : (xm_st b c p M → Q (some (.int (xm_gi M (b + 0) 6))) M)) :
  xm_X l E y0_place rm0_place Q 0 [(0, .ref (b + 0))] [] 0 0 M := by
  refine x_aload_n d0_place_0 0 rfl rfl ?_
  refine x_getI d0_place_1 fl0_62 (fun _ _ => rfl) (hS.1 _ _ (sh_0 b)) ?_
  exact x_ret (r := (some (.int (xm_gi M (b + 0) 6)))) d0_place_4 xm_rI rfl ⟨Nat.le_refl _, Nat.le_refl _⟩ (h hS)

set_option maxRecDepth 20000 in
theorem t0_receive_0 {l : Launch} {E : xm_E} {b : Nat} {c p : Bool} {Q : Option Value → xm_M → Prop} (M : xm_M) (w1 : Int64) (v3 : Int32) (hS : xm_st b c p M)
  (h : ((v3 < (1 : Int32) → (xm_st b c p M → Q (some (.int (-1 : Int32))) M)) ∧ (¬ v3 < (1 : Int32) → ((v3 ≤ (8 : Int32) → xm_C l E y4_append rm4_append [.ref (b + 53), .long w1, .int v3] M (fun r M1 => ∃ r2 : Bool, r = some (.int (xz r2)) ∧ xm_st b c p M1 ∧ (((xz r2) = 0 → (xm_st b c p M1 → Q (some (.int (-3 : Int32))) M1)) ∧ (¬ (xz r2) = 0 → (xm_st b c p M1 → Q (some (.int (xm_gi M1 (b + 53) 1))) M1))))) ∧ (¬ v3 ≤ (8 : Int32) → (xm_st b c p M → Q (some (.int (-1 : Int32))) M)))))) :
  xm_X l E y0_receive rm0_receive Q 0 [(0, .ref (b + 0)), (1, .long w1), (3, .int v3)] [] 0 0 M := by
  refine x_iload_n d0_receive_0 2 rfl rfl ?_
  refine x_iconst d0_receive_1 qi_1 ?_
  refine x_icmp_lt d0_receive_2 (t := 11) (by decide) (fun g => ?_) (fun g => ?_)
  · have h := h.1 g
    refine x_iconst d0_receive_11 qi_n1 ?_
    exact x_ret (r := (some (.int (-1 : Int32)))) d0_receive_12 xm_rI rfl ⟨Nat.le_refl _, Nat.le_refl _⟩ (h hS)
  · have h := h.2 g
    refine x_iload_n d0_receive_5 2 rfl rfl ?_
    refine x_bipush d0_receive_6 qb_8 ?_
    refine x_icmp_le d0_receive_8 (t := 13) (by decide) (fun g => ?_) (fun g => ?_)
    · have h := h.1 g
      refine x_aload_n d0_receive_13 0 rfl rfl ?_
      refine x_getR d0_receive_14 fl0_37 (fun _ _ => rfl) (hS.1 _ _ (sh_0 b)) (hS.2.1 _ _ _ (pt_0_2 b)) ?_
      refine x_lload_n d0_receive_17 1 rfl rfl ?_
      refine x_iload_n d0_receive_18 2 rfl rfl ?_
      refine x_cVZ (Z := y4_append) (S := rm4_append) (As := [.long w1, .int v3]) (rest := []) d0_receive_19 ml0_104 k4_append rfl (b := (b + 53)) (hS.1 _ _ (sh_53 b)) rfl rfl (Nat.le_of_ble_eq_true rfl) ⟨⟨by decide, by decide⟩, by decide, by decide⟩ ⟨rfl, rfl⟩ h (fun r2 M1 h => ?_)
      obtain ⟨hS, h⟩ := h
      refine x_if_eq d0_receive_22 (t := 35) (by decide) (fun g => ?_) (fun g => ?_)
      · have h := h.1 g
        refine x_bipush d0_receive_35 qb_n3 ?_
        exact x_ret (r := (some (.int (-3 : Int32)))) d0_receive_37 xm_rI rfl ⟨Nat.le_refl _, Nat.le_refl _⟩ (h hS)
      · have h := h.2 g
        refine x_aload_n d0_receive_25 0 rfl rfl ?_
        refine x_getR d0_receive_26 fl0_37 (fun _ _ => rfl) (hS.1 _ _ (sh_0 b)) (hS.2.1 _ _ _ (pt_0_2 b)) ?_
        refine x_getI d0_receive_29 fl0_107 (fun _ _ => rfl) (hS.1 _ _ (sh_53 b)) ?_
        refine x_goto d0_receive_32 (t := 37) (by decide) ?_
        exact x_ret (r := (some (.int (xm_gi M1 (b + 53) 1)))) d0_receive_37 xm_rI rfl ⟨Nat.le_refl _, Nat.le_refl _⟩ (h hS)
    · have h := h.2 g
      refine x_iconst d0_receive_11 qi_n1 ?_
      exact x_ret (r := (some (.int (-1 : Int32)))) d0_receive_12 xm_rI rfl ⟨Nat.le_refl _, Nat.le_refl _⟩ (h hS)

set_option maxRecDepth 20000 in
theorem t0_drop_0 {l : Launch} {E : xm_E} {b : Nat} {c p : Bool} {Q : Option Value → xm_M → Prop} (M : xm_M)  (hS : xm_st b c p M)
  (h : (xm_st b c p (xm_pi M (b + 53) 1 (0 : Int32)) → Q (some (.int (xm_gi M (b + 53) 1))) (xm_pi M (b + 53) 1 (0 : Int32)))) :
  xm_X l E y0_drop rm0_drop Q 0 [(0, .ref (b + 0))] [] 0 0 M := by
  refine x_aload_n d0_drop_0 0 rfl rfl ?_
  refine x_getR d0_drop_1 fl0_37 (fun _ _ => rfl) (hS.1 _ _ (sh_0 b)) (hS.2.1 _ _ _ (pt_0_2 b)) ?_
  refine x_getI d0_drop_4 fl0_107 (fun _ _ => rfl) (hS.1 _ _ (sh_53 b)) ?_
  refine x_istore_n d0_drop_7 rfl (by decide) (L' := [(1, .int (xm_gi M (b + 53) 1)), (0, .ref (b + 0))]) rfl ?_
  refine x_aload_n d0_drop_8 1 rfl rfl ?_
  refine x_getR d0_drop_9 fl0_37 (fun _ _ => rfl) (hS.1 _ _ (sh_0 b)) (hS.2.1 _ _ _ (pt_0_2 b)) ?_
  refine x_iconst d0_drop_12 qi_0 ?_
  refine x_putI d0_drop_13 fw0_107 (fun _ _ => rfl) rfl rfl (hS.1 _ _ (sh_53 b)) ?_
  refine x_iload_n d0_drop_16 0 rfl rfl ?_
  exact x_ret (r := (some (.int (xm_gi M (b + 53) 1)))) d0_drop_17 xm_rI rfl ⟨Nat.le_refl _, Nat.le_refl _⟩ (h hS.pi)

set_option maxRecDepth 20000 in
theorem t0_run_0 {l : Launch} {E : xm_E} {b : Nat} {c p : Bool} {Q : Option Value → xm_M → Prop} (M : xm_M)  (hS : xm_st b c p M)
  (h : xm_C l E y1_wrongPlace rm1_wrongPlace [.ref (b + 1)] M (fun r M1 => ∃ r2 : Int32, r = some (.int r2) ∧ xm_st b c p M1 ∧ ((¬ r2 = (-2 : Int32) → (xm_st b c p M1 → Q (some (.int (-1 : Int32))) M1)) ∧ (r2 = (-2 : Int32) → (((xm_gi M1 (b + 1) 0) ≤ (xm_gi M1 (b + 53) 1) → xm_C l E y10_execute rm10_execute [.ref (b + 151), .ref (b + 1), .ref (b + 53)] M1 (fun r M3 => ∃ r4 : Int32, r = some (.int r4) ∧ xm_st b c p M3 ∧ (xm_st b c p M3 → Q (some (.int r4)) M3))) ∧ (¬ (xm_gi M1 (b + 1) 0) ≤ (xm_gi M1 (b + 53) 1) → (xm_st b c p M1 → Q (some (.int (-1 : Int32))) M1))))))) :
  xm_X l E y0_run rm0_run Q 0 [(0, .ref (b + 0))] [] 0 0 M := by
  refine x_aload_n d0_run_0 0 rfl rfl ?_
  refine x_getR d0_run_1 fl0_23 (fun _ _ => rfl) (hS.1 _ _ (sh_0 b)) (hS.2.1 _ _ _ (pt_0_0 b)) ?_
  refine x_cVI (Z := y1_wrongPlace) (S := rm1_wrongPlace) (As := []) (rest := []) d0_run_4 ml0_77 k1_wrongPlace rfl (b := (b + 1)) (hS.1 _ _ (sh_1 b)) rfl rfl (Nat.le_of_ble_eq_true rfl) ⟨⟨by decide, by decide⟩, by decide, by decide⟩ ⟨rfl, rfl⟩ h (fun r2 M1 h => ?_)
  obtain ⟨hS, h⟩ := h
  refine x_bipush d0_run_7 qb_n2 ?_
  refine x_icmp_ne d0_run_9 (t := 29) (by decide) (fun g => ?_) (fun g => ?_)
  · have h := h.1 g
    refine x_iconst d0_run_29 qi_n1 ?_
    exact x_ret (r := (some (.int (-1 : Int32)))) d0_run_30 xm_rI rfl ⟨Nat.le_refl _, Nat.le_refl _⟩ (h hS)
  · have h := h.2 g
    refine x_aload_n d0_run_12 0 rfl rfl ?_
    refine x_getR d0_run_13 fl0_37 (fun _ _ => rfl) (hS.1 _ _ (sh_0 b)) (hS.2.1 _ _ _ (pt_0_2 b)) ?_
    refine x_getI d0_run_16 fl0_107 (fun _ _ => rfl) (hS.1 _ _ (sh_53 b)) ?_
    refine x_aload_n d0_run_19 0 rfl rfl ?_
    refine x_getR d0_run_20 fl0_23 (fun _ _ => rfl) (hS.1 _ _ (sh_0 b)) (hS.2.1 _ _ _ (pt_0_0 b)) ?_
    refine x_getI d0_run_23 fl0_108 (fun _ _ => rfl) (hS.1 _ _ (sh_1 b)) ?_
    refine x_icmp_ge d0_run_26 (t := 31) (by decide) (fun g => ?_) (fun g => ?_)
    · have h := h.1 g
      refine x_aload_n d0_run_31 0 rfl rfl ?_
      refine x_getR d0_run_32 fl0_58 (fun _ _ => rfl) (hS.1 _ _ (sh_0 b)) (hS.2.1 _ _ _ (pt_0_5 b)) ?_
      refine x_aload_n d0_run_35 0 rfl rfl ?_
      refine x_getR d0_run_36 fl0_23 (fun _ _ => rfl) (hS.1 _ _ (sh_0 b)) (hS.2.1 _ _ _ (pt_0_0 b)) ?_
      refine x_aload_n d0_run_39 0 rfl rfl ?_
      refine x_getR d0_run_40 fl0_37 (fun _ _ => rfl) (hS.1 _ _ (sh_0 b)) (hS.2.1 _ _ _ (pt_0_2 b)) ?_
      refine x_cVI (Z := y10_execute) (S := rm10_execute) (As := [.ref (b + 1), .ref (b + 53)]) (rest := []) d0_run_43 ml0_111 k10_execute rfl (b := (b + 151)) (hS.1 _ _ (sh_151 b)) rfl rfl (Nat.le_of_ble_eq_true rfl) ⟨⟨by decide, by decide⟩, by decide, by decide⟩ ⟨rfl, rfl⟩ h (fun r4 M3 h => ?_)
      obtain ⟨hS, h⟩ := h
      exact x_ret (r := (some (.int r4))) d0_run_46 xm_rI rfl ⟨Nat.le_refl _, Nat.le_refl _⟩ (h hS)
    · have h := h.2 g
      refine x_iconst d0_run_29 qi_n1 ?_
      exact x_ret (r := (some (.int (-1 : Int32)))) d0_run_30 xm_rI rfl ⟨Nat.le_refl _, Nat.le_refl _⟩ (h hS)

set_option maxRecDepth 20000 in
theorem t0_result_0 {l : Launch} {E : xm_E} {b : Nat} {c p : Bool} {Q : Option Value → xm_M → Prop} (M : xm_M)  (hS : xm_st b c p M)
  (h : (xm_st b c p M → Q (some (.int (xm_gi M (b + 151) 2))) M)) :
  xm_X l E y0_result rm0_result Q 0 [(0, .ref (b + 0))] [] 0 0 M := by
  refine x_aload_n d0_result_0 0 rfl rfl ?_
  refine x_getR d0_result_1 fl0_58 (fun _ _ => rfl) (hS.1 _ _ (sh_0 b)) (hS.2.1 _ _ _ (pt_0_5 b)) ?_
  refine x_getI d0_result_4 fl0_115 (fun _ _ => rfl) (hS.1 _ _ (sh_151 b)) ?_
  exact x_ret (r := (some (.int (xm_gi M (b + 151) 2)))) d0_result_7 xm_rI rfl ⟨Nat.le_refl _, Nat.le_refl _⟩ (h hS)

set_option maxRecDepth 20000 in
theorem t0_steps_0 {l : Launch} {E : xm_E} {b : Nat} {c p : Bool} {Q : Option Value → xm_M → Prop} (M : xm_M)  (hS : xm_st b c p M)
  (h : (xm_st b c p M → Q (some (.int (xm_gi M (b + 151) 3))) M)) :
  xm_X l E y0_steps rm0_steps Q 0 [(0, .ref (b + 0))] [] 0 0 M := by
  refine x_aload_n d0_steps_0 0 rfl rfl ?_
  refine x_getR d0_steps_1 fl0_58 (fun _ _ => rfl) (hS.1 _ _ (sh_0 b)) (hS.2.1 _ _ _ (pt_0_5 b)) ?_
  refine x_getI d0_steps_4 fl0_118 (fun _ _ => rfl) (hS.1 _ _ (sh_151 b)) ?_
  exact x_ret (r := (some (.int (xm_gi M (b + 151) 3)))) d0_steps_7 xm_rI rfl ⟨Nat.le_refl _, Nat.le_refl _⟩ (h hS)
