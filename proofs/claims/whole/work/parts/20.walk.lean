set_option maxRecDepth 20000 in
theorem tm_min_I_0 {l : Launch} {E : xm_E} {Q : Option Value → xm_M → Prop} (M : xm_M) (v0 : Int32) (v1 : Int32)
  (h : ((v1 < v0 → Q (some (.int v1)) M) ∧ (¬ v1 < v0 → Q (some (.int v0)) M))) :
  xm_X l E ym_min_I rmm_min_I Q 0 [(0, .int v0), (1, .int v1)] [] 0 0 M := by
  refine x_iload_n dm_min_I_0 0 rfl rfl ?_
  refine x_iload_n dm_min_I_1 1 rfl rfl ?_
  refine x_icmp_gt dm_min_I_2 (t := 9) (by decide) (fun g => ?_) (fun g => ?_)
  · have h := h.1 g
    refine x_iload_n dm_min_I_9 1 rfl rfl ?_
    exact x_ret (r := (some (.int v1))) dm_min_I_10 xm_rI rfl ⟨Nat.le_refl _, Nat.le_refl _⟩ h
  · have h := h.2 g
    refine x_iload_n dm_min_I_5 0 rfl rfl ?_
    refine x_goto dm_min_I_6 (t := 10) (by decide) ?_
    exact x_ret (r := (some (.int v0))) dm_min_I_10 xm_rI rfl ⟨Nat.le_refl _, Nat.le_refl _⟩ h

set_option maxRecDepth 20000 in
theorem tm_max_I_0 {l : Launch} {E : xm_E} {Q : Option Value → xm_M → Prop} (M : xm_M) (v0 : Int32) (v1 : Int32)
  (h : ((v0 < v1 → Q (some (.int v1)) M) ∧ (¬ v0 < v1 → Q (some (.int v0)) M))) :
  xm_X l E ym_max_I rmm_max_I Q 0 [(0, .int v0), (1, .int v1)] [] 0 0 M := by
  refine x_iload_n dm_max_I_0 0 rfl rfl ?_
  refine x_iload_n dm_max_I_1 1 rfl rfl ?_
  refine x_icmp_lt dm_max_I_2 (t := 9) (by decide) (fun g => ?_) (fun g => ?_)
  · have h := h.1 g
    refine x_iload_n dm_max_I_9 1 rfl rfl ?_
    exact x_ret (r := (some (.int v1))) dm_max_I_10 xm_rI rfl ⟨Nat.le_refl _, Nat.le_refl _⟩ h
  · have h := h.2 g
    refine x_iload_n dm_max_I_5 0 rfl rfl ?_
    refine x_goto dm_max_I_6 (t := 10) (by decide) ?_
    exact x_ret (r := (some (.int v0))) dm_max_I_10 xm_rI rfl ⟨Nat.le_refl _, Nat.le_refl _⟩ h

set_option maxRecDepth 20000 in
theorem tr_fill_J_0 {l : Launch} {E : xm_E} {Q : Option Value → xm_M → Prop} {n : Nat} (M : xm_M) (a0 : Nat) (w1 : Int64) (ha0 : xm_sh M a0 = some (.inl (n, .long)))
  (h : xm_X l E yr_fill_J rmr_fill_J Q 6 [(0, .ref a0), (1, .long w1), (3, .int (0 : Int32)), (4, .int (Int32.ofNat n))] [] 0 0 M) :
  xm_X l E yr_fill_J rmr_fill_J Q 0 [(0, .ref a0), (1, .long w1)] [] 0 0 M := by
  refine x_iconst dr_fill_J_0 qi_0 ?_
  refine x_istore_n dr_fill_J_1 rfl (by decide) (L' := [(3, .int (0 : Int32)), (0, .ref a0), (1, .long w1)]) rfl ?_
  refine x_aload_n dr_fill_J_2 1 rfl rfl ?_
  refine x_alen dr_fill_J_3 ha0 (by decide) ?_
  refine x_istore dr_fill_J_4 (by decide) (L' := [(4, .int (Int32.ofNat n)), (3, .int (0 : Int32)), (0, .ref a0), (1, .long w1)]) rfl ?_
  exact xm_X.sub [2, 3, 1, 0] rfl h
set_option maxRecDepth 20000 in
theorem tr_fill_J_6 {l : Launch} {E : xm_E} {Q : Option Value → xm_M → Prop} {n : Nat} (M : xm_M) (a0 : Nat) (w1 : Int64) (v3 : Int32) (v4 : Int32) (ha0 : xm_sh M a0 = some (.inl (n, .long)))
  (h : ((v4 ≤ v3 → Q none M) ∧ (¬ v4 ≤ v3 → (vp_in v3 n ∧ xm_X l E yr_fill_J rmr_fill_J Q 6 [(0, .ref a0), (1, .long w1), (3, .int (v3 + Int32.ofInt (1))), (4, .int v4)] [] 0 0 (xm_pl M a0 (Int32.toNatClampNeg v3) w1))))) :
  xm_X l E yr_fill_J rmr_fill_J Q 6 [(0, .ref a0), (1, .long w1), (3, .int v3), (4, .int v4)] [] 0 0 M := by
  refine x_iload_n dr_fill_J_6 2 rfl rfl ?_
  refine x_iload dr_fill_J_7 3 rfl ?_
  refine x_icmp_ge dr_fill_J_9 (t := 22) (by decide) (fun g => ?_) (fun g => ?_)
  · have h := h.1 g
    exact x_ret (r := none) dr_fill_J_22 xm_rN rfl ⟨Nat.le_refl _, Nat.le_refl _⟩ h
  · have h := h.2 g
    refine x_aload_n dr_fill_J_12 0 rfl rfl ?_
    refine x_iload_n dr_fill_J_13 2 rfl rfl ?_
    refine x_lload_n dr_fill_J_14 1 rfl rfl ?_
    obtain ⟨g1, h⟩ := h
    refine x_last dr_fill_J_15 ha0 g1 ?_
    refine x_iinc dr_fill_J_16 2 rfl rfl (by decide) (L' := [(3, .int (v3 + Int32.ofInt (1))), (0, .ref a0), (1, .long w1), (4, .int v4)]) rfl ?_
    refine x_goto dr_fill_J_19 (t := 6) (by decide) ?_
    exact xm_X.sub [1, 2, 0, 3] rfl h

set_option maxRecDepth 20000 in
theorem t1_append_0 {l : Launch} {E : xm_E} {b : Nat} {c p : Bool} {Q : Option Value → xm_M → Prop} (M : xm_M) (v1 : Int32) (v2 : Int32) (v3 : Int32) (v4 : Int32) (v5 : Int32) (hS : xm_st b c p M)
  (h : (((xm_gi M (b + 1) 2) < (48 : Int32) → (vp_in (xm_gi M (b + 1) 2) 48 ∧ (xm_st b c p (xm_pi (xm_pi (xm_pi (xm_pi (xm_pi (xm_pi M (b + 3 + (Int32.toNatClampNeg (xm_gi M (b + 1) 2))) 0 v1) (b + 3 + (Int32.toNatClampNeg (xm_gi M (b + 1) 2))) 1 v2) (b + 3 + (Int32.toNatClampNeg (xm_gi M (b + 1) 2))) 2 v3) (b + 3 + (Int32.toNatClampNeg (xm_gi M (b + 1) 2))) 3 v4) (b + 3 + (Int32.toNatClampNeg (xm_gi M (b + 1) 2))) 4 v5) (b + 1) 2 ((xm_gi (xm_pi (xm_pi (xm_pi (xm_pi (xm_pi M (b + 3 + (Int32.toNatClampNeg (xm_gi M (b + 1) 2))) 0 v1) (b + 3 + (Int32.toNatClampNeg (xm_gi M (b + 1) 2))) 1 v2) (b + 3 + (Int32.toNatClampNeg (xm_gi M (b + 1) 2))) 2 v3) (b + 3 + (Int32.toNatClampNeg (xm_gi M (b + 1) 2))) 3 v4) (b + 3 + (Int32.toNatClampNeg (xm_gi M (b + 1) 2))) 4 v5) (b + 1) 2) + (1 : Int32))) → Q (some (.int (1 : Int32))) (xm_pi (xm_pi (xm_pi (xm_pi (xm_pi (xm_pi M (b + 3 + (Int32.toNatClampNeg (xm_gi M (b + 1) 2))) 0 v1) (b + 3 + (Int32.toNatClampNeg (xm_gi M (b + 1) 2))) 1 v2) (b + 3 + (Int32.toNatClampNeg (xm_gi M (b + 1) 2))) 2 v3) (b + 3 + (Int32.toNatClampNeg (xm_gi M (b + 1) 2))) 3 v4) (b + 3 + (Int32.toNatClampNeg (xm_gi M (b + 1) 2))) 4 v5) (b + 1) 2 ((xm_gi (xm_pi (xm_pi (xm_pi (xm_pi (xm_pi M (b + 3 + (Int32.toNatClampNeg (xm_gi M (b + 1) 2))) 0 v1) (b + 3 + (Int32.toNatClampNeg (xm_gi M (b + 1) 2))) 1 v2) (b + 3 + (Int32.toNatClampNeg (xm_gi M (b + 1) 2))) 2 v3) (b + 3 + (Int32.toNatClampNeg (xm_gi M (b + 1) 2))) 3 v4) (b + 3 + (Int32.toNatClampNeg (xm_gi M (b + 1) 2))) 4 v5) (b + 1) 2) + (1 : Int32)))))) ∧ (¬ (xm_gi M (b + 1) 2) < (48 : Int32) → (xm_st b c p M → Q (some (.int (0 : Int32))) M)))) :
  xm_X l E y1_append rm1_append Q 0 [(0, .ref (b + 1)), (1, .int v1), (2, .int v2), (3, .int v3), (4, .int v4), (5, .int v5)] [] 0 0 M := by
  refine x_aload_n d1_append_0 0 rfl rfl ?_
  refine x_getI d1_append_1 fl1_22 (fun _ _ => rfl) (hS.1 _ _ (sh_1 b)) ?_
  refine x_bipush d1_append_4 qb_48 ?_
  refine x_icmp_lt d1_append_6 (t := 11) (by decide) (fun g => ?_) (fun g => ?_)
  · have h := h.1 g
    refine x_aload_n d1_append_11 0 rfl rfl ?_
    refine x_getR d1_append_12 fl1_11 (fun _ _ => rfl) (hS.1 _ _ (sh_1 b)) (hS.2.1 _ _ _ (pt_1_1 b)) ?_
    refine x_aload_n d1_append_15 0 rfl rfl ?_
    refine x_getI d1_append_16 fl1_22 (fun _ _ => rfl) (hS.1 _ _ (sh_1 b)) ?_
    obtain ⟨g1, h⟩ := h
    refine x_aald d1_append_19 (hS.1 _ _ (sh_2 b)) (by decide) rfl g1 (hS.2.1 _ _ _ (ptf_2 (vp_lt g1))) ?_
    refine x_astore d1_append_20 (by decide) (L' := [(6, .ref (b + 3 + (Int32.toNatClampNeg (xm_gi M (b + 1) 2)))), (0, .ref (b + 1)), (1, .int v1), (2, .int v2), (3, .int v3), (4, .int v4), (5, .int v5)]) rfl ?_
    refine x_aload d1_append_22 0 rfl ?_
    refine x_iload_n d1_append_24 2 rfl rfl ?_
    refine x_putI d1_append_25 fw1_25 (fun _ _ => rfl) rfl rfl (hS.1 _ _ (shf_2 (vp_lt g1))) ?_
    refine x_aload d1_append_28 0 rfl ?_
    refine x_iload_n d1_append_30 3 rfl rfl ?_
    refine x_putI d1_append_31 fw1_28 (fun _ _ => rfl) rfl rfl (hS.pi.1 _ _ (shf_2 (vp_lt g1))) ?_
    refine x_aload d1_append_34 0 rfl ?_
    refine x_iload_n d1_append_36 4 rfl rfl ?_
    refine x_putI d1_append_37 fw1_31 (fun _ _ => rfl) rfl rfl (hS.pi.pi.1 _ _ (shf_2 (vp_lt g1))) ?_
    refine x_aload d1_append_40 0 rfl ?_
    refine x_iload d1_append_42 5 rfl ?_
    refine x_putI d1_append_44 fw1_34 (fun _ _ => rfl) rfl rfl (hS.pi.pi.pi.1 _ _ (shf_2 (vp_lt g1))) ?_
    refine x_aload d1_append_47 0 rfl ?_
    refine x_iload d1_append_49 6 rfl ?_
    refine x_putI d1_append_51 fw1_37 (fun _ _ => rfl) rfl rfl (hS.pi.pi.pi.pi.1 _ _ (shf_2 (vp_lt g1))) ?_
    refine x_aload_n d1_append_54 1 rfl rfl ?_
    refine x_dup d1_append_55 rfl ?_
    refine x_getI d1_append_56 fl1_22 (fun _ _ => rfl) (hS.pi.pi.pi.pi.pi.1 _ _ (sh_1 b)) ?_
    refine x_iconst d1_append_59 qi_1 ?_
    refine x_iadd d1_append_60 ?_
    refine x_putI d1_append_61 fw1_22 (fun _ _ => rfl) rfl rfl (hS.pi.pi.pi.pi.pi.1 _ _ (sh_1 b)) ?_
    refine x_iconst d1_append_64 qi_1 ?_
    exact x_ret (r := (some (.int (1 : Int32)))) d1_append_65 (xm_rZ (Or.inr rfl)) rfl ⟨Nat.le_refl _, Nat.le_refl _⟩ (h hS.pi.pi.pi.pi.pi.pi)
  · have h := h.2 g
    refine x_iconst d1_append_9 qi_0 ?_
    exact x_ret (r := (some (.int (0 : Int32)))) d1_append_10 (xm_rZ (Or.inl rfl)) rfl ⟨Nat.le_refl _, Nat.le_refl _⟩ (h hS)

set_option maxRecDepth 20000 in
theorem t3_keep_0 {l : Launch} {E : xm_E} {b : Nat} {c p : Bool} {Q : Option Value → xm_M → Prop} (M : xm_M) (v1 : Int32) (hS : xm_st b c p M)
  (h : ((v1 < 0 → (xm_st b c p M → Q (some (.int (0 : Int32))) M)) ∧ (¬ v1 < 0 → ((v1 ≤ (xm_gi M (b + 51) 1) → (xm_st b c p (xm_pi M (b + 51) 1 v1) → Q (some (.int (1 : Int32))) (xm_pi M (b + 51) 1 v1))) ∧ (¬ v1 ≤ (xm_gi M (b + 51) 1) → (xm_st b c p M → Q (some (.int (0 : Int32))) M)))))) :
  xm_X l E y3_keep rm3_keep Q 0 [(0, .ref (b + 51)), (1, .int v1)] [] 0 0 M := by
  refine x_iload_n d3_keep_0 1 rfl rfl ?_
  refine x_if_lt d3_keep_1 (t := 12) (by decide) (fun g => ?_) (fun g => ?_)
  · have h := h.1 g
    refine x_iconst d3_keep_12 qi_0 ?_
    exact x_ret (r := (some (.int (0 : Int32)))) d3_keep_13 (xm_rZ (Or.inl rfl)) rfl ⟨Nat.le_refl _, Nat.le_refl _⟩ (h hS)
  · have h := h.2 g
    refine x_iload_n d3_keep_4 1 rfl rfl ?_
    refine x_aload_n d3_keep_5 0 rfl rfl ?_
    refine x_getI d3_keep_6 fl3_15 (fun _ _ => rfl) (hS.1 _ _ (sh_51 b)) ?_
    refine x_icmp_le d3_keep_9 (t := 14) (by decide) (fun g => ?_) (fun g => ?_)
    · have h := h.1 g
      refine x_aload_n d3_keep_14 0 rfl rfl ?_
      refine x_iload_n d3_keep_15 1 rfl rfl ?_
      refine x_putI d3_keep_16 fw3_15 (fun _ _ => rfl) rfl rfl (hS.1 _ _ (sh_51 b)) ?_
      refine x_iconst d3_keep_19 qi_1 ?_
      exact x_ret (r := (some (.int (1 : Int32)))) d3_keep_20 (xm_rZ (Or.inr rfl)) rfl ⟨Nat.le_refl _, Nat.le_refl _⟩ (h hS.pi)
    · have h := h.2 g
      refine x_iconst d3_keep_12 qi_0 ?_
      exact x_ret (r := (some (.int (0 : Int32)))) d3_keep_13 (xm_rZ (Or.inl rfl)) rfl ⟨Nat.le_refl _, Nat.le_refl _⟩ (h hS)

set_option maxRecDepth 20000 in
theorem t1_wrongPlace_0 {l : Launch} {E : xm_E} {b : Nat} {c p : Bool} {Q : Option Value → xm_M → Prop} (M : xm_M)  (hS : xm_st b c p M)
  (h : (xm_st b c p M → xm_X l E y1_wrongPlace rm1_wrongPlace Q 2 [(0, .ref (b + 1)), (1, .int (0 : Int32))] [] 0 0 M)) :
  xm_X l E y1_wrongPlace rm1_wrongPlace Q 0 [(0, .ref (b + 1))] [] 0 0 M := by
  refine x_iconst d1_wrongPlace_0 qi_0 ?_
  refine x_istore_n d1_wrongPlace_1 rfl (by decide) (L' := [(1, .int (0 : Int32)), (0, .ref (b + 1))]) rfl ?_
  exact xm_X.sub [1, 0] rfl (h hS)
set_option maxRecDepth 20000 in
theorem t1_wrongPlace_2 {l : Launch} {E : xm_E} {b : Nat} {c p : Bool} {Q : Option Value → xm_M → Prop} (M : xm_M) (v1 : Int32) (hS : xm_st b c p M)
  (h : (((xm_gi M (b + 1) 2) ≤ v1 → (((xm_gi M (b + 1) 2) ≤ 0 → (xm_st b c p M → Q (some (.int (xm_gi M (b + 1) 2))) M)) ∧ (¬ (xm_gi M (b + 1) 2) ≤ 0 → (vp_in ((xm_gi M (b + 1) 2) - (1 : Int32)) 48 ∧ ((¬ (xm_gi M (b + 3 + (Int32.toNatClampNeg ((xm_gi M (b + 1) 2) - (1 : Int32)))) 0) = 0 → (xm_st b c p M → Q (some (.int (xm_gi M (b + 1) 2))) M)) ∧ ((xm_gi M (b + 3 + (Int32.toNatClampNeg ((xm_gi M (b + 1) 2) - (1 : Int32)))) 0) = 0 → (xm_st b c p M → Q (some (.int (-2 : Int32))) M))))))) ∧ (¬ (xm_gi M (b + 1) 2) ≤ v1 → (vp_in v1 48 ∧ xm_C l E y2_isRight rm2_isRight [.ref (b + 3 + (Int32.toNatClampNeg v1)), .int v1, .int (xm_gi M (b + 1) 2)] M (fun r M3 => ∃ r4 : Bool, r = some (.int (xz r4)) ∧ xm_st b c p M3 ∧ ((¬ (xz r4) = 0 → (xm_st b c p M3 → xm_X l E y1_wrongPlace rm1_wrongPlace Q 2 [(0, .ref (b + 1)), (1, .int (v1 + Int32.ofInt (1)))] [] 0 0 M3)) ∧ ((xz r4) = 0 → (xm_st b c p M3 → Q (some (.int v1)) M3)))))))) :
  xm_X l E y1_wrongPlace rm1_wrongPlace Q 2 [(0, .ref (b + 1)), (1, .int v1)] [] 0 0 M := by
  refine x_iload_n d1_wrongPlace_2 1 rfl rfl ?_
  refine x_aload_n d1_wrongPlace_3 0 rfl rfl ?_
  refine x_getI d1_wrongPlace_4 fl1_22 (fun _ _ => rfl) (hS.1 _ _ (sh_1 b)) ?_
  refine x_icmp_ge d1_wrongPlace_7 (t := 35) (by decide) (fun g => ?_) (fun g => ?_)
  · have h := h.1 g
    refine x_aload_n d1_wrongPlace_35 0 rfl rfl ?_
    refine x_getI d1_wrongPlace_36 fl1_22 (fun _ _ => rfl) (hS.1 _ _ (sh_1 b)) ?_
    refine x_if_le d1_wrongPlace_39 (t := 63) (by decide) (fun g => ?_) (fun g => ?_)
    · have h := h.1 g
      refine x_iconst d1_wrongPlace_63 qi_0 ?_
      refine x_istore_n d1_wrongPlace_64 rfl (by decide) (L' := [(1, .int (0 : Int32)), (0, .ref (b + 1))]) rfl ?_
      refine x_iload_n d1_wrongPlace_65 0 rfl rfl ?_
      refine x_if_eq d1_wrongPlace_66 (t := 74) (by decide) (fun g => ?_) (fun g => ?_)
      · skip
        refine x_aload_n d1_wrongPlace_74 1 rfl rfl ?_
        refine x_getI d1_wrongPlace_75 fl1_22 (fun _ _ => rfl) (hS.1 _ _ (sh_1 b)) ?_
        exact x_ret (r := (some (.int (xm_gi M (b + 1) 2)))) d1_wrongPlace_78 xm_rI rfl ⟨Nat.le_refl _, Nat.le_refl _⟩ (h hS)
      · exact absurd g (by decide)
    · have h := h.2 g
      refine x_aload_n d1_wrongPlace_42 0 rfl rfl ?_
      refine x_getR d1_wrongPlace_43 fl1_11 (fun _ _ => rfl) (hS.1 _ _ (sh_1 b)) (hS.2.1 _ _ _ (pt_1_1 b)) ?_
      refine x_aload_n d1_wrongPlace_46 0 rfl rfl ?_
      refine x_getI d1_wrongPlace_47 fl1_22 (fun _ _ => rfl) (hS.1 _ _ (sh_1 b)) ?_
      refine x_iconst d1_wrongPlace_50 qi_1 ?_
      refine x_isub d1_wrongPlace_51 ?_
      obtain ⟨g1, h⟩ := h
      refine x_aald d1_wrongPlace_52 (hS.1 _ _ (sh_2 b)) (by decide) rfl g1 (hS.2.1 _ _ _ (ptf_2 (vp_lt g1))) ?_
      refine x_getI d1_wrongPlace_53 fl1_25 (fun _ _ => rfl) (hS.1 _ _ (shf_2 (vp_lt g1))) ?_
      refine x_if_ne d1_wrongPlace_56 (t := 63) (by decide) (fun g => ?_) (fun g => ?_)
      · have h := h.1 g
        refine x_iconst d1_wrongPlace_63 qi_0 ?_
        refine x_istore_n d1_wrongPlace_64 rfl (by decide) (L' := [(1, .int (0 : Int32)), (0, .ref (b + 1))]) rfl ?_
        refine x_iload_n d1_wrongPlace_65 0 rfl rfl ?_
        refine x_if_eq d1_wrongPlace_66 (t := 74) (by decide) (fun g => ?_) (fun g => ?_)
        · skip
          refine x_aload_n d1_wrongPlace_74 1 rfl rfl ?_
          refine x_getI d1_wrongPlace_75 fl1_22 (fun _ _ => rfl) (hS.1 _ _ (sh_1 b)) ?_
          exact x_ret (r := (some (.int (xm_gi M (b + 1) 2)))) d1_wrongPlace_78 xm_rI rfl ⟨Nat.le_refl _, Nat.le_refl _⟩ (h hS)
        · exact absurd g (by decide)
      · have h := h.2 g
        refine x_iconst d1_wrongPlace_59 qi_1 ?_
        refine x_goto d1_wrongPlace_60 (t := 64) (by decide) ?_
        refine x_istore_n d1_wrongPlace_64 rfl (by decide) (L' := [(1, .int (1 : Int32)), (0, .ref (b + 1))]) rfl ?_
        refine x_iload_n d1_wrongPlace_65 0 rfl rfl ?_
        refine x_if_eq d1_wrongPlace_66 (t := 74) (by decide) (fun g => ?_) (fun g => ?_)
        · exact absurd g (by decide)
        · skip
          refine x_bipush d1_wrongPlace_69 qb_n2 ?_
          refine x_goto d1_wrongPlace_71 (t := 78) (by decide) ?_
          exact x_ret (r := (some (.int (-2 : Int32)))) d1_wrongPlace_78 xm_rI rfl ⟨Nat.le_refl _, Nat.le_refl _⟩ (h hS)
  · have h := h.2 g
    refine x_aload_n d1_wrongPlace_10 0 rfl rfl ?_
    refine x_getR d1_wrongPlace_11 fl1_11 (fun _ _ => rfl) (hS.1 _ _ (sh_1 b)) (hS.2.1 _ _ _ (pt_1_1 b)) ?_
    refine x_iload_n d1_wrongPlace_14 1 rfl rfl ?_
    obtain ⟨g2, h⟩ := h
    refine x_aald d1_wrongPlace_15 (hS.1 _ _ (sh_2 b)) (by decide) rfl g2 (hS.2.1 _ _ _ (ptf_2 (vp_lt g2))) ?_
    refine x_iload_n d1_wrongPlace_16 1 rfl rfl ?_
    refine x_aload_n d1_wrongPlace_17 0 rfl rfl ?_
    refine x_getI d1_wrongPlace_18 fl1_22 (fun _ _ => rfl) (hS.1 _ _ (sh_1 b)) ?_
    refine x_cVZ (Z := y2_isRight) (S := rm2_isRight) (As := [.int v1, .int (xm_gi M (b + 1) 2)]) (rest := []) d1_wrongPlace_21 ml1_40 k2_isRight rfl (b := (b + 3 + (Int32.toNatClampNeg v1))) (hS.1 _ _ (shf_2 (vp_lt g2))) rfl rfl (Nat.le_of_ble_eq_true rfl) ⟨⟨by decide, by decide⟩, by decide, by decide⟩ ⟨rfl, rfl⟩ h (fun r4 M3 h => ?_)
    obtain ⟨hS, h⟩ := h
    refine x_if_ne d1_wrongPlace_24 (t := 29) (by decide) (fun g => ?_) (fun g => ?_)
    · have h := h.1 g
      refine x_iinc d1_wrongPlace_29 1 rfl rfl (by decide) (L' := [(1, .int (v1 + Int32.ofInt (1))), (0, .ref (b + 1))]) rfl ?_
      refine x_goto d1_wrongPlace_32 (t := 2) (by decide) ?_
      exact xm_X.sub [1, 0] rfl (h hS)
    · have h := h.2 g
      refine x_iload_n d1_wrongPlace_27 1 rfl rfl ?_
      exact x_ret (r := (some (.int v1))) d1_wrongPlace_28 xm_rI rfl ⟨Nat.le_refl _, Nat.le_refl _⟩ (h hS)

set_option maxRecDepth 20000 in
theorem t2_isRight_0 {l : Launch} {E : xm_E} {b : Nat} {c p : Bool} {Q : Option Value → xm_M → Prop} (M : xm_M) (a0 : Nat) (v1 : Int32) (v2 : Int32) (ha0 : xS b a0 = some (.inr 2)) (hS : xm_st b c p M)
  (h : xm_C l E y2_isRegister rm2_isRegister [.int (xm_gi M a0 1)] M (fun r M1 => ∃ r2 : Bool, r = some (.int (xz r2)) ∧ xm_st b c p M1 ∧ (((xz r2) = 0 → (xm_st b c p M1 → Q (some (.int (0 : Int32))) M1)) ∧ (¬ (xz r2) = 0 → xm_C l E y2_isRegister rm2_isRegister [.int (xm_gi M1 a0 2)] M1 (fun r M3 => ∃ r4 : Bool, r = some (.int (xz r4)) ∧ xm_st b c p M3 ∧ (((xz r4) = 0 → (xm_st b c p M3 → Q (some (.int (0 : Int32))) M3)) ∧ (¬ (xz r4) = 0 → xm_C l E y2_hasRightNumber rm2_hasRightNumber [.ref a0] M3 (fun r M5 => ∃ r6 : Bool, r = some (.int (xz r6)) ∧ xm_st b c p M5 ∧ (((xz r6) = 0 → (xm_st b c p M5 → Q (some (.int (0 : Int32))) M5)) ∧ (¬ (xz r6) = 0 → xm_C l E y2_hasRightTarget rm2_hasRightTarget [.ref a0, .int v1, .int v2] M5 (fun r M7 => ∃ r8 : Bool, r = some (.int (xz r8)) ∧ xm_st b c p M7 ∧ (((xz r8) = 0 → (xm_st b c p M7 → Q (some (.int (0 : Int32))) M7)) ∧ (¬ (xz r8) = 0 → (xm_st b c p M7 → Q (some (.int (1 : Int32))) M7)))))))))))))) :
  xm_X l E y2_isRight rm2_isRight Q 0 [(0, .ref a0), (1, .int v1), (2, .int v2)] [] 0 0 M := by
  refine x_aload_n d2_isRight_0 0 rfl rfl ?_
  refine x_getI d2_isRight_1 fl2_9 (fun _ _ => rfl) (hS.1 _ _ ha0) ?_
  refine x_cSZ (Z := y2_isRegister) (S := rm2_isRegister) (As := [.int (xm_gi M a0 1)]) (rest := []) d2_isRight_4 ml2_15 k2_isRegister rfl rfl (Nat.le_of_ble_eq_true rfl) ⟨⟨by decide, by decide⟩, by decide, by decide⟩ ⟨rfl, rfl⟩ h (fun r2 M1 h => ?_)
  obtain ⟨hS, h⟩ := h
  refine x_if_eq d2_isRight_7 (t := 40) (by decide) (fun g => ?_) (fun g => ?_)
  · have h := h.1 g
    refine x_iconst d2_isRight_40 qi_0 ?_
    exact x_ret (r := (some (.int (0 : Int32)))) d2_isRight_41 (xm_rZ (Or.inl rfl)) rfl ⟨Nat.le_refl _, Nat.le_refl _⟩ (h hS)
  · have h := h.2 g
    refine x_aload_n d2_isRight_10 0 rfl rfl ?_
    refine x_getI d2_isRight_11 fl2_19 (fun _ _ => rfl) (hS.1 _ _ ha0) ?_
    refine x_cSZ (Z := y2_isRegister) (S := rm2_isRegister) (As := [.int (xm_gi M1 a0 2)]) (rest := []) d2_isRight_14 ml2_15 k2_isRegister rfl rfl (Nat.le_of_ble_eq_true rfl) ⟨⟨by decide, by decide⟩, by decide, by decide⟩ ⟨rfl, rfl⟩ h (fun r4 M3 h => ?_)
    obtain ⟨hS, h⟩ := h
    refine x_if_eq d2_isRight_17 (t := 40) (by decide) (fun g => ?_) (fun g => ?_)
    · have h := h.1 g
      refine x_iconst d2_isRight_40 qi_0 ?_
      exact x_ret (r := (some (.int (0 : Int32)))) d2_isRight_41 (xm_rZ (Or.inl rfl)) rfl ⟨Nat.le_refl _, Nat.le_refl _⟩ (h hS)
    · have h := h.2 g
      refine x_aload_n d2_isRight_20 0 rfl rfl ?_
      refine x_cVZ (Z := y2_hasRightNumber) (S := rm2_hasRightNumber) (As := []) (rest := []) d2_isRight_21 ml2_22 k2_hasRightNumber rfl (b := a0) (hS.1 _ _ ha0) rfl rfl (Nat.le_of_ble_eq_true rfl) ⟨⟨by decide, by decide⟩, by decide, by decide⟩ ⟨rfl, rfl⟩ h (fun r6 M5 h => ?_)
      obtain ⟨hS, h⟩ := h
      refine x_if_eq d2_isRight_24 (t := 40) (by decide) (fun g => ?_) (fun g => ?_)
      · have h := h.1 g
        refine x_iconst d2_isRight_40 qi_0 ?_
        exact x_ret (r := (some (.int (0 : Int32)))) d2_isRight_41 (xm_rZ (Or.inl rfl)) rfl ⟨Nat.le_refl _, Nat.le_refl _⟩ (h hS)
      · have h := h.2 g
        refine x_aload_n d2_isRight_27 0 rfl rfl ?_
        refine x_iload_n d2_isRight_28 1 rfl rfl ?_
        refine x_iload_n d2_isRight_29 2 rfl rfl ?_
        refine x_cVZ (Z := y2_hasRightTarget) (S := rm2_hasRightTarget) (As := [.int v1, .int v2]) (rest := []) d2_isRight_30 ml2_26 k2_hasRightTarget rfl (b := a0) (hS.1 _ _ ha0) rfl rfl (Nat.le_of_ble_eq_true rfl) ⟨⟨by decide, by decide⟩, by decide, by decide⟩ ⟨rfl, rfl⟩ h (fun r8 M7 h => ?_)
        obtain ⟨hS, h⟩ := h
        refine x_if_eq d2_isRight_33 (t := 40) (by decide) (fun g => ?_) (fun g => ?_)
        · have h := h.1 g
          refine x_iconst d2_isRight_40 qi_0 ?_
          exact x_ret (r := (some (.int (0 : Int32)))) d2_isRight_41 (xm_rZ (Or.inl rfl)) rfl ⟨Nat.le_refl _, Nat.le_refl _⟩ (h hS)
        · have h := h.2 g
          refine x_iconst d2_isRight_36 qi_1 ?_
          refine x_goto d2_isRight_37 (t := 41) (by decide) ?_
          exact x_ret (r := (some (.int (1 : Int32)))) d2_isRight_41 (xm_rZ (Or.inr rfl)) rfl ⟨Nat.le_refl _, Nat.le_refl _⟩ (h hS)

set_option maxRecDepth 20000 in
theorem t2_isRegister_0 {l : Launch} {E : xm_E} {b : Nat} {c p : Bool} {Q : Option Value → xm_M → Prop} (M : xm_M) (v0 : Int32) (hS : xm_st b c p M)
  (h : ((v0 < 0 → (xm_st b c p M → Q (some (.int (0 : Int32))) M)) ∧ (¬ v0 < 0 → (((8 : Int32) ≤ v0 → (xm_st b c p M → Q (some (.int (0 : Int32))) M)) ∧ (¬ (8 : Int32) ≤ v0 → (xm_st b c p M → Q (some (.int (1 : Int32))) M)))))) :
  xm_X l E y2_isRegister rm2_isRegister Q 0 [(0, .int v0)] [] 0 0 M := by
  refine x_iload_n d2_isRegister_0 0 rfl rfl ?_
  refine x_if_lt d2_isRegister_1 (t := 14) (by decide) (fun g => ?_) (fun g => ?_)
  · have h := h.1 g
    refine x_iconst d2_isRegister_14 qi_0 ?_
    exact x_ret (r := (some (.int (0 : Int32)))) d2_isRegister_15 (xm_rZ (Or.inl rfl)) rfl ⟨Nat.le_refl _, Nat.le_refl _⟩ (h hS)
  · have h := h.2 g
    refine x_iload_n d2_isRegister_4 0 rfl rfl ?_
    refine x_bipush d2_isRegister_5 qb_8 ?_
    refine x_icmp_ge d2_isRegister_7 (t := 14) (by decide) (fun g => ?_) (fun g => ?_)
    · have h := h.1 g
      refine x_iconst d2_isRegister_14 qi_0 ?_
      exact x_ret (r := (some (.int (0 : Int32)))) d2_isRegister_15 (xm_rZ (Or.inl rfl)) rfl ⟨Nat.le_refl _, Nat.le_refl _⟩ (h hS)
    · have h := h.2 g
      refine x_iconst d2_isRegister_10 qi_1 ?_
      refine x_goto d2_isRegister_11 (t := 15) (by decide) ?_
      exact x_ret (r := (some (.int (1 : Int32)))) d2_isRegister_15 (xm_rZ (Or.inr rfl)) rfl ⟨Nat.le_refl _, Nat.le_refl _⟩ (h hS)

set_option maxRecDepth 20000 in
theorem t2_hasRightNumber_0 {l : Launch} {E : xm_E} {b : Nat} {c p : Bool} {Q : Option Value → xm_M → Prop} (M : xm_M) (a0 : Nat) (ha0 : xS b a0 = some (.inr 2)) (hS : xm_st b c p M)
  (h : ((¬ (xm_gi M a0 0) = (6 : Int32) → ((¬ (xm_gi M a0 0) = (7 : Int32) → (xm_st b c p M → Q (some (.int (1 : Int32))) M)) ∧ ((xm_gi M a0 0) = (7 : Int32) → (((xm_gi M a0 3) < (1 : Int32) → (xm_st b c p M → Q (some (.int (0 : Int32))) M)) ∧ (¬ (xm_gi M a0 3) < (1 : Int32) → (((31 : Int32) < (xm_gi M a0 3) → (xm_st b c p M → Q (some (.int (0 : Int32))) M)) ∧ (¬ (31 : Int32) < (xm_gi M a0 3) → (xm_st b c p M → Q (some (.int (1 : Int32))) M)))))))) ∧ ((xm_gi M a0 0) = (6 : Int32) → (((xm_gi M a0 3) < 0 → (xm_st b c p M → Q (some (.int (0 : Int32))) M)) ∧ (¬ (xm_gi M a0 3) < 0 → (xm_st b c p M → Q (some (.int (1 : Int32))) M)))))) :
  xm_X l E y2_hasRightNumber rm2_hasRightNumber Q 0 [(0, .ref a0)] [] 0 0 M := by
  refine x_aload_n d2_hasRightNumber_0 0 rfl rfl ?_
  refine x_getI d2_hasRightNumber_1 fl2_30 (fun _ _ => rfl) (hS.1 _ _ ha0) ?_
  refine x_bipush d2_hasRightNumber_4 qb_6 ?_
  refine x_icmp_ne d2_hasRightNumber_6 (t := 22) (by decide) (fun g => ?_) (fun g => ?_)
  · have h := h.1 g
    refine x_aload_n d2_hasRightNumber_22 0 rfl rfl ?_
    refine x_getI d2_hasRightNumber_23 fl2_30 (fun _ _ => rfl) (hS.1 _ _ ha0) ?_
    refine x_bipush d2_hasRightNumber_26 qb_7 ?_
    refine x_icmp_ne d2_hasRightNumber_28 (t := 48) (by decide) (fun g => ?_) (fun g => ?_)
    · have h := h.1 g
      refine x_iconst d2_hasRightNumber_48 qi_1 ?_
      refine x_goto d2_hasRightNumber_49 (t := 53) (by decide) ?_
      exact x_ret (r := (some (.int (1 : Int32)))) d2_hasRightNumber_53 (xm_rZ (Or.inr rfl)) rfl ⟨Nat.le_refl _, Nat.le_refl _⟩ (h hS)
    · have h := h.2 g
      refine x_aload_n d2_hasRightNumber_31 0 rfl rfl ?_
      refine x_getI d2_hasRightNumber_32 fl2_33 (fun _ _ => rfl) (hS.1 _ _ ha0) ?_
      refine x_iconst d2_hasRightNumber_35 qi_1 ?_
      refine x_icmp_lt d2_hasRightNumber_36 (t := 52) (by decide) (fun g => ?_) (fun g => ?_)
      · have h := h.1 g
        refine x_iconst d2_hasRightNumber_52 qi_0 ?_
        exact x_ret (r := (some (.int (0 : Int32)))) d2_hasRightNumber_53 (xm_rZ (Or.inl rfl)) rfl ⟨Nat.le_refl _, Nat.le_refl _⟩ (h hS)
      · have h := h.2 g
        refine x_aload_n d2_hasRightNumber_39 0 rfl rfl ?_
        refine x_getI d2_hasRightNumber_40 fl2_33 (fun _ _ => rfl) (hS.1 _ _ ha0) ?_
        refine x_bipush d2_hasRightNumber_43 qb_31 ?_
        refine x_icmp_gt d2_hasRightNumber_45 (t := 52) (by decide) (fun g => ?_) (fun g => ?_)
        · have h := h.1 g
          refine x_iconst d2_hasRightNumber_52 qi_0 ?_
          exact x_ret (r := (some (.int (0 : Int32)))) d2_hasRightNumber_53 (xm_rZ (Or.inl rfl)) rfl ⟨Nat.le_refl _, Nat.le_refl _⟩ (h hS)
        · have h := h.2 g
          refine x_iconst d2_hasRightNumber_48 qi_1 ?_
          refine x_goto d2_hasRightNumber_49 (t := 53) (by decide) ?_
          exact x_ret (r := (some (.int (1 : Int32)))) d2_hasRightNumber_53 (xm_rZ (Or.inr rfl)) rfl ⟨Nat.le_refl _, Nat.le_refl _⟩ (h hS)
  · have h := h.2 g
    refine x_aload_n d2_hasRightNumber_9 0 rfl rfl ?_
    refine x_getI d2_hasRightNumber_10 fl2_33 (fun _ _ => rfl) (hS.1 _ _ ha0) ?_
    refine x_if_lt d2_hasRightNumber_13 (t := 20) (by decide) (fun g => ?_) (fun g => ?_)
    · have h := h.1 g
      refine x_iconst d2_hasRightNumber_20 qi_0 ?_
      exact x_ret (r := (some (.int (0 : Int32)))) d2_hasRightNumber_21 (xm_rZ (Or.inl rfl)) rfl ⟨Nat.le_refl _, Nat.le_refl _⟩ (h hS)
    · have h := h.2 g
      refine x_iconst d2_hasRightNumber_16 qi_1 ?_
      refine x_goto d2_hasRightNumber_17 (t := 21) (by decide) ?_
      exact x_ret (r := (some (.int (1 : Int32)))) d2_hasRightNumber_21 (xm_rZ (Or.inr rfl)) rfl ⟨Nat.le_refl _, Nat.le_refl _⟩ (h hS)

set_option maxRecDepth 20000 in
theorem t2_hasRightTarget_0 {l : Launch} {E : xm_E} {b : Nat} {c p : Bool} {Q : Option Value → xm_M → Prop} (M : xm_M) (a0 : Nat) (v1 : Int32) (v2 : Int32) (ha0 : xS b a0 = some (.inr 2)) (hS : xm_st b c p M)
  (h : (((xm_gi M a0 0) < (13 : Int32) → (xm_st b c p M → Q (some (.int (1 : Int32))) M)) ∧ (¬ (xm_gi M a0 0) < (13 : Int32) → (((xm_gi M a0 4) ≤ v1 → (xm_st b c p M → Q (some (.int (0 : Int32))) M)) ∧ (¬ (xm_gi M a0 4) ≤ v1 → ((v2 ≤ (xm_gi M a0 4) → (xm_st b c p M → Q (some (.int (0 : Int32))) M)) ∧ (¬ v2 ≤ (xm_gi M a0 4) → (xm_st b c p M → Q (some (.int (1 : Int32))) M)))))))) :
  xm_X l E y2_hasRightTarget rm2_hasRightTarget Q 0 [(0, .ref a0), (1, .int v1), (2, .int v2)] [] 0 0 M := by
  refine x_aload_n d2_hasRightTarget_0 0 rfl rfl ?_
  refine x_getI d2_hasRightTarget_1 fl2_30 (fun _ _ => rfl) (hS.1 _ _ ha0) ?_
  refine x_bipush d2_hasRightTarget_4 qb_13 ?_
  refine x_icmp_lt d2_hasRightTarget_6 (t := 25) (by decide) (fun g => ?_) (fun g => ?_)
  · have h := h.1 g
    refine x_iconst d2_hasRightTarget_25 qi_1 ?_
    refine x_goto d2_hasRightTarget_26 (t := 30) (by decide) ?_
    exact x_ret (r := (some (.int (1 : Int32)))) d2_hasRightTarget_30 (xm_rZ (Or.inr rfl)) rfl ⟨Nat.le_refl _, Nat.le_refl _⟩ (h hS)
  · have h := h.2 g
    refine x_aload_n d2_hasRightTarget_9 0 rfl rfl ?_
    refine x_getI d2_hasRightTarget_10 fl2_36 (fun _ _ => rfl) (hS.1 _ _ ha0) ?_
    refine x_iload_n d2_hasRightTarget_13 1 rfl rfl ?_
    refine x_icmp_le d2_hasRightTarget_14 (t := 29) (by decide) (fun g => ?_) (fun g => ?_)
    · have h := h.1 g
      refine x_iconst d2_hasRightTarget_29 qi_0 ?_
      exact x_ret (r := (some (.int (0 : Int32)))) d2_hasRightTarget_30 (xm_rZ (Or.inl rfl)) rfl ⟨Nat.le_refl _, Nat.le_refl _⟩ (h hS)
    · have h := h.2 g
      refine x_aload_n d2_hasRightTarget_17 0 rfl rfl ?_
      refine x_getI d2_hasRightTarget_18 fl2_36 (fun _ _ => rfl) (hS.1 _ _ ha0) ?_
      refine x_iload_n d2_hasRightTarget_21 2 rfl rfl ?_
      refine x_icmp_ge d2_hasRightTarget_22 (t := 29) (by decide) (fun g => ?_) (fun g => ?_)
      · have h := h.1 g
        refine x_iconst d2_hasRightTarget_29 qi_0 ?_
        exact x_ret (r := (some (.int (0 : Int32)))) d2_hasRightTarget_30 (xm_rZ (Or.inl rfl)) rfl ⟨Nat.le_refl _, Nat.le_refl _⟩ (h hS)
      · have h := h.2 g
        refine x_iconst d2_hasRightTarget_25 qi_1 ?_
        refine x_goto d2_hasRightTarget_26 (t := 30) (by decide) ?_
        exact x_ret (r := (some (.int (1 : Int32)))) d2_hasRightTarget_30 (xm_rZ (Or.inr rfl)) rfl ⟨Nat.le_refl _, Nat.le_refl _⟩ (h hS)

set_option maxRecDepth 20000 in
theorem t7_becomeBeginning_0 {l : Launch} {E : xm_E} {b : Nat} {c p : Bool} {Q : Option Value → xm_M → Prop} (M : xm_M) (a0 : Nat) (v1 : Int32) (v2 : Int32) (ha0 : xS b a0 = some (.inr 7)) (hS : xm_st b c p M)
  (h : ((v1 < 0 → (xm_st b c p M → Q (some (.int (0 : Int32))) M)) ∧ (¬ v1 < 0 → ((v1 < (18 : Int32) → (((2 : Int32) ≤ v1 → (((16 : Int32) ≤ v1 → ((¬ v1 = (16 : Int32) → xm_C l E y7_become rm7_become [.ref a0, .int (9 : Int32), .int (0 : Int32), .long (1024 : Int64)] M (fun r M1 => ∃ r2 : Bool, r = some (.int (xz r2)) ∧ xm_st b c p M1 ∧ (xm_st b c p M1 → Q (some (.int (xz r2))) M1))) ∧ (v1 = (16 : Int32) → xm_C l E y7_become rm7_become [.ref a0, .int (0 : Int32), .int (9 : Int32), .long (-(Int32.toInt64 v2))] M (fun r M3 => ∃ r4 : Bool, r = some (.int (xz r4)) ∧ xm_st b c p M3 ∧ (xm_st b c p M3 → Q (some (.int (xz r4))) M3))))) ∧ (¬ (16 : Int32) ≤ v1 → ((¬ ((v1 - (2 : Int32)) / (2 : Int32)) = 0 → xm_C l E y7_becomePair rm7_becomePair [.ref a0, .int (v1 - v1 / (2 : Int32) * (2 : Int32)), .int ((1 : Int32) + (((v1 - (2 : Int32)) / (2 : Int32)) + (1 : Int32))), .int (0 : Int32), .long (0 : Int64), .long (0 : Int64)] M (fun r M5 => ∃ r6 : Bool, r = some (.int (xz r6)) ∧ xm_st b c p M5 ∧ (xm_st b c p M5 → Q (some (.int (xz r6))) M5))) ∧ (((v1 - (2 : Int32)) / (2 : Int32)) = 0 → xm_C l E y7_becomePair rm7_becomePair [.ref a0, .int (v1 - v1 / (2 : Int32) * (2 : Int32)), .int ((1 : Int32) + (0 : Int32)), .int (0 : Int32), .long (0 : Int64), .long (0 : Int64)] M (fun r M7 => ∃ r8 : Bool, r = some (.int (xz r8)) ∧ xm_st b c p M7 ∧ (xm_st b c p M7 → Q (some (.int (xz r8))) M7))))))) ∧ (¬ (2 : Int32) ≤ v1 → xm_C l E y7_becomePair rm7_becomePair [.ref a0, .int v1, .int (2 : Int32), .int (9 : Int32), .long (0 : Int64), .long (0 : Int64)] M (fun r M9 => ∃ r10 : Bool, r = some (.int (xz r10)) ∧ xm_st b c p M9 ∧ (xm_st b c p M9 → Q (some (.int (xz r10))) M9))))) ∧ (¬ v1 < (18 : Int32) → (xm_st b c p M → Q (some (.int (0 : Int32))) M)))))) :
  xm_X l E y7_becomeBeginning rm7_becomeBeginning Q 0 [(0, .ref a0), (1, .int v1), (2, .int v2)] [] 0 0 M := by
  refine x_iload_n d7_becomeBeginning_0 1 rfl rfl ?_
  refine x_if_lt d7_becomeBeginning_1 (t := 10) (by decide) (fun g => ?_) (fun g => ?_)
  · have h := h.1 g
    refine x_iconst d7_becomeBeginning_10 qi_0 ?_
    exact x_ret (r := (some (.int (0 : Int32)))) d7_becomeBeginning_11 (xm_rZ (Or.inl rfl)) rfl ⟨Nat.le_refl _, Nat.le_refl _⟩ (h hS)
  · have h := h.2 g
    refine x_iload_n d7_becomeBeginning_4 1 rfl rfl ?_
    refine x_bipush d7_becomeBeginning_5 qb_18 ?_
    refine x_icmp_lt d7_becomeBeginning_7 (t := 12) (by decide) (fun g => ?_) (fun g => ?_)
    · have h := h.1 g
      refine x_iload_n d7_becomeBeginning_12 1 rfl rfl ?_
      refine x_iconst d7_becomeBeginning_13 qi_2 ?_
      refine x_icmp_ge d7_becomeBeginning_14 (t := 28) (by decide) (fun g => ?_) (fun g => ?_)
      · have h := h.1 g
        refine x_iload_n d7_becomeBeginning_28 1 rfl rfl ?_
        refine x_bipush d7_becomeBeginning_29 qb_16 ?_
        refine x_icmp_ge d7_becomeBeginning_31 (t := 68) (by decide) (fun g => ?_) (fun g => ?_)
        · have h := h.1 g
          refine x_iload_n d7_becomeBeginning_68 1 rfl rfl ?_
          refine x_bipush d7_becomeBeginning_69 qb_16 ?_
          refine x_icmp_ne d7_becomeBeginning_71 (t := 87) (by decide) (fun g => ?_) (fun g => ?_)
          · have h := h.1 g
            refine x_aload_n d7_becomeBeginning_87 0 rfl rfl ?_
            refine x_bipush d7_becomeBeginning_88 qb_9 ?_
            refine x_iconst d7_becomeBeginning_90 qi_0 ?_
            refine x_ldc2 d7_becomeBeginning_91 lc7_30 ?_
            refine x_cVZ (Z := y7_become) (S := rm7_become) (As := [.int (9 : Int32), .int (0 : Int32), .long (1024 : Int64)]) (rest := []) d7_becomeBeginning_94 ml7_26 k7_become rfl (b := a0) (hS.1 _ _ ha0) rfl rfl (Nat.le_of_ble_eq_true rfl) ⟨⟨by decide, by decide⟩, by decide, by decide⟩ ⟨rfl, rfl⟩ h (fun r2 M1 h => ?_)
            obtain ⟨hS, h⟩ := h
            exact x_ret (r := (some (.int (xz r2)))) d7_becomeBeginning_97 (xm_rZ (xz_01 _)) rfl ⟨Nat.le_refl _, Nat.le_refl _⟩ (h hS)
          · have h := h.2 g
            refine x_aload_n d7_becomeBeginning_74 0 rfl rfl ?_
            refine x_iconst d7_becomeBeginning_75 qi_0 ?_
            refine x_bipush d7_becomeBeginning_76 qb_9 ?_
            refine x_iload_n d7_becomeBeginning_78 2 rfl rfl ?_
            refine x_i2l d7_becomeBeginning_79 ?_
            refine x_lneg d7_becomeBeginning_80 ?_
            refine x_cVZ (Z := y7_become) (S := rm7_become) (As := [.int (0 : Int32), .int (9 : Int32), .long (-(Int32.toInt64 v2))]) (rest := []) d7_becomeBeginning_81 ml7_26 k7_become rfl (b := a0) (hS.1 _ _ ha0) rfl rfl (Nat.le_of_ble_eq_true rfl) ⟨⟨by decide, by decide⟩, by decide, by decide⟩ ⟨rfl, rfl⟩ h (fun r4 M3 h => ?_)
            obtain ⟨hS, h⟩ := h
            refine x_goto d7_becomeBeginning_84 (t := 97) (by decide) ?_
            exact x_ret (r := (some (.int (xz r4)))) d7_becomeBeginning_97 (xm_rZ (xz_01 _)) rfl ⟨Nat.le_refl _, Nat.le_refl _⟩ (h hS)
        · have h := h.2 g
          refine x_iload_n d7_becomeBeginning_34 1 rfl rfl ?_
          refine x_iconst d7_becomeBeginning_35 qi_2 ?_
          refine x_isub d7_becomeBeginning_36 ?_
          refine x_iconst d7_becomeBeginning_37 qi_2 ?_
          refine x_idiv d7_becomeBeginning_38 (by decide) ?_
          refine x_istore_n d7_becomeBeginning_39 rfl (by decide) (L' := [(3, .int ((v1 - (2 : Int32)) / (2 : Int32))), (0, .ref a0), (1, .int v1), (2, .int v2)]) rfl ?_
          refine x_iload_n d7_becomeBeginning_40 0 rfl rfl ?_
          refine x_if_ne d7_becomeBeginning_41 (t := 48) (by decide) (fun g => ?_) (fun g => ?_)
          · have h := h.1 g
            refine x_iload_n d7_becomeBeginning_48 0 rfl rfl ?_
            refine x_iconst d7_becomeBeginning_49 qi_1 ?_
            refine x_iadd d7_becomeBeginning_50 ?_
            refine x_istore d7_becomeBeginning_51 (by decide) (L' := [(4, .int (((v1 - (2 : Int32)) / (2 : Int32)) + (1 : Int32))), (3, .int ((v1 - (2 : Int32)) / (2 : Int32))), (0, .ref a0), (1, .int v1), (2, .int v2)]) rfl ?_
            refine x_aload_n d7_becomeBeginning_53 2 rfl rfl ?_
            refine x_iload_n d7_becomeBeginning_54 3 rfl rfl ?_
            refine x_iconst d7_becomeBeginning_55 qi_2 ?_
            refine x_irem d7_becomeBeginning_56 (by decide) ?_
            refine x_iconst d7_becomeBeginning_57 qi_1 ?_
            refine x_iload d7_becomeBeginning_58 0 rfl ?_
            refine x_iadd d7_becomeBeginning_60 ?_
            refine x_iconst d7_becomeBeginning_61 qi_0 ?_
            refine x_lconst d7_becomeBeginning_62 ql_0 ?_
            refine x_lconst d7_becomeBeginning_63 ql_0 ?_
            refine x_cVZ (Z := y7_becomePair) (S := rm7_becomePair) (As := [.int (v1 - v1 / (2 : Int32) * (2 : Int32)), .int ((1 : Int32) + (((v1 - (2 : Int32)) / (2 : Int32)) + (1 : Int32))), .int (0 : Int32), .long (0 : Int64), .long (0 : Int64)]) (rest := []) d7_becomeBeginning_64 ml7_22 k7_becomePair rfl (b := a0) (hS.1 _ _ ha0) rfl rfl (Nat.le_of_ble_eq_true rfl) ⟨⟨by decide, by decide⟩, by decide, by decide⟩ ⟨rfl, rfl⟩ h (fun r6 M5 h => ?_)
            obtain ⟨hS, h⟩ := h
            exact x_ret (r := (some (.int (xz r6)))) d7_becomeBeginning_67 (xm_rZ (xz_01 _)) rfl ⟨Nat.le_refl _, Nat.le_refl _⟩ (h hS)
          · have h := h.2 g
            refine x_iconst d7_becomeBeginning_44 qi_0 ?_
            refine x_goto d7_becomeBeginning_45 (t := 51) (by decide) ?_
            refine x_istore d7_becomeBeginning_51 (by decide) (L' := [(4, .int (0 : Int32)), (3, .int ((v1 - (2 : Int32)) / (2 : Int32))), (0, .ref a0), (1, .int v1), (2, .int v2)]) rfl ?_
            refine x_aload_n d7_becomeBeginning_53 2 rfl rfl ?_
            refine x_iload_n d7_becomeBeginning_54 3 rfl rfl ?_
            refine x_iconst d7_becomeBeginning_55 qi_2 ?_
            refine x_irem d7_becomeBeginning_56 (by decide) ?_
            refine x_iconst d7_becomeBeginning_57 qi_1 ?_
            refine x_iload d7_becomeBeginning_58 0 rfl ?_
            refine x_iadd d7_becomeBeginning_60 ?_
            refine x_iconst d7_becomeBeginning_61 qi_0 ?_
            refine x_lconst d7_becomeBeginning_62 ql_0 ?_
            refine x_lconst d7_becomeBeginning_63 ql_0 ?_
            refine x_cVZ (Z := y7_becomePair) (S := rm7_becomePair) (As := [.int (v1 - v1 / (2 : Int32) * (2 : Int32)), .int ((1 : Int32) + (0 : Int32)), .int (0 : Int32), .long (0 : Int64), .long (0 : Int64)]) (rest := []) d7_becomeBeginning_64 ml7_22 k7_becomePair rfl (b := a0) (hS.1 _ _ ha0) rfl rfl (Nat.le_of_ble_eq_true rfl) ⟨⟨by decide, by decide⟩, by decide, by decide⟩ ⟨rfl, rfl⟩ h (fun r8 M7 h => ?_)
            obtain ⟨hS, h⟩ := h
            exact x_ret (r := (some (.int (xz r8)))) d7_becomeBeginning_67 (xm_rZ (xz_01 _)) rfl ⟨Nat.le_refl _, Nat.le_refl _⟩ (h hS)
      · have h := h.2 g
        refine x_aload_n d7_becomeBeginning_17 0 rfl rfl ?_
        refine x_iload_n d7_becomeBeginning_18 1 rfl rfl ?_
        refine x_iconst d7_becomeBeginning_19 qi_2 ?_
        refine x_bipush d7_becomeBeginning_20 qb_9 ?_
        refine x_lconst d7_becomeBeginning_22 ql_0 ?_
        refine x_lconst d7_becomeBeginning_23 ql_0 ?_
        refine x_cVZ (Z := y7_becomePair) (S := rm7_becomePair) (As := [.int v1, .int (2 : Int32), .int (9 : Int32), .long (0 : Int64), .long (0 : Int64)]) (rest := []) d7_becomeBeginning_24 ml7_22 k7_becomePair rfl (b := a0) (hS.1 _ _ ha0) rfl rfl (Nat.le_of_ble_eq_true rfl) ⟨⟨by decide, by decide⟩, by decide, by decide⟩ ⟨rfl, rfl⟩ h (fun r10 M9 h => ?_)
        obtain ⟨hS, h⟩ := h
        exact x_ret (r := (some (.int (xz r10)))) d7_becomeBeginning_27 (xm_rZ (xz_01 _)) rfl ⟨Nat.le_refl _, Nat.le_refl _⟩ (h hS)
    · have h := h.2 g
      refine x_iconst d7_becomeBeginning_10 qi_0 ?_
      exact x_ret (r := (some (.int (0 : Int32)))) d7_becomeBeginning_11 (xm_rZ (Or.inl rfl)) rfl ⟨Nat.le_refl _, Nat.le_refl _⟩ (h hS)

set_option maxRecDepth 20000 in
theorem t7_becomePair_0 {l : Launch} {E : xm_E} {b : Nat} {c p : Bool} {Q : Option Value → xm_M → Prop} (M : xm_M) (a0 : Nat) (v1 : Int32) (v2 : Int32) (v3 : Int32) (w4 : Int64) (w6 : Int64) (ha0 : xS b a0 = some (.inr 7)) (hS : xm_st b c p M)
  (h : ((¬ v1 = 0 → ((¬ v1 = (1 : Int32) → (xm_st b c p (xm_pl (xm_pi (xm_pi M a0 0 v3) a0 1 v2) a0 2 w6) → Q (some (.int (0 : Int32))) (xm_pl (xm_pi (xm_pi M a0 0 v3) a0 1 v2) a0 2 w6))) ∧ (v1 = (1 : Int32) → (xm_st b c p (xm_pl (xm_pi (xm_pi M a0 0 v3) a0 1 v2) a0 2 w6) → Q (some (.int (1 : Int32))) (xm_pl (xm_pi (xm_pi M a0 0 v3) a0 1 v2) a0 2 w6))))) ∧ (v1 = 0 → (xm_st b c p (xm_pl (xm_pi (xm_pi M a0 0 v2) a0 1 v3) a0 2 w4) → Q (some (.int (1 : Int32))) (xm_pl (xm_pi (xm_pi M a0 0 v2) a0 1 v3) a0 2 w4))))) :
  xm_X l E y7_becomePair rm7_becomePair Q 0 [(0, .ref a0), (1, .int v1), (2, .int v2), (3, .int v3), (4, .long w4), (6, .long w6)] [] 0 0 M := by
  refine x_iload_n d7_becomePair_0 1 rfl rfl ?_
  refine x_if_ne d7_becomePair_1 (t := 8) (by decide) (fun g => ?_) (fun g => ?_)
  · have h := h.1 g
    refine x_iconst d7_becomePair_8 qi_0 ?_
    refine x_istore d7_becomePair_9 (by decide) (L' := [(8, .int (0 : Int32)), (0, .ref a0), (1, .int v1), (2, .int v2), (3, .int v3), (4, .long w4), (6, .long w6)]) rfl ?_
    refine x_aload_n d7_becomePair_11 1 rfl rfl ?_
    refine x_iload d7_becomePair_12 0 rfl ?_
    refine x_if_eq d7_becomePair_14 (t := 21) (by decide) (fun g => ?_) (fun g => ?_)
    · skip
      refine x_iload_n d7_becomePair_21 4 rfl rfl ?_
      refine x_putI d7_becomePair_22 fw7_9 (fun _ _ => rfl) rfl rfl (hS.1 _ _ ha0) ?_
      refine x_aload_n d7_becomePair_25 1 rfl rfl ?_
      refine x_iload d7_becomePair_26 0 rfl ?_
      refine x_if_eq d7_becomePair_28 (t := 35) (by decide) (fun g => ?_) (fun g => ?_)
      · skip
        refine x_iload_n d7_becomePair_35 3 rfl rfl ?_
        refine x_putI d7_becomePair_36 fw7_15 (fun _ _ => rfl) rfl rfl (hS.pi.1 _ _ ha0) ?_
        refine x_aload_n d7_becomePair_39 1 rfl rfl ?_
        refine x_iload d7_becomePair_40 0 rfl ?_
        refine x_if_eq d7_becomePair_42 (t := 50) (by decide) (fun g => ?_) (fun g => ?_)
        · skip
          refine x_lload d7_becomePair_50 6 rfl ?_
          refine x_putL d7_becomePair_52 fw7_18 (fun _ _ => rfl) rfl rfl (hS.pi.pi.1 _ _ ha0) ?_
          refine x_iload d7_becomePair_55 0 rfl ?_
          refine x_if_ne d7_becomePair_57 (t := 65) (by decide) (fun g => ?_) (fun g => ?_)
          · exact absurd g (by decide)
          · skip
            refine x_iload_n d7_becomePair_60 2 rfl rfl ?_
            refine x_iconst d7_becomePair_61 qi_1 ?_
            refine x_icmp_ne d7_becomePair_62 (t := 69) (by decide) (fun g => ?_) (fun g => ?_)
            · have h := h.1 g
              refine x_iconst d7_becomePair_69 qi_0 ?_
              exact x_ret (r := (some (.int (0 : Int32)))) d7_becomePair_70 (xm_rZ (Or.inl rfl)) rfl ⟨Nat.le_refl _, Nat.le_refl _⟩ (h hS.pi.pi.pl)
            · have h := h.2 g
              refine x_iconst d7_becomePair_65 qi_1 ?_
              refine x_goto d7_becomePair_66 (t := 70) (by decide) ?_
              exact x_ret (r := (some (.int (1 : Int32)))) d7_becomePair_70 (xm_rZ (Or.inr rfl)) rfl ⟨Nat.le_refl _, Nat.le_refl _⟩ (h hS.pi.pi.pl)
        · exact absurd g (by decide)
      · exact absurd g (by decide)
    · exact absurd g (by decide)
  · have h := h.2 g
    refine x_iconst d7_becomePair_4 qi_1 ?_
    refine x_goto d7_becomePair_5 (t := 9) (by decide) ?_
    refine x_istore d7_becomePair_9 (by decide) (L' := [(8, .int (1 : Int32)), (0, .ref a0), (1, .int v1), (2, .int v2), (3, .int v3), (4, .long w4), (6, .long w6)]) rfl ?_
    refine x_aload_n d7_becomePair_11 1 rfl rfl ?_
    refine x_iload d7_becomePair_12 0 rfl ?_
    refine x_if_eq d7_becomePair_14 (t := 21) (by decide) (fun g => ?_) (fun g => ?_)
    · exact absurd g (by decide)
    · skip
      refine x_iload_n d7_becomePair_17 3 rfl rfl ?_
      refine x_goto d7_becomePair_18 (t := 22) (by decide) ?_
      refine x_putI d7_becomePair_22 fw7_9 (fun _ _ => rfl) rfl rfl (hS.1 _ _ ha0) ?_
      refine x_aload_n d7_becomePair_25 1 rfl rfl ?_
      refine x_iload d7_becomePair_26 0 rfl ?_
      refine x_if_eq d7_becomePair_28 (t := 35) (by decide) (fun g => ?_) (fun g => ?_)
      · exact absurd g (by decide)
      · skip
        refine x_iload_n d7_becomePair_31 4 rfl rfl ?_
        refine x_goto d7_becomePair_32 (t := 36) (by decide) ?_
        refine x_putI d7_becomePair_36 fw7_15 (fun _ _ => rfl) rfl rfl (hS.pi.1 _ _ ha0) ?_
        refine x_aload_n d7_becomePair_39 1 rfl rfl ?_
        refine x_iload d7_becomePair_40 0 rfl ?_
        refine x_if_eq d7_becomePair_42 (t := 50) (by decide) (fun g => ?_) (fun g => ?_)
        · exact absurd g (by decide)
        · skip
          refine x_lload d7_becomePair_45 5 rfl ?_
          refine x_goto d7_becomePair_47 (t := 52) (by decide) ?_
          refine x_putL d7_becomePair_52 fw7_18 (fun _ _ => rfl) rfl rfl (hS.pi.pi.1 _ _ ha0) ?_
          refine x_iload d7_becomePair_55 0 rfl ?_
          refine x_if_ne d7_becomePair_57 (t := 65) (by decide) (fun g => ?_) (fun g => ?_)
          · skip
            refine x_iconst d7_becomePair_65 qi_1 ?_
            refine x_goto d7_becomePair_66 (t := 70) (by decide) ?_
            exact x_ret (r := (some (.int (1 : Int32)))) d7_becomePair_70 (xm_rZ (Or.inr rfl)) rfl ⟨Nat.le_refl _, Nat.le_refl _⟩ (h hS.pi.pi.pl)
          · exact absurd g (by decide)

set_option maxRecDepth 20000 in
theorem t7_become_0 {l : Launch} {E : xm_E} {b : Nat} {c p : Bool} {Q : Option Value → xm_M → Prop} (M : xm_M) (a0 : Nat) (v1 : Int32) (v2 : Int32) (w3 : Int64) (ha0 : xS b a0 = some (.inr 7)) (hS : xm_st b c p M)
  (h : (xm_st b c p (xm_pl (xm_pi (xm_pi M a0 0 v1) a0 1 v2) a0 2 w3) → Q (some (.int (1 : Int32))) (xm_pl (xm_pi (xm_pi M a0 0 v1) a0 1 v2) a0 2 w3))) :
  xm_X l E y7_become rm7_become Q 0 [(0, .ref a0), (1, .int v1), (2, .int v2), (3, .long w3)] [] 0 0 M := by
  refine x_aload_n d7_become_0 0 rfl rfl ?_
  refine x_iload_n d7_become_1 1 rfl rfl ?_
  refine x_putI d7_become_2 fw7_9 (fun _ _ => rfl) rfl rfl (hS.1 _ _ ha0) ?_
  refine x_aload_n d7_become_5 0 rfl rfl ?_
  refine x_iload_n d7_become_6 2 rfl rfl ?_
  refine x_putI d7_become_7 fw7_15 (fun _ _ => rfl) rfl rfl (hS.pi.1 _ _ ha0) ?_
  refine x_aload_n d7_become_10 0 rfl rfl ?_
  refine x_lload_n d7_become_11 3 rfl rfl ?_
  refine x_putL d7_become_12 fw7_18 (fun _ _ => rfl) rfl rfl (hS.pi.pi.1 _ _ ha0) ?_
  refine x_iconst d7_become_15 qi_1 ?_
  exact x_ret (r := (some (.int (1 : Int32)))) d7_become_16 (xm_rZ (Or.inr rfl)) rfl ⟨Nat.le_refl _, Nat.le_refl _⟩ (h hS.pi.pi.pl)

set_option maxRecDepth 20000 in
theorem tm_min_J_0 {l : Launch} {E : xm_E} {Q : Option Value → xm_M → Prop} (M : xm_M) (w0 : Int64) (w2 : Int64)
  (h : ((w2 < w0 → Q (some (.long w2)) M) ∧ (¬ w2 < w0 → Q (some (.long w0)) M))) :
  xm_X l E ym_min_J rmm_min_J Q 0 [(0, .long w0), (2, .long w2)] [] 0 0 M := by
  refine x_lload_n dm_min_J_0 0 rfl rfl ?_
  refine x_lload_n dm_min_J_1 1 rfl rfl ?_
  refine x_lc_gt dm_min_J_2 dm_min_J_3 rfl rfl (t := 10) (by decide) (fun g => ?_) (fun g => ?_)
  · have h := h.1 g
    refine x_lload_n dm_min_J_10 1 rfl rfl ?_
    exact x_ret (r := (some (.long w2))) dm_min_J_11 xm_rJ rfl ⟨Nat.le_refl _, Nat.le_refl _⟩ h
  · have h := h.2 g
    refine x_lload_n dm_min_J_6 0 rfl rfl ?_
    refine x_goto dm_min_J_7 (t := 11) (by decide) ?_
    exact x_ret (r := (some (.long w0))) dm_min_J_11 xm_rJ rfl ⟨Nat.le_refl _, Nat.le_refl _⟩ h

set_option maxRecDepth 20000 in
theorem tm_max_J_0 {l : Launch} {E : xm_E} {Q : Option Value → xm_M → Prop} (M : xm_M) (w0 : Int64) (w2 : Int64)
  (h : ((w0 < w2 → Q (some (.long w2)) M) ∧ (¬ w0 < w2 → Q (some (.long w0)) M))) :
  xm_X l E ym_max_J rmm_max_J Q 0 [(0, .long w0), (2, .long w2)] [] 0 0 M := by
  refine x_lload_n dm_max_J_0 0 rfl rfl ?_
  refine x_lload_n dm_max_J_1 1 rfl rfl ?_
  refine x_lc_lt dm_max_J_2 dm_max_J_3 rfl rfl (t := 10) (by decide) (fun g => ?_) (fun g => ?_)
  · have h := h.1 g
    refine x_lload_n dm_max_J_10 1 rfl rfl ?_
    exact x_ret (r := (some (.long w2))) dm_max_J_11 xm_rJ rfl ⟨Nat.le_refl _, Nat.le_refl _⟩ h
  · have h := h.2 g
    refine x_lload_n dm_max_J_6 0 rfl rfl ?_
    refine x_goto dm_max_J_7 (t := 11) (by decide) ?_
    exact x_ret (r := (some (.long w0))) dm_max_J_11 xm_rJ rfl ⟨Nat.le_refl _, Nat.le_refl _⟩ h

set_option maxRecDepth 20000 in
theorem t2_edgeCount_0 {l : Launch} {E : xm_E} {b : Nat} {c p : Bool} {Q : Option Value → xm_M → Prop} (M : xm_M) (a0 : Nat) (ha0 : xS b a0 = some (.inr 2)) (hS : xm_st b c p M)
  (h : ((¬ (xm_gi M a0 0) = 0 → (((xm_gi M a0 0) < (14 : Int32) → (xm_st b c p M → Q (some (.int (1 : Int32))) M)) ∧ (¬ (xm_gi M a0 0) < (14 : Int32) → (xm_st b c p M → Q (some (.int (2 : Int32))) M)))) ∧ ((xm_gi M a0 0) = 0 → (xm_st b c p M → Q (some (.int (0 : Int32))) M)))) :
  xm_X l E y2_edgeCount rm2_edgeCount Q 0 [(0, .ref a0)] [] 0 0 M := by
  refine x_aload_n d2_edgeCount_0 0 rfl rfl ?_
  refine x_getI d2_edgeCount_1 fl2_30 (fun _ _ => rfl) (hS.1 _ _ ha0) ?_
  refine x_if_ne d2_edgeCount_4 (t := 9) (by decide) (fun g => ?_) (fun g => ?_)
  · have h := h.1 g
    refine x_aload_n d2_edgeCount_9 0 rfl rfl ?_
    refine x_getI d2_edgeCount_10 fl2_30 (fun _ _ => rfl) (hS.1 _ _ ha0) ?_
    refine x_bipush d2_edgeCount_13 qb_14 ?_
    refine x_icmp_lt d2_edgeCount_15 (t := 22) (by decide) (fun g => ?_) (fun g => ?_)
    · have h := h.1 g
      refine x_iconst d2_edgeCount_22 qi_1 ?_
      exact x_ret (r := (some (.int (1 : Int32)))) d2_edgeCount_23 xm_rI rfl ⟨Nat.le_refl _, Nat.le_refl _⟩ (h hS)
    · have h := h.2 g
      refine x_iconst d2_edgeCount_18 qi_2 ?_
      refine x_goto d2_edgeCount_19 (t := 23) (by decide) ?_
      exact x_ret (r := (some (.int (2 : Int32)))) d2_edgeCount_23 xm_rI rfl ⟨Nat.le_refl _, Nat.le_refl _⟩ (h hS)
  · have h := h.2 g
    refine x_iconst d2_edgeCount_7 qi_0 ?_
    exact x_ret (r := (some (.int (0 : Int32)))) d2_edgeCount_8 xm_rI rfl ⟨Nat.le_refl _, Nat.le_refl _⟩ (h hS)

set_option maxRecDepth 20000 in
theorem t7_carryOver_0 {l : Launch} {E : xm_E} {b : Nat} {c p : Bool} {Q : Option Value → xm_M → Prop} (M : xm_M) (a0 : Nat) (a1 : Nat) (ha0 : xS b a0 = some (.inr 7)) (ha1 : xS b a1 = some (.inr 2)) (hS : xm_st b c p M)
  (h : (((xm_gi M a0 0) = ((1 : Int32) + (xm_gi M a1 1)) → xm_C l E y2_changesRegister rm2_changesRegister [.ref a1] M (fun r M1 => ∃ r2 : Bool, r = some (.int (xz r2)) ∧ xm_st b c p M1 ∧ ((¬ (xz r2) = 0 → ((¬ (xm_gi M1 a1 0) = (3 : Int32) → ((¬ (xm_gi M1 a1 0) = (5 : Int32) → (xm_st b c p M1 → Q (some (.int (0 : Int32))) M1)) ∧ ((xm_gi M1 a1 0) = (5 : Int32) → ((¬ (xm_gi M1 a1 1) = (xm_gi M1 a1 2) → ((¬ (xm_gi M1 a0 0) = ((1 : Int32) + (xm_gi M a1 1)) → ((¬ (xm_gi M1 a0 0) = ((1 : Int32) + (xm_gi M1 a1 2)) → (xm_st b c p M1 → Q (some (.int (0 : Int32))) M1)) ∧ ((xm_gi M1 a0 0) = ((1 : Int32) + (xm_gi M1 a1 2)) → ((¬ (xm_gi M1 a0 1) = ((1 : Int32) + (xm_gi M a1 1)) → (xm_st b c p M1 → Q (some (.int (0 : Int32))) M1)) ∧ ((xm_gi M1 a0 1) = ((1 : Int32) + (xm_gi M a1 1)) → (xm_st b c p (xm_pi M1 a0 0 (0 : Int32)) → Q (some (.int (1 : Int32))) (xm_pi M1 a0 0 (0 : Int32)))))))) ∧ ((xm_gi M1 a0 0) = ((1 : Int32) + (xm_gi M a1 1)) → ((¬ (xm_gi M1 a0 1) = ((1 : Int32) + (xm_gi M1 a1 2)) → ((¬ (xm_gi M1 a0 0) = ((1 : Int32) + (xm_gi M1 a1 2)) → (xm_st b c p M1 → Q (some (.int (0 : Int32))) M1)) ∧ ((xm_gi M1 a0 0) = ((1 : Int32) + (xm_gi M1 a1 2)) → ((¬ (xm_gi M1 a0 1) = ((1 : Int32) + (xm_gi M a1 1)) → (xm_st b c p M1 → Q (some (.int (0 : Int32))) M1)) ∧ ((xm_gi M1 a0 1) = ((1 : Int32) + (xm_gi M a1 1)) → (xm_st b c p (xm_pi M1 a0 0 (0 : Int32)) → Q (some (.int (1 : Int32))) (xm_pi M1 a0 0 (0 : Int32)))))))) ∧ ((xm_gi M1 a0 1) = ((1 : Int32) + (xm_gi M1 a1 2)) → (xm_st b c p (xm_pi M1 a0 1 (0 : Int32)) → Q (some (.int (1 : Int32))) (xm_pi M1 a0 1 (0 : Int32)))))))) ∧ ((xm_gi M1 a1 1) = (xm_gi M1 a1 2) → (xm_st b c p M1 → Q (some (.int (0 : Int32))) M1)))))) ∧ ((xm_gi M1 a1 0) = (3 : Int32) → ((¬ (xm_gi M1 a0 0) = ((1 : Int32) + (xm_gi M a1 1)) → (xm_st b c p (xm_pl M1 a0 2 ((xm_gl M1 a0 2) + (-(Int32.toInt64 (xm_gi M1 a1 3))))) → Q (some (.int (1 : Int32))) (xm_pl M1 a0 2 ((xm_gl M1 a0 2) + (-(Int32.toInt64 (xm_gi M1 a1 3))))))) ∧ ((xm_gi M1 a0 0) = ((1 : Int32) + (xm_gi M a1 1)) → (xm_st b c p (xm_pl M1 a0 2 ((xm_gl M1 a0 2) + (Int32.toInt64 (xm_gi M1 a1 3)))) → Q (some (.int (1 : Int32))) (xm_pl M1 a0 2 ((xm_gl M1 a0 2) + (Int32.toInt64 (xm_gi M1 a1 3)))))))))) ∧ ((xz r2) = 0 → (xm_st b c p M1 → Q (some (.int (1 : Int32))) M1))))) ∧ (¬ (xm_gi M a0 0) = ((1 : Int32) + (xm_gi M a1 1)) → ((¬ (xm_gi M a0 1) = ((1 : Int32) + (xm_gi M a1 1)) → (xm_st b c p M → Q (some (.int (1 : Int32))) M)) ∧ ((xm_gi M a0 1) = ((1 : Int32) + (xm_gi M a1 1)) → xm_C l E y2_changesRegister rm2_changesRegister [.ref a1] M (fun r M3 => ∃ r4 : Bool, r = some (.int (xz r4)) ∧ xm_st b c p M3 ∧ ((¬ (xz r4) = 0 → ((¬ (xm_gi M3 a1 0) = (3 : Int32) → ((¬ (xm_gi M3 a1 0) = (5 : Int32) → (xm_st b c p M3 → Q (some (.int (0 : Int32))) M3)) ∧ ((xm_gi M3 a1 0) = (5 : Int32) → ((¬ (xm_gi M3 a1 1) = (xm_gi M3 a1 2) → ((¬ (xm_gi M3 a0 0) = ((1 : Int32) + (xm_gi M a1 1)) → ((¬ (xm_gi M3 a0 0) = ((1 : Int32) + (xm_gi M3 a1 2)) → (xm_st b c p M3 → Q (some (.int (0 : Int32))) M3)) ∧ ((xm_gi M3 a0 0) = ((1 : Int32) + (xm_gi M3 a1 2)) → ((¬ (xm_gi M3 a0 1) = ((1 : Int32) + (xm_gi M a1 1)) → (xm_st b c p M3 → Q (some (.int (0 : Int32))) M3)) ∧ ((xm_gi M3 a0 1) = ((1 : Int32) + (xm_gi M a1 1)) → (xm_st b c p (xm_pi M3 a0 0 (0 : Int32)) → Q (some (.int (1 : Int32))) (xm_pi M3 a0 0 (0 : Int32)))))))) ∧ ((xm_gi M3 a0 0) = ((1 : Int32) + (xm_gi M a1 1)) → ((¬ (xm_gi M3 a0 1) = ((1 : Int32) + (xm_gi M3 a1 2)) → ((¬ (xm_gi M3 a0 0) = ((1 : Int32) + (xm_gi M3 a1 2)) → (xm_st b c p M3 → Q (some (.int (0 : Int32))) M3)) ∧ ((xm_gi M3 a0 0) = ((1 : Int32) + (xm_gi M3 a1 2)) → ((¬ (xm_gi M3 a0 1) = ((1 : Int32) + (xm_gi M a1 1)) → (xm_st b c p M3 → Q (some (.int (0 : Int32))) M3)) ∧ ((xm_gi M3 a0 1) = ((1 : Int32) + (xm_gi M a1 1)) → (xm_st b c p (xm_pi M3 a0 0 (0 : Int32)) → Q (some (.int (1 : Int32))) (xm_pi M3 a0 0 (0 : Int32)))))))) ∧ ((xm_gi M3 a0 1) = ((1 : Int32) + (xm_gi M3 a1 2)) → (xm_st b c p (xm_pi M3 a0 1 (0 : Int32)) → Q (some (.int (1 : Int32))) (xm_pi M3 a0 1 (0 : Int32)))))))) ∧ ((xm_gi M3 a1 1) = (xm_gi M3 a1 2) → (xm_st b c p M3 → Q (some (.int (0 : Int32))) M3)))))) ∧ ((xm_gi M3 a1 0) = (3 : Int32) → ((¬ (xm_gi M3 a0 0) = ((1 : Int32) + (xm_gi M a1 1)) → (xm_st b c p (xm_pl M3 a0 2 ((xm_gl M3 a0 2) + (-(Int32.toInt64 (xm_gi M3 a1 3))))) → Q (some (.int (1 : Int32))) (xm_pl M3 a0 2 ((xm_gl M3 a0 2) + (-(Int32.toInt64 (xm_gi M3 a1 3))))))) ∧ ((xm_gi M3 a0 0) = ((1 : Int32) + (xm_gi M a1 1)) → (xm_st b c p (xm_pl M3 a0 2 ((xm_gl M3 a0 2) + (Int32.toInt64 (xm_gi M3 a1 3)))) → Q (some (.int (1 : Int32))) (xm_pl M3 a0 2 ((xm_gl M3 a0 2) + (Int32.toInt64 (xm_gi M3 a1 3)))))))))) ∧ ((xz r4) = 0 → (xm_st b c p M3 → Q (some (.int (1 : Int32))) M3))))))))) :
  xm_X l E y7_carryOver rm7_carryOver Q 0 [(0, .ref a0), (1, .ref a1)] [] 0 0 M := by
  refine x_iconst d7_carryOver_0 qi_1 ?_
  refine x_aload_n d7_carryOver_1 1 rfl rfl ?_
  refine x_getI d7_carryOver_2 fl7_32 (fun _ _ => rfl) (hS.1 _ _ ha1) ?_
  refine x_iadd d7_carryOver_5 ?_
  refine x_istore_n d7_carryOver_6 rfl (by decide) (L' := [(2, .int ((1 : Int32) + (xm_gi M a1 1))), (0, .ref a0), (1, .ref a1)]) rfl ?_
  refine x_aload_n d7_carryOver_7 1 rfl rfl ?_
  refine x_getI d7_carryOver_8 fl7_9 (fun _ _ => rfl) (hS.1 _ _ ha0) ?_
  refine x_iload_n d7_carryOver_11 0 rfl rfl ?_
  refine x_icmp_eq d7_carryOver_12 (t := 23) (by decide) (fun g => ?_) (fun g => ?_)
  · have h := h.1 g
    refine x_aload_n d7_carryOver_23 2 rfl rfl ?_
    refine x_cVZ (Z := y2_changesRegister) (S := rm2_changesRegister) (As := []) (rest := []) d7_carryOver_24 ml7_37 k2_changesRegister rfl (b := a1) (hS.1 _ _ ha1) rfl rfl (Nat.le_of_ble_eq_true rfl) ⟨⟨by decide, by decide⟩, by decide, by decide⟩ ⟨rfl, rfl⟩ h (fun r2 M1 h => ?_)
    obtain ⟨hS, h⟩ := h
    refine x_if_ne d7_carryOver_27 (t := 32) (by decide) (fun g => ?_) (fun g => ?_)
    · have h := h.1 g
      refine x_aload_n d7_carryOver_32 2 rfl rfl ?_
      refine x_getI d7_carryOver_33 fl7_41 (fun _ _ => rfl) (hS.1 _ _ ha1) ?_
      refine x_iconst d7_carryOver_36 qi_3 ?_
      refine x_icmp_ne d7_carryOver_37 (t := 73) (by decide) (fun g => ?_) (fun g => ?_)
      · have h := h.1 g
        refine x_aload_n d7_carryOver_73 2 rfl rfl ?_
        refine x_getI d7_carryOver_74 fl7_41 (fun _ _ => rfl) (hS.1 _ _ ha1) ?_
        refine x_iconst d7_carryOver_77 qi_5 ?_
        refine x_icmp_ne d7_carryOver_78 (t := 92) (by decide) (fun g => ?_) (fun g => ?_)
        · have h := h.1 g
          refine x_iconst d7_carryOver_92 qi_0 ?_
          exact x_ret (r := (some (.int (0 : Int32)))) d7_carryOver_93 (xm_rZ (Or.inl rfl)) rfl ⟨Nat.le_refl _, Nat.le_refl _⟩ (h hS)
        · have h := h.2 g
          refine x_aload_n d7_carryOver_81 2 rfl rfl ?_
          refine x_getI d7_carryOver_82 fl7_32 (fun _ _ => rfl) (hS.1 _ _ ha1) ?_
          refine x_aload_n d7_carryOver_85 2 rfl rfl ?_
          refine x_getI d7_carryOver_86 fl7_47 (fun _ _ => rfl) (hS.1 _ _ ha1) ?_
          refine x_icmp_ne d7_carryOver_89 (t := 94) (by decide) (fun g => ?_) (fun g => ?_)
          · have h := h.1 g
            refine x_iconst d7_carryOver_94 qi_1 ?_
            refine x_aload_n d7_carryOver_95 2 rfl rfl ?_
            refine x_getI d7_carryOver_96 fl7_47 (fun _ _ => rfl) (hS.1 _ _ ha1) ?_
            refine x_iadd d7_carryOver_99 ?_
            refine x_istore_n d7_carryOver_100 rfl (by decide) (L' := [(3, .int ((1 : Int32) + (xm_gi M1 a1 2))), (2, .int ((1 : Int32) + (xm_gi M a1 1))), (0, .ref a0), (1, .ref a1)]) rfl ?_
            refine x_aload_n d7_carryOver_101 2 rfl rfl ?_
            refine x_getI d7_carryOver_102 fl7_9 (fun _ _ => rfl) (hS.1 _ _ ha0) ?_
            refine x_iload_n d7_carryOver_105 1 rfl rfl ?_
            refine x_icmp_ne d7_carryOver_106 (t := 124) (by decide) (fun g => ?_) (fun g => ?_)
            · have h := h.1 g
              refine x_aload_n d7_carryOver_124 2 rfl rfl ?_
              refine x_getI d7_carryOver_125 fl7_9 (fun _ _ => rfl) (hS.1 _ _ ha0) ?_
              refine x_iload_n d7_carryOver_128 0 rfl rfl ?_
              refine x_icmp_ne d7_carryOver_129 (t := 147) (by decide) (fun g => ?_) (fun g => ?_)
              · have h := h.1 g
                refine x_iconst d7_carryOver_147 qi_0 ?_
                exact x_ret (r := (some (.int (0 : Int32)))) d7_carryOver_148 (xm_rZ (Or.inl rfl)) rfl ⟨Nat.le_refl _, Nat.le_refl _⟩ (h hS)
              · have h := h.2 g
                refine x_aload_n d7_carryOver_132 2 rfl rfl ?_
                refine x_getI d7_carryOver_133 fl7_15 (fun _ _ => rfl) (hS.1 _ _ ha0) ?_
                refine x_iload_n d7_carryOver_136 1 rfl rfl ?_
                refine x_icmp_ne d7_carryOver_137 (t := 147) (by decide) (fun g => ?_) (fun g => ?_)
                · have h := h.1 g
                  refine x_iconst d7_carryOver_147 qi_0 ?_
                  exact x_ret (r := (some (.int (0 : Int32)))) d7_carryOver_148 (xm_rZ (Or.inl rfl)) rfl ⟨Nat.le_refl _, Nat.le_refl _⟩ (h hS)
                · have h := h.2 g
                  refine x_aload_n d7_carryOver_140 2 rfl rfl ?_
                  refine x_iconst d7_carryOver_141 qi_0 ?_
                  refine x_putI d7_carryOver_142 fw7_9 (fun _ _ => rfl) rfl rfl (hS.1 _ _ ha0) ?_
                  refine x_iconst d7_carryOver_145 qi_1 ?_
                  exact x_ret (r := (some (.int (1 : Int32)))) d7_carryOver_146 (xm_rZ (Or.inr rfl)) rfl ⟨Nat.le_refl _, Nat.le_refl _⟩ (h hS.pi)
            · have h := h.2 g
              refine x_aload_n d7_carryOver_109 2 rfl rfl ?_
              refine x_getI d7_carryOver_110 fl7_15 (fun _ _ => rfl) (hS.1 _ _ ha0) ?_
              refine x_iload_n d7_carryOver_113 0 rfl rfl ?_
              refine x_icmp_ne d7_carryOver_114 (t := 124) (by decide) (fun g => ?_) (fun g => ?_)
              · have h := h.1 g
                refine x_aload_n d7_carryOver_124 2 rfl rfl ?_
                refine x_getI d7_carryOver_125 fl7_9 (fun _ _ => rfl) (hS.1 _ _ ha0) ?_
                refine x_iload_n d7_carryOver_128 0 rfl rfl ?_
                refine x_icmp_ne d7_carryOver_129 (t := 147) (by decide) (fun g => ?_) (fun g => ?_)
                · have h := h.1 g
                  refine x_iconst d7_carryOver_147 qi_0 ?_
                  exact x_ret (r := (some (.int (0 : Int32)))) d7_carryOver_148 (xm_rZ (Or.inl rfl)) rfl ⟨Nat.le_refl _, Nat.le_refl _⟩ (h hS)
                · have h := h.2 g
                  refine x_aload_n d7_carryOver_132 2 rfl rfl ?_
                  refine x_getI d7_carryOver_133 fl7_15 (fun _ _ => rfl) (hS.1 _ _ ha0) ?_
                  refine x_iload_n d7_carryOver_136 1 rfl rfl ?_
                  refine x_icmp_ne d7_carryOver_137 (t := 147) (by decide) (fun g => ?_) (fun g => ?_)
                  · have h := h.1 g
                    refine x_iconst d7_carryOver_147 qi_0 ?_
                    exact x_ret (r := (some (.int (0 : Int32)))) d7_carryOver_148 (xm_rZ (Or.inl rfl)) rfl ⟨Nat.le_refl _, Nat.le_refl _⟩ (h hS)
                  · have h := h.2 g
                    refine x_aload_n d7_carryOver_140 2 rfl rfl ?_
                    refine x_iconst d7_carryOver_141 qi_0 ?_
                    refine x_putI d7_carryOver_142 fw7_9 (fun _ _ => rfl) rfl rfl (hS.1 _ _ ha0) ?_
                    refine x_iconst d7_carryOver_145 qi_1 ?_
                    exact x_ret (r := (some (.int (1 : Int32)))) d7_carryOver_146 (xm_rZ (Or.inr rfl)) rfl ⟨Nat.le_refl _, Nat.le_refl _⟩ (h hS.pi)
              · have h := h.2 g
                refine x_aload_n d7_carryOver_117 2 rfl rfl ?_
                refine x_iconst d7_carryOver_118 qi_0 ?_
                refine x_putI d7_carryOver_119 fw7_15 (fun _ _ => rfl) rfl rfl (hS.1 _ _ ha0) ?_
                refine x_iconst d7_carryOver_122 qi_1 ?_
                exact x_ret (r := (some (.int (1 : Int32)))) d7_carryOver_123 (xm_rZ (Or.inr rfl)) rfl ⟨Nat.le_refl _, Nat.le_refl _⟩ (h hS.pi)
          · have h := h.2 g
            refine x_iconst d7_carryOver_92 qi_0 ?_
            exact x_ret (r := (some (.int (0 : Int32)))) d7_carryOver_93 (xm_rZ (Or.inl rfl)) rfl ⟨Nat.le_refl _, Nat.le_refl _⟩ (h hS)
      · have h := h.2 g
        refine x_aload_n d7_carryOver_40 1 rfl rfl ?_
        refine x_dup d7_carryOver_41 rfl ?_
        refine x_getL d7_carryOver_42 fl7_18 (fun _ _ => rfl) (hS.1 _ _ ha0) ?_
        refine x_aload_n d7_carryOver_45 1 rfl rfl ?_
        refine x_getI d7_carryOver_46 fl7_9 (fun _ _ => rfl) (hS.1 _ _ ha0) ?_
        refine x_iload_n d7_carryOver_49 0 rfl rfl ?_
        refine x_icmp_ne d7_carryOver_50 (t := 61) (by decide) (fun g => ?_) (fun g => ?_)
        · have h := h.1 g
          refine x_aload_n d7_carryOver_61 2 rfl rfl ?_
          refine x_getI d7_carryOver_62 fl7_44 (fun _ _ => rfl) (hS.1 _ _ ha1) ?_
          refine x_i2l d7_carryOver_65 ?_
          refine x_lneg d7_carryOver_66 ?_
          refine x_ladd d7_carryOver_67 ?_
          refine x_putL d7_carryOver_68 fw7_18 (fun _ _ => rfl) rfl rfl (hS.1 _ _ ha0) ?_
          refine x_iconst d7_carryOver_71 qi_1 ?_
          exact x_ret (r := (some (.int (1 : Int32)))) d7_carryOver_72 (xm_rZ (Or.inr rfl)) rfl ⟨Nat.le_refl _, Nat.le_refl _⟩ (h hS.pl)
        · have h := h.2 g
          refine x_aload_n d7_carryOver_53 2 rfl rfl ?_
          refine x_getI d7_carryOver_54 fl7_44 (fun _ _ => rfl) (hS.1 _ _ ha1) ?_
          refine x_i2l d7_carryOver_57 ?_
          refine x_goto d7_carryOver_58 (t := 67) (by decide) ?_
          refine x_ladd d7_carryOver_67 ?_
          refine x_putL d7_carryOver_68 fw7_18 (fun _ _ => rfl) rfl rfl (hS.1 _ _ ha0) ?_
          refine x_iconst d7_carryOver_71 qi_1 ?_
          exact x_ret (r := (some (.int (1 : Int32)))) d7_carryOver_72 (xm_rZ (Or.inr rfl)) rfl ⟨Nat.le_refl _, Nat.le_refl _⟩ (h hS.pl)
    · have h := h.2 g
      refine x_iconst d7_carryOver_30 qi_1 ?_
      exact x_ret (r := (some (.int (1 : Int32)))) d7_carryOver_31 (xm_rZ (Or.inr rfl)) rfl ⟨Nat.le_refl _, Nat.le_refl _⟩ (h hS)
  · have h := h.2 g
    refine x_aload_n d7_carryOver_15 1 rfl rfl ?_
    refine x_getI d7_carryOver_16 fl7_15 (fun _ _ => rfl) (hS.1 _ _ ha0) ?_
    refine x_iload_n d7_carryOver_19 0 rfl rfl ?_
    refine x_icmp_ne d7_carryOver_20 (t := 30) (by decide) (fun g => ?_) (fun g => ?_)
    · have h := h.1 g
      refine x_iconst d7_carryOver_30 qi_1 ?_
      exact x_ret (r := (some (.int (1 : Int32)))) d7_carryOver_31 (xm_rZ (Or.inr rfl)) rfl ⟨Nat.le_refl _, Nat.le_refl _⟩ (h hS)
    · have h := h.2 g
      refine x_aload_n d7_carryOver_23 2 rfl rfl ?_
      refine x_cVZ (Z := y2_changesRegister) (S := rm2_changesRegister) (As := []) (rest := []) d7_carryOver_24 ml7_37 k2_changesRegister rfl (b := a1) (hS.1 _ _ ha1) rfl rfl (Nat.le_of_ble_eq_true rfl) ⟨⟨by decide, by decide⟩, by decide, by decide⟩ ⟨rfl, rfl⟩ h (fun r4 M3 h => ?_)
      obtain ⟨hS, h⟩ := h
      refine x_if_ne d7_carryOver_27 (t := 32) (by decide) (fun g => ?_) (fun g => ?_)
      · have h := h.1 g
        refine x_aload_n d7_carryOver_32 2 rfl rfl ?_
        refine x_getI d7_carryOver_33 fl7_41 (fun _ _ => rfl) (hS.1 _ _ ha1) ?_
        refine x_iconst d7_carryOver_36 qi_3 ?_
        refine x_icmp_ne d7_carryOver_37 (t := 73) (by decide) (fun g => ?_) (fun g => ?_)
        · have h := h.1 g
          refine x_aload_n d7_carryOver_73 2 rfl rfl ?_
          refine x_getI d7_carryOver_74 fl7_41 (fun _ _ => rfl) (hS.1 _ _ ha1) ?_
          refine x_iconst d7_carryOver_77 qi_5 ?_
          refine x_icmp_ne d7_carryOver_78 (t := 92) (by decide) (fun g => ?_) (fun g => ?_)
          · have h := h.1 g
            refine x_iconst d7_carryOver_92 qi_0 ?_
            exact x_ret (r := (some (.int (0 : Int32)))) d7_carryOver_93 (xm_rZ (Or.inl rfl)) rfl ⟨Nat.le_refl _, Nat.le_refl _⟩ (h hS)
          · have h := h.2 g
            refine x_aload_n d7_carryOver_81 2 rfl rfl ?_
            refine x_getI d7_carryOver_82 fl7_32 (fun _ _ => rfl) (hS.1 _ _ ha1) ?_
            refine x_aload_n d7_carryOver_85 2 rfl rfl ?_
            refine x_getI d7_carryOver_86 fl7_47 (fun _ _ => rfl) (hS.1 _ _ ha1) ?_
            refine x_icmp_ne d7_carryOver_89 (t := 94) (by decide) (fun g => ?_) (fun g => ?_)
            · have h := h.1 g
              refine x_iconst d7_carryOver_94 qi_1 ?_
              refine x_aload_n d7_carryOver_95 2 rfl rfl ?_
              refine x_getI d7_carryOver_96 fl7_47 (fun _ _ => rfl) (hS.1 _ _ ha1) ?_
              refine x_iadd d7_carryOver_99 ?_
              refine x_istore_n d7_carryOver_100 rfl (by decide) (L' := [(3, .int ((1 : Int32) + (xm_gi M3 a1 2))), (2, .int ((1 : Int32) + (xm_gi M a1 1))), (0, .ref a0), (1, .ref a1)]) rfl ?_
              refine x_aload_n d7_carryOver_101 2 rfl rfl ?_
              refine x_getI d7_carryOver_102 fl7_9 (fun _ _ => rfl) (hS.1 _ _ ha0) ?_
              refine x_iload_n d7_carryOver_105 1 rfl rfl ?_
              refine x_icmp_ne d7_carryOver_106 (t := 124) (by decide) (fun g => ?_) (fun g => ?_)
              · have h := h.1 g
                refine x_aload_n d7_carryOver_124 2 rfl rfl ?_
                refine x_getI d7_carryOver_125 fl7_9 (fun _ _ => rfl) (hS.1 _ _ ha0) ?_
                refine x_iload_n d7_carryOver_128 0 rfl rfl ?_
                refine x_icmp_ne d7_carryOver_129 (t := 147) (by decide) (fun g => ?_) (fun g => ?_)
                · have h := h.1 g
                  refine x_iconst d7_carryOver_147 qi_0 ?_
                  exact x_ret (r := (some (.int (0 : Int32)))) d7_carryOver_148 (xm_rZ (Or.inl rfl)) rfl ⟨Nat.le_refl _, Nat.le_refl _⟩ (h hS)
                · have h := h.2 g
                  refine x_aload_n d7_carryOver_132 2 rfl rfl ?_
                  refine x_getI d7_carryOver_133 fl7_15 (fun _ _ => rfl) (hS.1 _ _ ha0) ?_
                  refine x_iload_n d7_carryOver_136 1 rfl rfl ?_
                  refine x_icmp_ne d7_carryOver_137 (t := 147) (by decide) (fun g => ?_) (fun g => ?_)
                  · have h := h.1 g
                    refine x_iconst d7_carryOver_147 qi_0 ?_
                    exact x_ret (r := (some (.int (0 : Int32)))) d7_carryOver_148 (xm_rZ (Or.inl rfl)) rfl ⟨Nat.le_refl _, Nat.le_refl _⟩ (h hS)
                  · have h := h.2 g
                    refine x_aload_n d7_carryOver_140 2 rfl rfl ?_
                    refine x_iconst d7_carryOver_141 qi_0 ?_
                    refine x_putI d7_carryOver_142 fw7_9 (fun _ _ => rfl) rfl rfl (hS.1 _ _ ha0) ?_
                    refine x_iconst d7_carryOver_145 qi_1 ?_
                    exact x_ret (r := (some (.int (1 : Int32)))) d7_carryOver_146 (xm_rZ (Or.inr rfl)) rfl ⟨Nat.le_refl _, Nat.le_refl _⟩ (h hS.pi)
              · have h := h.2 g
                refine x_aload_n d7_carryOver_109 2 rfl rfl ?_
                refine x_getI d7_carryOver_110 fl7_15 (fun _ _ => rfl) (hS.1 _ _ ha0) ?_
                refine x_iload_n d7_carryOver_113 0 rfl rfl ?_
                refine x_icmp_ne d7_carryOver_114 (t := 124) (by decide) (fun g => ?_) (fun g => ?_)
                · have h := h.1 g
                  refine x_aload_n d7_carryOver_124 2 rfl rfl ?_
                  refine x_getI d7_carryOver_125 fl7_9 (fun _ _ => rfl) (hS.1 _ _ ha0) ?_
                  refine x_iload_n d7_carryOver_128 0 rfl rfl ?_
                  refine x_icmp_ne d7_carryOver_129 (t := 147) (by decide) (fun g => ?_) (fun g => ?_)
                  · have h := h.1 g
                    refine x_iconst d7_carryOver_147 qi_0 ?_
                    exact x_ret (r := (some (.int (0 : Int32)))) d7_carryOver_148 (xm_rZ (Or.inl rfl)) rfl ⟨Nat.le_refl _, Nat.le_refl _⟩ (h hS)
                  · have h := h.2 g
                    refine x_aload_n d7_carryOver_132 2 rfl rfl ?_
                    refine x_getI d7_carryOver_133 fl7_15 (fun _ _ => rfl) (hS.1 _ _ ha0) ?_
                    refine x_iload_n d7_carryOver_136 1 rfl rfl ?_
                    refine x_icmp_ne d7_carryOver_137 (t := 147) (by decide) (fun g => ?_) (fun g => ?_)
                    · have h := h.1 g
                      refine x_iconst d7_carryOver_147 qi_0 ?_
                      exact x_ret (r := (some (.int (0 : Int32)))) d7_carryOver_148 (xm_rZ (Or.inl rfl)) rfl ⟨Nat.le_refl _, Nat.le_refl _⟩ (h hS)
                    · have h := h.2 g
                      refine x_aload_n d7_carryOver_140 2 rfl rfl ?_
                      refine x_iconst d7_carryOver_141 qi_0 ?_
                      refine x_putI d7_carryOver_142 fw7_9 (fun _ _ => rfl) rfl rfl (hS.1 _ _ ha0) ?_
                      refine x_iconst d7_carryOver_145 qi_1 ?_
                      exact x_ret (r := (some (.int (1 : Int32)))) d7_carryOver_146 (xm_rZ (Or.inr rfl)) rfl ⟨Nat.le_refl _, Nat.le_refl _⟩ (h hS.pi)
                · have h := h.2 g
                  refine x_aload_n d7_carryOver_117 2 rfl rfl ?_
                  refine x_iconst d7_carryOver_118 qi_0 ?_
                  refine x_putI d7_carryOver_119 fw7_15 (fun _ _ => rfl) rfl rfl (hS.1 _ _ ha0) ?_
                  refine x_iconst d7_carryOver_122 qi_1 ?_
                  exact x_ret (r := (some (.int (1 : Int32)))) d7_carryOver_123 (xm_rZ (Or.inr rfl)) rfl ⟨Nat.le_refl _, Nat.le_refl _⟩ (h hS.pi)
            · have h := h.2 g
              refine x_iconst d7_carryOver_92 qi_0 ?_
              exact x_ret (r := (some (.int (0 : Int32)))) d7_carryOver_93 (xm_rZ (Or.inl rfl)) rfl ⟨Nat.le_refl _, Nat.le_refl _⟩ (h hS)
        · have h := h.2 g
          refine x_aload_n d7_carryOver_40 1 rfl rfl ?_
          refine x_dup d7_carryOver_41 rfl ?_
          refine x_getL d7_carryOver_42 fl7_18 (fun _ _ => rfl) (hS.1 _ _ ha0) ?_
          refine x_aload_n d7_carryOver_45 1 rfl rfl ?_
          refine x_getI d7_carryOver_46 fl7_9 (fun _ _ => rfl) (hS.1 _ _ ha0) ?_
          refine x_iload_n d7_carryOver_49 0 rfl rfl ?_
          refine x_icmp_ne d7_carryOver_50 (t := 61) (by decide) (fun g => ?_) (fun g => ?_)
          · have h := h.1 g
            refine x_aload_n d7_carryOver_61 2 rfl rfl ?_
            refine x_getI d7_carryOver_62 fl7_44 (fun _ _ => rfl) (hS.1 _ _ ha1) ?_
            refine x_i2l d7_carryOver_65 ?_
            refine x_lneg d7_carryOver_66 ?_
            refine x_ladd d7_carryOver_67 ?_
            refine x_putL d7_carryOver_68 fw7_18 (fun _ _ => rfl) rfl rfl (hS.1 _ _ ha0) ?_
            refine x_iconst d7_carryOver_71 qi_1 ?_
            exact x_ret (r := (some (.int (1 : Int32)))) d7_carryOver_72 (xm_rZ (Or.inr rfl)) rfl ⟨Nat.le_refl _, Nat.le_refl _⟩ (h hS.pl)
          · have h := h.2 g
            refine x_aload_n d7_carryOver_53 2 rfl rfl ?_
            refine x_getI d7_carryOver_54 fl7_44 (fun _ _ => rfl) (hS.1 _ _ ha1) ?_
            refine x_i2l d7_carryOver_57 ?_
            refine x_goto d7_carryOver_58 (t := 67) (by decide) ?_
            refine x_ladd d7_carryOver_67 ?_
            refine x_putL d7_carryOver_68 fw7_18 (fun _ _ => rfl) rfl rfl (hS.1 _ _ ha0) ?_
            refine x_iconst d7_carryOver_71 qi_1 ?_
            exact x_ret (r := (some (.int (1 : Int32)))) d7_carryOver_72 (xm_rZ (Or.inr rfl)) rfl ⟨Nat.le_refl _, Nat.le_refl _⟩ (h hS.pl)
      · have h := h.2 g
        refine x_iconst d7_carryOver_30 qi_1 ?_
        exact x_ret (r := (some (.int (1 : Int32)))) d7_carryOver_31 (xm_rZ (Or.inr rfl)) rfl ⟨Nat.le_refl _, Nat.le_refl _⟩ (h hS)

set_option maxRecDepth 20000 in
theorem t2_changesRegister_0 {l : Launch} {E : xm_E} {b : Nat} {c p : Bool} {Q : Option Value → xm_M → Prop} (M : xm_M) (a0 : Nat) (ha0 : xS b a0 = some (.inr 2)) (hS : xm_st b c p M)
  (h : ((¬ (xm_gi M a0 0) = (2 : Int32) → (((xm_gi M a0 0) < (1 : Int32) → (xm_st b c p M → Q (some (.int (0 : Int32))) M)) ∧ (¬ (xm_gi M a0 0) < (1 : Int32) → (((11 : Int32) < (xm_gi M a0 0) → (xm_st b c p M → Q (some (.int (0 : Int32))) M)) ∧ (¬ (11 : Int32) < (xm_gi M a0 0) → (xm_st b c p M → Q (some (.int (1 : Int32))) M)))))) ∧ ((xm_gi M a0 0) = (2 : Int32) → ((¬ (xm_gi M a0 1) = (xm_gi M a0 2) → (((xm_gi M a0 0) < (1 : Int32) → (xm_st b c p M → Q (some (.int (0 : Int32))) M)) ∧ (¬ (xm_gi M a0 0) < (1 : Int32) → (((11 : Int32) < (xm_gi M a0 0) → (xm_st b c p M → Q (some (.int (0 : Int32))) M)) ∧ (¬ (11 : Int32) < (xm_gi M a0 0) → (xm_st b c p M → Q (some (.int (1 : Int32))) M)))))) ∧ ((xm_gi M a0 1) = (xm_gi M a0 2) → (xm_st b c p M → Q (some (.int (0 : Int32))) M)))))) :
  xm_X l E y2_changesRegister rm2_changesRegister Q 0 [(0, .ref a0)] [] 0 0 M := by
  refine x_aload_n d2_changesRegister_0 0 rfl rfl ?_
  refine x_getI d2_changesRegister_1 fl2_30 (fun _ _ => rfl) (hS.1 _ _ ha0) ?_
  refine x_iconst d2_changesRegister_4 qi_2 ?_
  refine x_icmp_ne d2_changesRegister_5 (t := 21) (by decide) (fun g => ?_) (fun g => ?_)
  · have h := h.1 g
    refine x_aload_n d2_changesRegister_21 0 rfl rfl ?_
    refine x_getI d2_changesRegister_22 fl2_30 (fun _ _ => rfl) (hS.1 _ _ ha0) ?_
    refine x_iconst d2_changesRegister_25 qi_1 ?_
    refine x_icmp_lt d2_changesRegister_26 (t := 42) (by decide) (fun g => ?_) (fun g => ?_)
    · have h := h.1 g
      refine x_iconst d2_changesRegister_42 qi_0 ?_
      exact x_ret (r := (some (.int (0 : Int32)))) d2_changesRegister_43 (xm_rZ (Or.inl rfl)) rfl ⟨Nat.le_refl _, Nat.le_refl _⟩ (h hS)
    · have h := h.2 g
      refine x_aload_n d2_changesRegister_29 0 rfl rfl ?_
      refine x_getI d2_changesRegister_30 fl2_30 (fun _ _ => rfl) (hS.1 _ _ ha0) ?_
      refine x_bipush d2_changesRegister_33 qb_11 ?_
      refine x_icmp_gt d2_changesRegister_35 (t := 42) (by decide) (fun g => ?_) (fun g => ?_)
      · have h := h.1 g
        refine x_iconst d2_changesRegister_42 qi_0 ?_
        exact x_ret (r := (some (.int (0 : Int32)))) d2_changesRegister_43 (xm_rZ (Or.inl rfl)) rfl ⟨Nat.le_refl _, Nat.le_refl _⟩ (h hS)
      · have h := h.2 g
        refine x_iconst d2_changesRegister_38 qi_1 ?_
        refine x_goto d2_changesRegister_39 (t := 43) (by decide) ?_
        exact x_ret (r := (some (.int (1 : Int32)))) d2_changesRegister_43 (xm_rZ (Or.inr rfl)) rfl ⟨Nat.le_refl _, Nat.le_refl _⟩ (h hS)
  · have h := h.2 g
    refine x_aload_n d2_changesRegister_8 0 rfl rfl ?_
    refine x_getI d2_changesRegister_9 fl2_9 (fun _ _ => rfl) (hS.1 _ _ ha0) ?_
    refine x_aload_n d2_changesRegister_12 0 rfl rfl ?_
    refine x_getI d2_changesRegister_13 fl2_19 (fun _ _ => rfl) (hS.1 _ _ ha0) ?_
    refine x_icmp_ne d2_changesRegister_16 (t := 21) (by decide) (fun g => ?_) (fun g => ?_)
    · have h := h.1 g
      refine x_aload_n d2_changesRegister_21 0 rfl rfl ?_
      refine x_getI d2_changesRegister_22 fl2_30 (fun _ _ => rfl) (hS.1 _ _ ha0) ?_
      refine x_iconst d2_changesRegister_25 qi_1 ?_
      refine x_icmp_lt d2_changesRegister_26 (t := 42) (by decide) (fun g => ?_) (fun g => ?_)
      · have h := h.1 g
        refine x_iconst d2_changesRegister_42 qi_0 ?_
        exact x_ret (r := (some (.int (0 : Int32)))) d2_changesRegister_43 (xm_rZ (Or.inl rfl)) rfl ⟨Nat.le_refl _, Nat.le_refl _⟩ (h hS)
      · have h := h.2 g
        refine x_aload_n d2_changesRegister_29 0 rfl rfl ?_
        refine x_getI d2_changesRegister_30 fl2_30 (fun _ _ => rfl) (hS.1 _ _ ha0) ?_
        refine x_bipush d2_changesRegister_33 qb_11 ?_
        refine x_icmp_gt d2_changesRegister_35 (t := 42) (by decide) (fun g => ?_) (fun g => ?_)
        · have h := h.1 g
          refine x_iconst d2_changesRegister_42 qi_0 ?_
          exact x_ret (r := (some (.int (0 : Int32)))) d2_changesRegister_43 (xm_rZ (Or.inl rfl)) rfl ⟨Nat.le_refl _, Nat.le_refl _⟩ (h hS)
        · have h := h.2 g
          refine x_iconst d2_changesRegister_38 qi_1 ?_
          refine x_goto d2_changesRegister_39 (t := 43) (by decide) ?_
          exact x_ret (r := (some (.int (1 : Int32)))) d2_changesRegister_43 (xm_rZ (Or.inr rfl)) rfl ⟨Nat.le_refl _, Nat.le_refl _⟩ (h hS)
    · have h := h.2 g
      refine x_iconst d2_changesRegister_19 qi_0 ?_
      exact x_ret (r := (some (.int (0 : Int32)))) d2_changesRegister_20 (xm_rZ (Or.inl rfl)) rfl ⟨Nat.le_refl _, Nat.le_refl _⟩ (h hS)

set_option maxRecDepth 20000 in
theorem t7_becomeSum_0 {l : Launch} {E : xm_E} {b : Nat} {c p : Bool} {Q : Option Value → xm_M → Prop} (M : xm_M) (a0 : Nat) (a1 : Nat) (a2 : Nat) (a3 : Nat) (ha0 : xS b a0 = some (.inr 7)) (ha1 : xS b a1 = some (.inr 2)) (ha2 : xS b a2 = some (.inr 7)) (ha3 : xS b a3 = some (.inr 7)) (hS : xm_st b c p M)
  (h : ((¬ ((1 : Int32) + (xm_gi M a1 1)) = ((1 : Int32) + (xm_gi M a1 2)) → ((¬ (xm_gi M a2 0) = ((1 : Int32) + (xm_gi M a1 1)) → ((¬ (xm_gi M a2 1) = ((1 : Int32) + (xm_gi M a1 1)) → (xm_st b c p M → Q (some (.int (0 : Int32))) M)) ∧ ((xm_gi M a2 1) = ((1 : Int32) + (xm_gi M a1 1)) → (((xm_gi M a2 0) = ((1 : Int32) + (xm_gi M a1 2)) → (xm_st b c p M → Q (some (.int (0 : Int32))) M)) ∧ (¬ (xm_gi M a2 0) = ((1 : Int32) + (xm_gi M a1 2)) → ((¬ (xm_gi M a3 0) = 0 → (xm_st b c p M → Q (some (.int (0 : Int32))) M)) ∧ ((xm_gi M a3 0) = 0 → ((¬ (xm_gi M a3 1) = ((1 : Int32) + (xm_gi M a1 2)) → (xm_st b c p M → Q (some (.int (0 : Int32))) M)) ∧ ((xm_gi M a3 1) = ((1 : Int32) + (xm_gi M a1 2)) → xm_C l E y7_become rm7_become [.ref a0, .int (xm_gi M a2 0), .int ((1 : Int32) + (xm_gi M a1 1)), .long ((xm_gl M a2 2) + (xm_gl M a3 2))] M (fun r M1 => ∃ r2 : Bool, r = some (.int (xz r2)) ∧ xm_st b c p M1 ∧ (xm_st b c p M1 → Q (some (.int (xz r2))) M1))))))))))) ∧ ((xm_gi M a2 0) = ((1 : Int32) + (xm_gi M a1 1)) → (((xm_gi M a2 1) = ((1 : Int32) + (xm_gi M a1 2)) → ((¬ (xm_gi M a2 1) = ((1 : Int32) + (xm_gi M a1 1)) → (xm_st b c p M → Q (some (.int (0 : Int32))) M)) ∧ ((xm_gi M a2 1) = ((1 : Int32) + (xm_gi M a1 1)) → (((xm_gi M a2 0) = ((1 : Int32) + (xm_gi M a1 2)) → (xm_st b c p M → Q (some (.int (0 : Int32))) M)) ∧ (¬ (xm_gi M a2 0) = ((1 : Int32) + (xm_gi M a1 2)) → ((¬ (xm_gi M a3 0) = 0 → (xm_st b c p M → Q (some (.int (0 : Int32))) M)) ∧ ((xm_gi M a3 0) = 0 → ((¬ (xm_gi M a3 1) = ((1 : Int32) + (xm_gi M a1 2)) → (xm_st b c p M → Q (some (.int (0 : Int32))) M)) ∧ ((xm_gi M a3 1) = ((1 : Int32) + (xm_gi M a1 2)) → xm_C l E y7_become rm7_become [.ref a0, .int (xm_gi M a2 0), .int ((1 : Int32) + (xm_gi M a1 1)), .long ((xm_gl M a2 2) + (xm_gl M a3 2))] M (fun r M3 => ∃ r4 : Bool, r = some (.int (xz r4)) ∧ xm_st b c p M3 ∧ (xm_st b c p M3 → Q (some (.int (xz r4))) M3))))))))))) ∧ (¬ (xm_gi M a2 1) = ((1 : Int32) + (xm_gi M a1 2)) → ((¬ (xm_gi M a3 0) = ((1 : Int32) + (xm_gi M a1 2)) → ((¬ (xm_gi M a2 1) = ((1 : Int32) + (xm_gi M a1 1)) → (xm_st b c p M → Q (some (.int (0 : Int32))) M)) ∧ ((xm_gi M a2 1) = ((1 : Int32) + (xm_gi M a1 1)) → (((xm_gi M a2 0) = ((1 : Int32) + (xm_gi M a1 2)) → (xm_st b c p M → Q (some (.int (0 : Int32))) M)) ∧ (¬ (xm_gi M a2 0) = ((1 : Int32) + (xm_gi M a1 2)) → ((¬ (xm_gi M a3 0) = 0 → (xm_st b c p M → Q (some (.int (0 : Int32))) M)) ∧ ((xm_gi M a3 0) = 0 → ((¬ (xm_gi M a3 1) = ((1 : Int32) + (xm_gi M a1 2)) → (xm_st b c p M → Q (some (.int (0 : Int32))) M)) ∧ ((xm_gi M a3 1) = ((1 : Int32) + (xm_gi M a1 2)) → xm_C l E y7_become rm7_become [.ref a0, .int (xm_gi M a2 0), .int ((1 : Int32) + (xm_gi M a1 1)), .long ((xm_gl M a2 2) + (xm_gl M a3 2))] M (fun r M5 => ∃ r6 : Bool, r = some (.int (xz r6)) ∧ xm_st b c p M5 ∧ (xm_st b c p M5 → Q (some (.int (xz r6))) M5))))))))))) ∧ ((xm_gi M a3 0) = ((1 : Int32) + (xm_gi M a1 2)) → ((¬ (xm_gi M a3 1) = 0 → ((¬ (xm_gi M a2 1) = ((1 : Int32) + (xm_gi M a1 1)) → (xm_st b c p M → Q (some (.int (0 : Int32))) M)) ∧ ((xm_gi M a2 1) = ((1 : Int32) + (xm_gi M a1 1)) → (((xm_gi M a2 0) = ((1 : Int32) + (xm_gi M a1 2)) → (xm_st b c p M → Q (some (.int (0 : Int32))) M)) ∧ (¬ (xm_gi M a2 0) = ((1 : Int32) + (xm_gi M a1 2)) → ((¬ (xm_gi M a3 0) = 0 → (xm_st b c p M → Q (some (.int (0 : Int32))) M)) ∧ ((xm_gi M a3 0) = 0 → ((¬ (xm_gi M a3 1) = ((1 : Int32) + (xm_gi M a1 2)) → (xm_st b c p M → Q (some (.int (0 : Int32))) M)) ∧ ((xm_gi M a3 1) = ((1 : Int32) + (xm_gi M a1 2)) → xm_C l E y7_become rm7_become [.ref a0, .int (xm_gi M a2 0), .int ((1 : Int32) + (xm_gi M a1 1)), .long ((xm_gl M a2 2) + (xm_gl M a3 2))] M (fun r M7 => ∃ r8 : Bool, r = some (.int (xz r8)) ∧ xm_st b c p M7 ∧ (xm_st b c p M7 → Q (some (.int (xz r8))) M7))))))))))) ∧ ((xm_gi M a3 1) = 0 → xm_C l E y7_become rm7_become [.ref a0, .int ((1 : Int32) + (xm_gi M a1 1)), .int (xm_gi M a2 1), .long ((xm_gl M a2 2) + (xm_gl M a3 2))] M (fun r M9 => ∃ r10 : Bool, r = some (.int (xz r10)) ∧ xm_st b c p M9 ∧ (xm_st b c p M9 → Q (some (.int (xz r10))) M9))))))))))) ∧ (((1 : Int32) + (xm_gi M a1 1)) = ((1 : Int32) + (xm_gi M a1 2)) → (xm_st b c p M → Q (some (.int (0 : Int32))) M)))) :
  xm_X l E y7_becomeSum rm7_becomeSum Q 0 [(0, .ref a0), (1, .ref a1), (2, .ref a2), (3, .ref a3)] [] 0 0 M := by
  refine x_iconst d7_becomeSum_0 qi_1 ?_
  refine x_aload_n d7_becomeSum_1 1 rfl rfl ?_
  refine x_getI d7_becomeSum_2 fl7_32 (fun _ _ => rfl) (hS.1 _ _ ha1) ?_
  refine x_iadd d7_becomeSum_5 ?_
  refine x_istore d7_becomeSum_6 (by decide) (L' := [(4, .int ((1 : Int32) + (xm_gi M a1 1))), (0, .ref a0), (1, .ref a1), (2, .ref a2), (3, .ref a3)]) rfl ?_
  refine x_iconst d7_becomeSum_8 qi_1 ?_
  refine x_aload_n d7_becomeSum_9 2 rfl rfl ?_
  refine x_getI d7_becomeSum_10 fl7_47 (fun _ _ => rfl) (hS.1 _ _ ha1) ?_
  refine x_iadd d7_becomeSum_13 ?_
  refine x_istore d7_becomeSum_14 (by decide) (L' := [(5, .int ((1 : Int32) + (xm_gi M a1 2))), (4, .int ((1 : Int32) + (xm_gi M a1 1))), (0, .ref a0), (1, .ref a1), (2, .ref a2), (3, .ref a3)]) rfl ?_
  refine x_iload d7_becomeSum_16 1 rfl ?_
  refine x_iload d7_becomeSum_18 0 rfl ?_
  refine x_icmp_ne d7_becomeSum_20 (t := 25) (by decide) (fun g => ?_) (fun g => ?_)
  · have h := h.1 g
    refine x_aload_n d7_becomeSum_25 4 rfl rfl ?_
    refine x_getI d7_becomeSum_26 fl7_9 (fun _ _ => rfl) (hS.1 _ _ ha2) ?_
    refine x_iload d7_becomeSum_29 1 rfl ?_
    refine x_icmp_ne d7_becomeSum_31 (t := 79) (by decide) (fun g => ?_) (fun g => ?_)
    · have h := h.1 g
      refine x_aload_n d7_becomeSum_79 4 rfl rfl ?_
      refine x_getI d7_becomeSum_80 fl7_15 (fun _ _ => rfl) (hS.1 _ _ ha2) ?_
      refine x_iload d7_becomeSum_83 1 rfl ?_
      refine x_icmp_ne d7_becomeSum_85 (t := 133) (by decide) (fun g => ?_) (fun g => ?_)
      · have h := h.1 g
        refine x_iconst d7_becomeSum_133 qi_0 ?_
        exact x_ret (r := (some (.int (0 : Int32)))) d7_becomeSum_134 (xm_rZ (Or.inl rfl)) rfl ⟨Nat.le_refl _, Nat.le_refl _⟩ (h hS)
      · have h := h.2 g
        refine x_aload_n d7_becomeSum_88 4 rfl rfl ?_
        refine x_getI d7_becomeSum_89 fl7_9 (fun _ _ => rfl) (hS.1 _ _ ha2) ?_
        refine x_iload d7_becomeSum_92 0 rfl ?_
        refine x_icmp_eq d7_becomeSum_94 (t := 133) (by decide) (fun g => ?_) (fun g => ?_)
        · have h := h.1 g
          refine x_iconst d7_becomeSum_133 qi_0 ?_
          exact x_ret (r := (some (.int (0 : Int32)))) d7_becomeSum_134 (xm_rZ (Or.inl rfl)) rfl ⟨Nat.le_refl _, Nat.le_refl _⟩ (h hS)
        · have h := h.2 g
          refine x_aload_n d7_becomeSum_97 5 rfl rfl ?_
          refine x_getI d7_becomeSum_98 fl7_9 (fun _ _ => rfl) (hS.1 _ _ ha3) ?_
          refine x_if_ne d7_becomeSum_101 (t := 133) (by decide) (fun g => ?_) (fun g => ?_)
          · have h := h.1 g
            refine x_iconst d7_becomeSum_133 qi_0 ?_
            exact x_ret (r := (some (.int (0 : Int32)))) d7_becomeSum_134 (xm_rZ (Or.inl rfl)) rfl ⟨Nat.le_refl _, Nat.le_refl _⟩ (h hS)
          · have h := h.2 g
            refine x_aload_n d7_becomeSum_104 5 rfl rfl ?_
            refine x_getI d7_becomeSum_105 fl7_15 (fun _ _ => rfl) (hS.1 _ _ ha3) ?_
            refine x_iload d7_becomeSum_108 0 rfl ?_
            refine x_icmp_ne d7_becomeSum_110 (t := 133) (by decide) (fun g => ?_) (fun g => ?_)
            · have h := h.1 g
              refine x_iconst d7_becomeSum_133 qi_0 ?_
              exact x_ret (r := (some (.int (0 : Int32)))) d7_becomeSum_134 (xm_rZ (Or.inl rfl)) rfl ⟨Nat.le_refl _, Nat.le_refl _⟩ (h hS)
            · have h := h.2 g
              refine x_aload_n d7_becomeSum_113 2 rfl rfl ?_
              refine x_aload_n d7_becomeSum_114 4 rfl rfl ?_
              refine x_getI d7_becomeSum_115 fl7_9 (fun _ _ => rfl) (hS.1 _ _ ha2) ?_
              refine x_iload d7_becomeSum_118 1 rfl ?_
              refine x_aload_n d7_becomeSum_120 4 rfl rfl ?_
              refine x_getL d7_becomeSum_121 fl7_18 (fun _ _ => rfl) (hS.1 _ _ ha2) ?_
              refine x_aload_n d7_becomeSum_124 5 rfl rfl ?_
              refine x_getL d7_becomeSum_125 fl7_18 (fun _ _ => rfl) (hS.1 _ _ ha3) ?_
              refine x_ladd d7_becomeSum_128 ?_
              refine x_cVZ (Z := y7_become) (S := rm7_become) (As := [.int (xm_gi M a2 0), .int ((1 : Int32) + (xm_gi M a1 1)), .long ((xm_gl M a2 2) + (xm_gl M a3 2))]) (rest := []) d7_becomeSum_129 ml7_26 k7_become rfl (b := a0) (hS.1 _ _ ha0) rfl rfl (Nat.le_of_ble_eq_true rfl) ⟨⟨by decide, by decide⟩, by decide, by decide⟩ ⟨rfl, rfl⟩ h (fun r2 M1 h => ?_)
              obtain ⟨hS, h⟩ := h
              exact x_ret (r := (some (.int (xz r2)))) d7_becomeSum_132 (xm_rZ (xz_01 _)) rfl ⟨Nat.le_refl _, Nat.le_refl _⟩ (h hS)
    · have h := h.2 g
      refine x_aload_n d7_becomeSum_34 4 rfl rfl ?_
      refine x_getI d7_becomeSum_35 fl7_15 (fun _ _ => rfl) (hS.1 _ _ ha2) ?_
      refine x_iload d7_becomeSum_38 0 rfl ?_
      refine x_icmp_eq d7_becomeSum_40 (t := 79) (by decide) (fun g => ?_) (fun g => ?_)
      · have h := h.1 g
        refine x_aload_n d7_becomeSum_79 4 rfl rfl ?_
        refine x_getI d7_becomeSum_80 fl7_15 (fun _ _ => rfl) (hS.1 _ _ ha2) ?_
        refine x_iload d7_becomeSum_83 1 rfl ?_
        refine x_icmp_ne d7_becomeSum_85 (t := 133) (by decide) (fun g => ?_) (fun g => ?_)
        · have h := h.1 g
          refine x_iconst d7_becomeSum_133 qi_0 ?_
          exact x_ret (r := (some (.int (0 : Int32)))) d7_becomeSum_134 (xm_rZ (Or.inl rfl)) rfl ⟨Nat.le_refl _, Nat.le_refl _⟩ (h hS)
        · have h := h.2 g
          refine x_aload_n d7_becomeSum_88 4 rfl rfl ?_
          refine x_getI d7_becomeSum_89 fl7_9 (fun _ _ => rfl) (hS.1 _ _ ha2) ?_
          refine x_iload d7_becomeSum_92 0 rfl ?_
          refine x_icmp_eq d7_becomeSum_94 (t := 133) (by decide) (fun g => ?_) (fun g => ?_)
          · have h := h.1 g
            refine x_iconst d7_becomeSum_133 qi_0 ?_
            exact x_ret (r := (some (.int (0 : Int32)))) d7_becomeSum_134 (xm_rZ (Or.inl rfl)) rfl ⟨Nat.le_refl _, Nat.le_refl _⟩ (h hS)
          · have h := h.2 g
            refine x_aload_n d7_becomeSum_97 5 rfl rfl ?_
            refine x_getI d7_becomeSum_98 fl7_9 (fun _ _ => rfl) (hS.1 _ _ ha3) ?_
            refine x_if_ne d7_becomeSum_101 (t := 133) (by decide) (fun g => ?_) (fun g => ?_)
            · have h := h.1 g
              refine x_iconst d7_becomeSum_133 qi_0 ?_
              exact x_ret (r := (some (.int (0 : Int32)))) d7_becomeSum_134 (xm_rZ (Or.inl rfl)) rfl ⟨Nat.le_refl _, Nat.le_refl _⟩ (h hS)
            · have h := h.2 g
              refine x_aload_n d7_becomeSum_104 5 rfl rfl ?_
              refine x_getI d7_becomeSum_105 fl7_15 (fun _ _ => rfl) (hS.1 _ _ ha3) ?_
              refine x_iload d7_becomeSum_108 0 rfl ?_
              refine x_icmp_ne d7_becomeSum_110 (t := 133) (by decide) (fun g => ?_) (fun g => ?_)
              · have h := h.1 g
                refine x_iconst d7_becomeSum_133 qi_0 ?_
                exact x_ret (r := (some (.int (0 : Int32)))) d7_becomeSum_134 (xm_rZ (Or.inl rfl)) rfl ⟨Nat.le_refl _, Nat.le_refl _⟩ (h hS)
              · have h := h.2 g
                refine x_aload_n d7_becomeSum_113 2 rfl rfl ?_
                refine x_aload_n d7_becomeSum_114 4 rfl rfl ?_
                refine x_getI d7_becomeSum_115 fl7_9 (fun _ _ => rfl) (hS.1 _ _ ha2) ?_
                refine x_iload d7_becomeSum_118 1 rfl ?_
                refine x_aload_n d7_becomeSum_120 4 rfl rfl ?_
                refine x_getL d7_becomeSum_121 fl7_18 (fun _ _ => rfl) (hS.1 _ _ ha2) ?_
                refine x_aload_n d7_becomeSum_124 5 rfl rfl ?_
                refine x_getL d7_becomeSum_125 fl7_18 (fun _ _ => rfl) (hS.1 _ _ ha3) ?_
                refine x_ladd d7_becomeSum_128 ?_
                refine x_cVZ (Z := y7_become) (S := rm7_become) (As := [.int (xm_gi M a2 0), .int ((1 : Int32) + (xm_gi M a1 1)), .long ((xm_gl M a2 2) + (xm_gl M a3 2))]) (rest := []) d7_becomeSum_129 ml7_26 k7_become rfl (b := a0) (hS.1 _ _ ha0) rfl rfl (Nat.le_of_ble_eq_true rfl) ⟨⟨by decide, by decide⟩, by decide, by decide⟩ ⟨rfl, rfl⟩ h (fun r4 M3 h => ?_)
                obtain ⟨hS, h⟩ := h
                exact x_ret (r := (some (.int (xz r4)))) d7_becomeSum_132 (xm_rZ (xz_01 _)) rfl ⟨Nat.le_refl _, Nat.le_refl _⟩ (h hS)
      · have h := h.2 g
        refine x_aload_n d7_becomeSum_43 5 rfl rfl ?_
        refine x_getI d7_becomeSum_44 fl7_9 (fun _ _ => rfl) (hS.1 _ _ ha3) ?_
        refine x_iload d7_becomeSum_47 0 rfl ?_
        refine x_icmp_ne d7_becomeSum_49 (t := 79) (by decide) (fun g => ?_) (fun g => ?_)
        · have h := h.1 g
          refine x_aload_n d7_becomeSum_79 4 rfl rfl ?_
          refine x_getI d7_becomeSum_80 fl7_15 (fun _ _ => rfl) (hS.1 _ _ ha2) ?_
          refine x_iload d7_becomeSum_83 1 rfl ?_
          refine x_icmp_ne d7_becomeSum_85 (t := 133) (by decide) (fun g => ?_) (fun g => ?_)
          · have h := h.1 g
            refine x_iconst d7_becomeSum_133 qi_0 ?_
            exact x_ret (r := (some (.int (0 : Int32)))) d7_becomeSum_134 (xm_rZ (Or.inl rfl)) rfl ⟨Nat.le_refl _, Nat.le_refl _⟩ (h hS)
          · have h := h.2 g
            refine x_aload_n d7_becomeSum_88 4 rfl rfl ?_
            refine x_getI d7_becomeSum_89 fl7_9 (fun _ _ => rfl) (hS.1 _ _ ha2) ?_
            refine x_iload d7_becomeSum_92 0 rfl ?_
            refine x_icmp_eq d7_becomeSum_94 (t := 133) (by decide) (fun g => ?_) (fun g => ?_)
            · have h := h.1 g
              refine x_iconst d7_becomeSum_133 qi_0 ?_
              exact x_ret (r := (some (.int (0 : Int32)))) d7_becomeSum_134 (xm_rZ (Or.inl rfl)) rfl ⟨Nat.le_refl _, Nat.le_refl _⟩ (h hS)
            · have h := h.2 g
              refine x_aload_n d7_becomeSum_97 5 rfl rfl ?_
              refine x_getI d7_becomeSum_98 fl7_9 (fun _ _ => rfl) (hS.1 _ _ ha3) ?_
              refine x_if_ne d7_becomeSum_101 (t := 133) (by decide) (fun g => ?_) (fun g => ?_)
              · have h := h.1 g
                refine x_iconst d7_becomeSum_133 qi_0 ?_
                exact x_ret (r := (some (.int (0 : Int32)))) d7_becomeSum_134 (xm_rZ (Or.inl rfl)) rfl ⟨Nat.le_refl _, Nat.le_refl _⟩ (h hS)
              · have h := h.2 g
                refine x_aload_n d7_becomeSum_104 5 rfl rfl ?_
                refine x_getI d7_becomeSum_105 fl7_15 (fun _ _ => rfl) (hS.1 _ _ ha3) ?_
                refine x_iload d7_becomeSum_108 0 rfl ?_
                refine x_icmp_ne d7_becomeSum_110 (t := 133) (by decide) (fun g => ?_) (fun g => ?_)
                · have h := h.1 g
                  refine x_iconst d7_becomeSum_133 qi_0 ?_
                  exact x_ret (r := (some (.int (0 : Int32)))) d7_becomeSum_134 (xm_rZ (Or.inl rfl)) rfl ⟨Nat.le_refl _, Nat.le_refl _⟩ (h hS)
                · have h := h.2 g
                  refine x_aload_n d7_becomeSum_113 2 rfl rfl ?_
                  refine x_aload_n d7_becomeSum_114 4 rfl rfl ?_
                  refine x_getI d7_becomeSum_115 fl7_9 (fun _ _ => rfl) (hS.1 _ _ ha2) ?_
                  refine x_iload d7_becomeSum_118 1 rfl ?_
                  refine x_aload_n d7_becomeSum_120 4 rfl rfl ?_
                  refine x_getL d7_becomeSum_121 fl7_18 (fun _ _ => rfl) (hS.1 _ _ ha2) ?_
                  refine x_aload_n d7_becomeSum_124 5 rfl rfl ?_
                  refine x_getL d7_becomeSum_125 fl7_18 (fun _ _ => rfl) (hS.1 _ _ ha3) ?_
                  refine x_ladd d7_becomeSum_128 ?_
                  refine x_cVZ (Z := y7_become) (S := rm7_become) (As := [.int (xm_gi M a2 0), .int ((1 : Int32) + (xm_gi M a1 1)), .long ((xm_gl M a2 2) + (xm_gl M a3 2))]) (rest := []) d7_becomeSum_129 ml7_26 k7_become rfl (b := a0) (hS.1 _ _ ha0) rfl rfl (Nat.le_of_ble_eq_true rfl) ⟨⟨by decide, by decide⟩, by decide, by decide⟩ ⟨rfl, rfl⟩ h (fun r6 M5 h => ?_)
                  obtain ⟨hS, h⟩ := h
                  exact x_ret (r := (some (.int (xz r6)))) d7_becomeSum_132 (xm_rZ (xz_01 _)) rfl ⟨Nat.le_refl _, Nat.le_refl _⟩ (h hS)
        · have h := h.2 g
          refine x_aload_n d7_becomeSum_52 5 rfl rfl ?_
          refine x_getI d7_becomeSum_53 fl7_15 (fun _ _ => rfl) (hS.1 _ _ ha3) ?_
          refine x_if_ne d7_becomeSum_56 (t := 79) (by decide) (fun g => ?_) (fun g => ?_)
          · have h := h.1 g
            refine x_aload_n d7_becomeSum_79 4 rfl rfl ?_
            refine x_getI d7_becomeSum_80 fl7_15 (fun _ _ => rfl) (hS.1 _ _ ha2) ?_
            refine x_iload d7_becomeSum_83 1 rfl ?_
            refine x_icmp_ne d7_becomeSum_85 (t := 133) (by decide) (fun g => ?_) (fun g => ?_)
            · have h := h.1 g
              refine x_iconst d7_becomeSum_133 qi_0 ?_
              exact x_ret (r := (some (.int (0 : Int32)))) d7_becomeSum_134 (xm_rZ (Or.inl rfl)) rfl ⟨Nat.le_refl _, Nat.le_refl _⟩ (h hS)
            · have h := h.2 g
              refine x_aload_n d7_becomeSum_88 4 rfl rfl ?_
              refine x_getI d7_becomeSum_89 fl7_9 (fun _ _ => rfl) (hS.1 _ _ ha2) ?_
              refine x_iload d7_becomeSum_92 0 rfl ?_
              refine x_icmp_eq d7_becomeSum_94 (t := 133) (by decide) (fun g => ?_) (fun g => ?_)
              · have h := h.1 g
                refine x_iconst d7_becomeSum_133 qi_0 ?_
                exact x_ret (r := (some (.int (0 : Int32)))) d7_becomeSum_134 (xm_rZ (Or.inl rfl)) rfl ⟨Nat.le_refl _, Nat.le_refl _⟩ (h hS)
              · have h := h.2 g
                refine x_aload_n d7_becomeSum_97 5 rfl rfl ?_
                refine x_getI d7_becomeSum_98 fl7_9 (fun _ _ => rfl) (hS.1 _ _ ha3) ?_
                refine x_if_ne d7_becomeSum_101 (t := 133) (by decide) (fun g => ?_) (fun g => ?_)
                · have h := h.1 g
                  refine x_iconst d7_becomeSum_133 qi_0 ?_
                  exact x_ret (r := (some (.int (0 : Int32)))) d7_becomeSum_134 (xm_rZ (Or.inl rfl)) rfl ⟨Nat.le_refl _, Nat.le_refl _⟩ (h hS)
                · have h := h.2 g
                  refine x_aload_n d7_becomeSum_104 5 rfl rfl ?_
                  refine x_getI d7_becomeSum_105 fl7_15 (fun _ _ => rfl) (hS.1 _ _ ha3) ?_
                  refine x_iload d7_becomeSum_108 0 rfl ?_
                  refine x_icmp_ne d7_becomeSum_110 (t := 133) (by decide) (fun g => ?_) (fun g => ?_)
                  · have h := h.1 g
                    refine x_iconst d7_becomeSum_133 qi_0 ?_
                    exact x_ret (r := (some (.int (0 : Int32)))) d7_becomeSum_134 (xm_rZ (Or.inl rfl)) rfl ⟨Nat.le_refl _, Nat.le_refl _⟩ (h hS)
                  · have h := h.2 g
                    refine x_aload_n d7_becomeSum_113 2 rfl rfl ?_
                    refine x_aload_n d7_becomeSum_114 4 rfl rfl ?_
                    refine x_getI d7_becomeSum_115 fl7_9 (fun _ _ => rfl) (hS.1 _ _ ha2) ?_
                    refine x_iload d7_becomeSum_118 1 rfl ?_
                    refine x_aload_n d7_becomeSum_120 4 rfl rfl ?_
                    refine x_getL d7_becomeSum_121 fl7_18 (fun _ _ => rfl) (hS.1 _ _ ha2) ?_
                    refine x_aload_n d7_becomeSum_124 5 rfl rfl ?_
                    refine x_getL d7_becomeSum_125 fl7_18 (fun _ _ => rfl) (hS.1 _ _ ha3) ?_
                    refine x_ladd d7_becomeSum_128 ?_
                    refine x_cVZ (Z := y7_become) (S := rm7_become) (As := [.int (xm_gi M a2 0), .int ((1 : Int32) + (xm_gi M a1 1)), .long ((xm_gl M a2 2) + (xm_gl M a3 2))]) (rest := []) d7_becomeSum_129 ml7_26 k7_become rfl (b := a0) (hS.1 _ _ ha0) rfl rfl (Nat.le_of_ble_eq_true rfl) ⟨⟨by decide, by decide⟩, by decide, by decide⟩ ⟨rfl, rfl⟩ h (fun r8 M7 h => ?_)
                    obtain ⟨hS, h⟩ := h
                    exact x_ret (r := (some (.int (xz r8)))) d7_becomeSum_132 (xm_rZ (xz_01 _)) rfl ⟨Nat.le_refl _, Nat.le_refl _⟩ (h hS)
          · have h := h.2 g
            refine x_aload_n d7_becomeSum_59 2 rfl rfl ?_
            refine x_iload d7_becomeSum_60 1 rfl ?_
            refine x_aload_n d7_becomeSum_62 4 rfl rfl ?_
            refine x_getI d7_becomeSum_63 fl7_15 (fun _ _ => rfl) (hS.1 _ _ ha2) ?_
            refine x_aload_n d7_becomeSum_66 4 rfl rfl ?_
            refine x_getL d7_becomeSum_67 fl7_18 (fun _ _ => rfl) (hS.1 _ _ ha2) ?_
            refine x_aload_n d7_becomeSum_70 5 rfl rfl ?_
            refine x_getL d7_becomeSum_71 fl7_18 (fun _ _ => rfl) (hS.1 _ _ ha3) ?_
            refine x_ladd d7_becomeSum_74 ?_
            refine x_cVZ (Z := y7_become) (S := rm7_become) (As := [.int ((1 : Int32) + (xm_gi M a1 1)), .int (xm_gi M a2 1), .long ((xm_gl M a2 2) + (xm_gl M a3 2))]) (rest := []) d7_becomeSum_75 ml7_26 k7_become rfl (b := a0) (hS.1 _ _ ha0) rfl rfl (Nat.le_of_ble_eq_true rfl) ⟨⟨by decide, by decide⟩, by decide, by decide⟩ ⟨rfl, rfl⟩ h (fun r10 M9 h => ?_)
            obtain ⟨hS, h⟩ := h
            exact x_ret (r := (some (.int (xz r10)))) d7_becomeSum_78 (xm_rZ (xz_01 _)) rfl ⟨Nat.le_refl _, Nat.le_refl _⟩ (h hS)
  · have h := h.2 g
    refine x_iconst d7_becomeSum_23 qi_0 ?_
    exact x_ret (r := (some (.int (0 : Int32)))) d7_becomeSum_24 (xm_rZ (Or.inl rfl)) rfl ⟨Nat.le_refl _, Nat.le_refl _⟩ (h hS)

set_option maxRecDepth 20000 in
theorem t2_jumpsBy_0 {l : Launch} {E : xm_E} {b : Nat} {c p : Bool} {Q : Option Value → xm_M → Prop} (M : xm_M) (a0 : Nat) (v1 : Int32) (ha0 : xS b a0 = some (.inr 2)) (hS : xm_st b c p M)
  (h : (((xm_gi M a0 0) = (13 : Int32) → (xm_st b c p M → Q (some (.int (1 : Int32))) M)) ∧ (¬ (xm_gi M a0 0) = (13 : Int32) → (((xm_gi M a0 0) < (14 : Int32) → (xm_st b c p M → Q (some (.int (0 : Int32))) M)) ∧ (¬ (xm_gi M a0 0) < (14 : Int32) → ((¬ v1 = (1 : Int32) → (xm_st b c p M → Q (some (.int (0 : Int32))) M)) ∧ (v1 = (1 : Int32) → (xm_st b c p M → Q (some (.int (1 : Int32))) M)))))))) :
  xm_X l E y2_jumpsBy rm2_jumpsBy Q 0 [(0, .ref a0), (1, .int v1)] [] 0 0 M := by
  refine x_aload_n d2_jumpsBy_0 0 rfl rfl ?_
  refine x_getI d2_jumpsBy_1 fl2_30 (fun _ _ => rfl) (hS.1 _ _ ha0) ?_
  refine x_bipush d2_jumpsBy_4 qb_13 ?_
  refine x_icmp_eq d2_jumpsBy_6 (t := 23) (by decide) (fun g => ?_) (fun g => ?_)
  · have h := h.1 g
    refine x_iconst d2_jumpsBy_23 qi_1 ?_
    refine x_goto d2_jumpsBy_24 (t := 28) (by decide) ?_
    exact x_ret (r := (some (.int (1 : Int32)))) d2_jumpsBy_28 (xm_rZ (Or.inr rfl)) rfl ⟨Nat.le_refl _, Nat.le_refl _⟩ (h hS)
  · have h := h.2 g
    refine x_aload_n d2_jumpsBy_9 0 rfl rfl ?_
    refine x_getI d2_jumpsBy_10 fl2_30 (fun _ _ => rfl) (hS.1 _ _ ha0) ?_
    refine x_bipush d2_jumpsBy_13 qb_14 ?_
    refine x_icmp_lt d2_jumpsBy_15 (t := 27) (by decide) (fun g => ?_) (fun g => ?_)
    · have h := h.1 g
      refine x_iconst d2_jumpsBy_27 qi_0 ?_
      exact x_ret (r := (some (.int (0 : Int32)))) d2_jumpsBy_28 (xm_rZ (Or.inl rfl)) rfl ⟨Nat.le_refl _, Nat.le_refl _⟩ (h hS)
    · have h := h.2 g
      refine x_iload_n d2_jumpsBy_18 1 rfl rfl ?_
      refine x_iconst d2_jumpsBy_19 qi_1 ?_
      refine x_icmp_ne d2_jumpsBy_20 (t := 27) (by decide) (fun g => ?_) (fun g => ?_)
      · have h := h.1 g
        refine x_iconst d2_jumpsBy_27 qi_0 ?_
        exact x_ret (r := (some (.int (0 : Int32)))) d2_jumpsBy_28 (xm_rZ (Or.inl rfl)) rfl ⟨Nat.le_refl _, Nat.le_refl _⟩ (h hS)
      · have h := h.2 g
        refine x_iconst d2_jumpsBy_23 qi_1 ?_
        refine x_goto d2_jumpsBy_24 (t := 28) (by decide) ?_
        exact x_ret (r := (some (.int (1 : Int32)))) d2_jumpsBy_28 (xm_rZ (Or.inr rfl)) rfl ⟨Nat.le_refl _, Nat.le_refl _⟩ (h hS)

set_option maxRecDepth 20000 in
theorem t7_becomeFurther_0 {l : Launch} {E : xm_E} {b : Nat} {c p : Bool} {Q : Option Value → xm_M → Prop} (M : xm_M) (a0 : Nat) (a1 : Nat) (v2 : Int32) (v3 : Int32) (ha0 : xS b a0 = some (.inr 7)) (ha1 : xS b a1 = some (.inr 2)) (hS : xm_st b c p M)
  (h : (((xm_gi M a1 0) = (1 : Int32) → xm_C l E y7_becomePair rm7_becomePair [.ref a0, .int v3, .int ((1 : Int32) + (xm_gi M a1 1)), .int (0 : Int32), .long (Int32.toInt64 (xm_gi M a1 3)), .long (-(Int32.toInt64 (xm_gi M a1 3)))] M (fun r M1 => ∃ r2 : Bool, r = some (.int (xz r2)) ∧ xm_st b c p M1 ∧ (xm_st b c p M1 → Q (some (.int (xz r2))) M1))) ∧ ((xm_gi M a1 0) = (2 : Int32) → ((((1 : Int32) + (xm_gi M a1 1)) = ((1 : Int32) + (xm_gi M a1 2)) → (xm_st b c p M → Q (some (.int (0 : Int32))) M)) ∧ (¬ ((1 : Int32) + (xm_gi M a1 1)) = ((1 : Int32) + (xm_gi M a1 2)) → xm_C l E y7_becomePair rm7_becomePair [.ref a0, .int v3, .int ((1 : Int32) + (xm_gi M a1 1)), .int ((1 : Int32) + (xm_gi M a1 2)), .long (0 : Int64), .long (0 : Int64)] M (fun r M3 => ∃ r4 : Bool, r = some (.int (xz r4)) ∧ xm_st b c p M3 ∧ (((xz r4) = 0 → (xm_st b c p M3 → Q (some (.int (0 : Int32))) M3)) ∧ (¬ (xz r4) = 0 → (xm_st b c p M3 → Q (some (.int (1 : Int32))) M3))))))) ∧ ((xm_gi M a1 0) = (5 : Int32) → ((¬ ((1 : Int32) + (xm_gi M a1 1)) = ((1 : Int32) + (xm_gi M a1 2)) → (xm_st b c p M → Q (some (.int (0 : Int32))) M)) ∧ (((1 : Int32) + (xm_gi M a1 1)) = ((1 : Int32) + (xm_gi M a1 2)) → xm_C l E y7_becomePair rm7_becomePair [.ref a0, .int v3, .int ((1 : Int32) + (xm_gi M a1 1)), .int (0 : Int32), .long (0 : Int64), .long (0 : Int64)] M (fun r M5 => ∃ r6 : Bool, r = some (.int (xz r6)) ∧ xm_st b c p M5 ∧ (((xz r6) = 0 → (xm_st b c p M5 → Q (some (.int (0 : Int32))) M5)) ∧ (¬ (xz r6) = 0 → (xm_st b c p M5 → Q (some (.int (1 : Int32))) M5))))))) ∧ ((xm_gi M a1 0) = (6 : Int32) → xm_C l E y7_becomePair rm7_becomePair [.ref a0, .int v3, .int ((1 : Int32) + (xm_gi M a1 1)), .int (0 : Int32), .long (Int32.toInt64 (xm_gi M a1 3)), .long (0 : Int64)] M (fun r M7 => ∃ r8 : Bool, r = some (.int (xz r8)) ∧ xm_st b c p M7 ∧ (xm_st b c p M7 → Q (some (.int (xz r8))) M7))) ∧ ((xm_gi M a1 0) = (7 : Int32) → xm_C l E y7_becomePair rm7_becomePair [.ref a0, .int v3, .int ((1 : Int32) + (xm_gi M a1 1)), .int (0 : Int32), .long (((1 : Int64) <<< (Int32.toInt64 ((32 : Int32) - (xm_gi M a1 3)) &&& 63)) - (1 : Int64)), .long (0 : Int64)] M (fun r M9 => ∃ r10 : Bool, r = some (.int (xz r10)) ∧ xm_st b c p M9 ∧ (xm_st b c p M9 → Q (some (.int (xz r10))) M9))) ∧ ((xm_gi M a1 0) = (8 : Int32) → xm_C l E y7_becomePair rm7_becomePair [.ref a0, .int v3, .int ((1 : Int32) + (xm_gi M a1 1)), .int (0 : Int32), .long (255 : Int64), .long (0 : Int64)] M (fun r M11 => ∃ r12 : Bool, r = some (.int (xz r12)) ∧ xm_st b c p M11 ∧ (xm_st b c p M11 → Q (some (.int (xz r12))) M11))) ∧ ((xm_gi M a1 0) = (9 : Int32) → xm_C l E y7_becomePair rm7_becomePair [.ref a0, .int v3, .int ((1 : Int32) + (xm_gi M a1 1)), .int (0 : Int32), .long (65535 : Int64), .long (0 : Int64)] M (fun r M13 => ∃ r14 : Bool, r = some (.int (xz r14)) ∧ xm_st b c p M13 ∧ (xm_st b c p M13 → Q (some (.int (xz r14))) M13))) ∧ ((xm_gi M a1 0) = (11 : Int32) → xm_C l E y7_becomePair rm7_becomePair [.ref a0, .int v3, .int ((1 : Int32) + (xm_gi M a1 1)), .int (0 : Int32), .long (255 : Int64), .long (0 : Int64)] M (fun r M15 => ∃ r16 : Bool, r = some (.int (xz r16)) ∧ xm_st b c p M15 ∧ (xm_st b c p M15 → Q (some (.int (xz r16))) M15))) ∧ ((xm_gi M a1 0) = (14 : Int32) → ((((1 : Int32) + (xm_gi M a1 1)) = ((1 : Int32) + (xm_gi M a1 2)) → (xm_st b c p M → Q (some (.int (0 : Int32))) M)) ∧ (¬ ((1 : Int32) + (xm_gi M a1 1)) = ((1 : Int32) + (xm_gi M a1 2)) → ((¬ v3 = 0 → (xm_st b c p M → Q (some (.int (0 : Int32))) M)) ∧ (v3 = 0 → ((v2 = 0 → xm_C l E y7_become rm7_become [.ref a0, .int ((1 : Int32) + (xm_gi M a1 2)), .int ((1 : Int32) + (xm_gi M a1 1)), .long (0 : Int64)] M (fun r M17 => ∃ r18 : Bool, r = some (.int (xz r18)) ∧ xm_st b c p M17 ∧ (((xz r18) = 0 → (xm_st b c p M17 → Q (some (.int (0 : Int32))) M17)) ∧ (¬ (xz r18) = 0 → (xm_st b c p M17 → Q (some (.int (1 : Int32))) M17))))) ∧ (¬ v2 = 0 → xm_C l E y7_become rm7_become [.ref a0, .int ((1 : Int32) + (xm_gi M a1 1)), .int ((1 : Int32) + (xm_gi M a1 2)), .long (-1 : Int64)] M (fun r M19 => ∃ r20 : Bool, r = some (.int (xz r20)) ∧ xm_st b c p M19 ∧ (((xz r20) = 0 → (xm_st b c p M19 → Q (some (.int (0 : Int32))) M19)) ∧ (¬ (xz r20) = 0 → (xm_st b c p M19 → Q (some (.int (1 : Int32))) M19))))))))))) ∧ ((xm_gi M a1 0) = (15 : Int32) → ((¬ v3 = 0 → (xm_st b c p M → Q (some (.int (0 : Int32))) M)) ∧ (v3 = 0 → ((v2 = 0 → xm_C l E y7_become rm7_become [.ref a0, .int (0 : Int32), .int ((1 : Int32) + (xm_gi M a1 1)), .long (-(Int32.toInt64 (xm_gi M a1 3)))] M (fun r M21 => ∃ r22 : Bool, r = some (.int (xz r22)) ∧ xm_st b c p M21 ∧ (((xz r22) = 0 → (xm_st b c p M21 → Q (some (.int (0 : Int32))) M21)) ∧ (¬ (xz r22) = 0 → (xm_st b c p M21 → Q (some (.int (1 : Int32))) M21))))) ∧ (¬ v2 = 0 → xm_C l E y7_become rm7_become [.ref a0, .int ((1 : Int32) + (xm_gi M a1 1)), .int (0 : Int32), .long ((Int32.toInt64 (xm_gi M a1 3)) - (1 : Int64))] M (fun r M23 => ∃ r24 : Bool, r = some (.int (xz r24)) ∧ xm_st b c p M23 ∧ (((xz r24) = 0 → (xm_st b c p M23 → Q (some (.int (0 : Int32))) M23)) ∧ (¬ (xz r24) = 0 → (xm_st b c p M23 → Q (some (.int (1 : Int32))) M23))))))))) ∧ ((xm_gi M a1 0) = (16 : Int32) → ((v2 = 0 → (xm_st b c p M → Q (some (.int (0 : Int32))) M)) ∧ (¬ v2 = 0 → ((((1 : Int32) + (xm_gi M a1 1)) = ((1 : Int32) + (xm_gi M a1 2)) → (xm_st b c p M → Q (some (.int (0 : Int32))) M)) ∧ (¬ ((1 : Int32) + (xm_gi M a1 1)) = ((1 : Int32) + (xm_gi M a1 2)) → xm_C l E y7_becomePair rm7_becomePair [.ref a0, .int v3, .int ((1 : Int32) + (xm_gi M a1 1)), .int ((1 : Int32) + (xm_gi M a1 2)), .long (0 : Int64), .long (0 : Int64)] M (fun r M25 => ∃ r26 : Bool, r = some (.int (xz r26)) ∧ xm_st b c p M25 ∧ (((xz r26) = 0 → (xm_st b c p M25 → Q (some (.int (0 : Int32))) M25)) ∧ (¬ (xz r26) = 0 → (xm_st b c p M25 → Q (some (.int (1 : Int32))) M25))))))))) ∧ (¬ (xm_gi M a1 0) = (1 : Int32) ∧ ¬ (xm_gi M a1 0) = (2 : Int32) ∧ ¬ (xm_gi M a1 0) = (5 : Int32) ∧ ¬ (xm_gi M a1 0) = (6 : Int32) ∧ ¬ (xm_gi M a1 0) = (7 : Int32) ∧ ¬ (xm_gi M a1 0) = (8 : Int32) ∧ ¬ (xm_gi M a1 0) = (9 : Int32) ∧ ¬ (xm_gi M a1 0) = (11 : Int32) ∧ ¬ (xm_gi M a1 0) = (14 : Int32) ∧ ¬ (xm_gi M a1 0) = (15 : Int32) ∧ ¬ (xm_gi M a1 0) = (16 : Int32) → (xm_st b c p M → Q (some (.int (0 : Int32))) M)))) :
  xm_X l E y7_becomeFurther rm7_becomeFurther Q 0 [(0, .ref a0), (1, .ref a1), (2, .int v2), (3, .int v3)] [] 0 0 M := by
  refine x_iconst d7_becomeFurther_0 qi_1 ?_
  refine x_aload_n d7_becomeFurther_1 1 rfl rfl ?_
  refine x_getI d7_becomeFurther_2 fl7_32 (fun _ _ => rfl) (hS.1 _ _ ha1) ?_
  refine x_iadd d7_becomeFurther_5 ?_
  refine x_istore d7_becomeFurther_6 (by decide) (L' := [(4, .int ((1 : Int32) + (xm_gi M a1 1))), (0, .ref a0), (1, .ref a1), (2, .int v2), (3, .int v3)]) rfl ?_
  refine x_iconst d7_becomeFurther_8 qi_1 ?_
  refine x_aload_n d7_becomeFurther_9 2 rfl rfl ?_
  refine x_getI d7_becomeFurther_10 fl7_47 (fun _ _ => rfl) (hS.1 _ _ ha1) ?_
  refine x_iadd d7_becomeFurther_13 ?_
  refine x_istore d7_becomeFurther_14 (by decide) (L' := [(5, .int ((1 : Int32) + (xm_gi M a1 2))), (4, .int ((1 : Int32) + (xm_gi M a1 1))), (0, .ref a0), (1, .ref a1), (2, .int v2), (3, .int v3)]) rfl ?_
  refine x_aload_n d7_becomeFurther_16 3 rfl rfl ?_
  refine x_getI d7_becomeFurther_17 fl7_44 (fun _ _ => rfl) (hS.1 _ _ ha1) ?_
  refine x_i2l d7_becomeFurther_20 ?_
  refine x_lstore d7_becomeFurther_21 (by decide) (L' := [(6, .long (Int32.toInt64 (xm_gi M a1 3))), (5, .int ((1 : Int32) + (xm_gi M a1 2))), (4, .int ((1 : Int32) + (xm_gi M a1 1))), (0, .ref a0), (1, .ref a1), (2, .int v2), (3, .int v3)]) rfl ?_
  refine x_aload_n d7_becomeFurther_23 4 rfl rfl ?_
  refine x_getI d7_becomeFurther_24 fl7_41 (fun _ _ => rfl) (hS.1 _ _ ha1) ?_
  have hsw := h
  clear h
  by_cases e1 : (xm_gi M a1 0) = (1 : Int32)
  · have h := hsw.1 e1
    refine x_swIn d7_becomeFurther_27 1 (by rw [e1]; rfl) ⟨by decide, by decide⟩ rfl (t := 104) (by decide) ?_
    refine x_aload_n d7_becomeFurther_104 3 rfl rfl ?_
    refine x_iload_n d7_becomeFurther_105 6 rfl rfl ?_
    refine x_iload d7_becomeFurther_106 2 rfl ?_
    refine x_iconst d7_becomeFurther_108 qi_0 ?_
    refine x_lload d7_becomeFurther_109 0 rfl ?_
    refine x_lload d7_becomeFurther_111 0 rfl ?_
    refine x_lneg d7_becomeFurther_113 ?_
    refine x_cVZ (Z := y7_becomePair) (S := rm7_becomePair) (As := [.int v3, .int ((1 : Int32) + (xm_gi M a1 1)), .int (0 : Int32), .long (Int32.toInt64 (xm_gi M a1 3)), .long (-(Int32.toInt64 (xm_gi M a1 3)))]) (rest := []) d7_becomeFurther_114 ml7_22 k7_becomePair rfl (b := a0) (hS.1 _ _ ha0) rfl rfl (Nat.le_of_ble_eq_true rfl) ⟨⟨by decide, by decide⟩, by decide, by decide⟩ ⟨rfl, rfl⟩ h (fun r2 M1 h => ?_)
    obtain ⟨hS, h⟩ := h
    exact x_ret (r := (some (.int (xz r2)))) d7_becomeFurther_117 (xm_rZ (xz_01 _)) rfl ⟨Nat.le_refl _, Nat.le_refl _⟩ (h hS)
  by_cases e2 : (xm_gi M a1 0) = (2 : Int32)
  · have h := hsw.2.1 e2
    refine x_swIn d7_becomeFurther_27 2 (by rw [e2]; rfl) ⟨by decide, by decide⟩ rfl (t := 118) (by decide) ?_
    refine x_iload d7_becomeFurther_118 2 rfl ?_
    refine x_iload d7_becomeFurther_120 1 rfl ?_
    refine x_icmp_eq d7_becomeFurther_122 (t := 143) (by decide) (fun g => ?_) (fun g => ?_)
    · have h := h.1 g
      refine x_iconst d7_becomeFurther_143 qi_0 ?_
      exact x_ret (r := (some (.int (0 : Int32)))) d7_becomeFurther_144 (xm_rZ (Or.inl rfl)) rfl ⟨Nat.le_refl _, Nat.le_refl _⟩ (h hS)
    · have h := h.2 g
      refine x_aload_n d7_becomeFurther_125 3 rfl rfl ?_
      refine x_iload_n d7_becomeFurther_126 6 rfl rfl ?_
      refine x_iload d7_becomeFurther_127 2 rfl ?_
      refine x_iload d7_becomeFurther_129 1 rfl ?_
      refine x_lconst d7_becomeFurther_131 ql_0 ?_
      refine x_lconst d7_becomeFurther_132 ql_0 ?_
      refine x_cVZ (Z := y7_becomePair) (S := rm7_becomePair) (As := [.int v3, .int ((1 : Int32) + (xm_gi M a1 1)), .int ((1 : Int32) + (xm_gi M a1 2)), .long (0 : Int64), .long (0 : Int64)]) (rest := []) d7_becomeFurther_133 ml7_22 k7_becomePair rfl (b := a0) (hS.1 _ _ ha0) rfl rfl (Nat.le_of_ble_eq_true rfl) ⟨⟨by decide, by decide⟩, by decide, by decide⟩ ⟨rfl, rfl⟩ h (fun r4 M3 h => ?_)
      obtain ⟨hS, h⟩ := h
      refine x_if_eq d7_becomeFurther_136 (t := 143) (by decide) (fun g => ?_) (fun g => ?_)
      · have h := h.1 g
        refine x_iconst d7_becomeFurther_143 qi_0 ?_
        exact x_ret (r := (some (.int (0 : Int32)))) d7_becomeFurther_144 (xm_rZ (Or.inl rfl)) rfl ⟨Nat.le_refl _, Nat.le_refl _⟩ (h hS)
      · have h := h.2 g
        refine x_iconst d7_becomeFurther_139 qi_1 ?_
        refine x_goto d7_becomeFurther_140 (t := 144) (by decide) ?_
        exact x_ret (r := (some (.int (1 : Int32)))) d7_becomeFurther_144 (xm_rZ (Or.inr rfl)) rfl ⟨Nat.le_refl _, Nat.le_refl _⟩ (h hS)
  by_cases e5 : (xm_gi M a1 0) = (5 : Int32)
  · have h := hsw.2.2.1 e5
    refine x_swIn d7_becomeFurther_27 5 (by rw [e5]; rfl) ⟨by decide, by decide⟩ rfl (t := 145) (by decide) ?_
    refine x_iload d7_becomeFurther_145 2 rfl ?_
    refine x_iload d7_becomeFurther_147 1 rfl ?_
    refine x_icmp_ne d7_becomeFurther_149 (t := 169) (by decide) (fun g => ?_) (fun g => ?_)
    · have h := h.1 g
      refine x_iconst d7_becomeFurther_169 qi_0 ?_
      exact x_ret (r := (some (.int (0 : Int32)))) d7_becomeFurther_170 (xm_rZ (Or.inl rfl)) rfl ⟨Nat.le_refl _, Nat.le_refl _⟩ (h hS)
    · have h := h.2 g
      refine x_aload_n d7_becomeFurther_152 3 rfl rfl ?_
      refine x_iload_n d7_becomeFurther_153 6 rfl rfl ?_
      refine x_iload d7_becomeFurther_154 2 rfl ?_
      refine x_iconst d7_becomeFurther_156 qi_0 ?_
      refine x_lconst d7_becomeFurther_157 ql_0 ?_
      refine x_lconst d7_becomeFurther_158 ql_0 ?_
      refine x_cVZ (Z := y7_becomePair) (S := rm7_becomePair) (As := [.int v3, .int ((1 : Int32) + (xm_gi M a1 1)), .int (0 : Int32), .long (0 : Int64), .long (0 : Int64)]) (rest := []) d7_becomeFurther_159 ml7_22 k7_becomePair rfl (b := a0) (hS.1 _ _ ha0) rfl rfl (Nat.le_of_ble_eq_true rfl) ⟨⟨by decide, by decide⟩, by decide, by decide⟩ ⟨rfl, rfl⟩ h (fun r6 M5 h => ?_)
      obtain ⟨hS, h⟩ := h
      refine x_if_eq d7_becomeFurther_162 (t := 169) (by decide) (fun g => ?_) (fun g => ?_)
      · have h := h.1 g
        refine x_iconst d7_becomeFurther_169 qi_0 ?_
        exact x_ret (r := (some (.int (0 : Int32)))) d7_becomeFurther_170 (xm_rZ (Or.inl rfl)) rfl ⟨Nat.le_refl _, Nat.le_refl _⟩ (h hS)
      · have h := h.2 g
        refine x_iconst d7_becomeFurther_165 qi_1 ?_
        refine x_goto d7_becomeFurther_166 (t := 170) (by decide) ?_
        exact x_ret (r := (some (.int (1 : Int32)))) d7_becomeFurther_170 (xm_rZ (Or.inr rfl)) rfl ⟨Nat.le_refl _, Nat.le_refl _⟩ (h hS)
  by_cases e6 : (xm_gi M a1 0) = (6 : Int32)
  · have h := hsw.2.2.2.1 e6
    refine x_swIn d7_becomeFurther_27 6 (by rw [e6]; rfl) ⟨by decide, by decide⟩ rfl (t := 171) (by decide) ?_
    refine x_aload_n d7_becomeFurther_171 3 rfl rfl ?_
    refine x_iload_n d7_becomeFurther_172 6 rfl rfl ?_
    refine x_iload d7_becomeFurther_173 2 rfl ?_
    refine x_iconst d7_becomeFurther_175 qi_0 ?_
    refine x_lload d7_becomeFurther_176 0 rfl ?_
    refine x_lconst d7_becomeFurther_178 ql_0 ?_
    refine x_cVZ (Z := y7_becomePair) (S := rm7_becomePair) (As := [.int v3, .int ((1 : Int32) + (xm_gi M a1 1)), .int (0 : Int32), .long (Int32.toInt64 (xm_gi M a1 3)), .long (0 : Int64)]) (rest := []) d7_becomeFurther_179 ml7_22 k7_becomePair rfl (b := a0) (hS.1 _ _ ha0) rfl rfl (Nat.le_of_ble_eq_true rfl) ⟨⟨by decide, by decide⟩, by decide, by decide⟩ ⟨rfl, rfl⟩ h (fun r8 M7 h => ?_)
    obtain ⟨hS, h⟩ := h
    exact x_ret (r := (some (.int (xz r8)))) d7_becomeFurther_182 (xm_rZ (xz_01 _)) rfl ⟨Nat.le_refl _, Nat.le_refl _⟩ (h hS)
  by_cases e7 : (xm_gi M a1 0) = (7 : Int32)
  · have h := hsw.2.2.2.2.1 e7
    refine x_swIn d7_becomeFurther_27 7 (by rw [e7]; rfl) ⟨by decide, by decide⟩ rfl (t := 183) (by decide) ?_
    refine x_aload_n d7_becomeFurther_183 3 rfl rfl ?_
    refine x_iload_n d7_becomeFurther_184 6 rfl rfl ?_
    refine x_iload d7_becomeFurther_185 2 rfl ?_
    refine x_iconst d7_becomeFurther_187 qi_0 ?_
    refine x_lconst d7_becomeFurther_188 ql_1 ?_
    refine x_bipush d7_becomeFurther_189 qb_32 ?_
    refine x_aload_n d7_becomeFurther_191 4 rfl rfl ?_
    refine x_getI d7_becomeFurther_192 fl7_44 (fun _ _ => rfl) (hS.1 _ _ ha1) ?_
    refine x_isub d7_becomeFurther_195 ?_
    refine x_lshl d7_becomeFurther_196 ?_
    refine x_lconst d7_becomeFurther_197 ql_1 ?_
    refine x_lsub d7_becomeFurther_198 ?_
    refine x_lconst d7_becomeFurther_199 ql_0 ?_
    refine x_cVZ (Z := y7_becomePair) (S := rm7_becomePair) (As := [.int v3, .int ((1 : Int32) + (xm_gi M a1 1)), .int (0 : Int32), .long (((1 : Int64) <<< (Int32.toInt64 ((32 : Int32) - (xm_gi M a1 3)) &&& 63)) - (1 : Int64)), .long (0 : Int64)]) (rest := []) d7_becomeFurther_200 ml7_22 k7_becomePair rfl (b := a0) (hS.1 _ _ ha0) rfl rfl (Nat.le_of_ble_eq_true rfl) ⟨⟨by decide, by decide⟩, by decide, by decide⟩ ⟨rfl, rfl⟩ h (fun r10 M9 h => ?_)
    obtain ⟨hS, h⟩ := h
    exact x_ret (r := (some (.int (xz r10)))) d7_becomeFurther_203 (xm_rZ (xz_01 _)) rfl ⟨Nat.le_refl _, Nat.le_refl _⟩ (h hS)
  by_cases e8 : (xm_gi M a1 0) = (8 : Int32)
  · have h := hsw.2.2.2.2.2.1 e8
    refine x_swIn d7_becomeFurther_27 8 (by rw [e8]; rfl) ⟨by decide, by decide⟩ rfl (t := 204) (by decide) ?_
    refine x_aload_n d7_becomeFurther_204 3 rfl rfl ?_
    refine x_iload_n d7_becomeFurther_205 6 rfl rfl ?_
    refine x_iload d7_becomeFurther_206 2 rfl ?_
    refine x_iconst d7_becomeFurther_208 qi_0 ?_
    refine x_ldc2 d7_becomeFurther_209 lc7_50 ?_
    refine x_lconst d7_becomeFurther_212 ql_0 ?_
    refine x_cVZ (Z := y7_becomePair) (S := rm7_becomePair) (As := [.int v3, .int ((1 : Int32) + (xm_gi M a1 1)), .int (0 : Int32), .long (255 : Int64), .long (0 : Int64)]) (rest := []) d7_becomeFurther_213 ml7_22 k7_becomePair rfl (b := a0) (hS.1 _ _ ha0) rfl rfl (Nat.le_of_ble_eq_true rfl) ⟨⟨by decide, by decide⟩, by decide, by decide⟩ ⟨rfl, rfl⟩ h (fun r12 M11 h => ?_)
    obtain ⟨hS, h⟩ := h
    exact x_ret (r := (some (.int (xz r12)))) d7_becomeFurther_216 (xm_rZ (xz_01 _)) rfl ⟨Nat.le_refl _, Nat.le_refl _⟩ (h hS)
  by_cases e9 : (xm_gi M a1 0) = (9 : Int32)
  · have h := hsw.2.2.2.2.2.2.1 e9
    refine x_swIn d7_becomeFurther_27 9 (by rw [e9]; rfl) ⟨by decide, by decide⟩ rfl (t := 217) (by decide) ?_
    refine x_aload_n d7_becomeFurther_217 3 rfl rfl ?_
    refine x_iload_n d7_becomeFurther_218 6 rfl rfl ?_
    refine x_iload d7_becomeFurther_219 2 rfl ?_
    refine x_iconst d7_becomeFurther_221 qi_0 ?_
    refine x_ldc2 d7_becomeFurther_222 lc7_52 ?_
    refine x_lconst d7_becomeFurther_225 ql_0 ?_
    refine x_cVZ (Z := y7_becomePair) (S := rm7_becomePair) (As := [.int v3, .int ((1 : Int32) + (xm_gi M a1 1)), .int (0 : Int32), .long (65535 : Int64), .long (0 : Int64)]) (rest := []) d7_becomeFurther_226 ml7_22 k7_becomePair rfl (b := a0) (hS.1 _ _ ha0) rfl rfl (Nat.le_of_ble_eq_true rfl) ⟨⟨by decide, by decide⟩, by decide, by decide⟩ ⟨rfl, rfl⟩ h (fun r14 M13 h => ?_)
    obtain ⟨hS, h⟩ := h
    exact x_ret (r := (some (.int (xz r14)))) d7_becomeFurther_229 (xm_rZ (xz_01 _)) rfl ⟨Nat.le_refl _, Nat.le_refl _⟩ (h hS)
  by_cases e11 : (xm_gi M a1 0) = (11 : Int32)
  · have h := hsw.2.2.2.2.2.2.2.1 e11
    refine x_swIn d7_becomeFurther_27 11 (by rw [e11]; rfl) ⟨by decide, by decide⟩ rfl (t := 204) (by decide) ?_
    refine x_aload_n d7_becomeFurther_204 3 rfl rfl ?_
    refine x_iload_n d7_becomeFurther_205 6 rfl rfl ?_
    refine x_iload d7_becomeFurther_206 2 rfl ?_
    refine x_iconst d7_becomeFurther_208 qi_0 ?_
    refine x_ldc2 d7_becomeFurther_209 lc7_50 ?_
    refine x_lconst d7_becomeFurther_212 ql_0 ?_
    refine x_cVZ (Z := y7_becomePair) (S := rm7_becomePair) (As := [.int v3, .int ((1 : Int32) + (xm_gi M a1 1)), .int (0 : Int32), .long (255 : Int64), .long (0 : Int64)]) (rest := []) d7_becomeFurther_213 ml7_22 k7_becomePair rfl (b := a0) (hS.1 _ _ ha0) rfl rfl (Nat.le_of_ble_eq_true rfl) ⟨⟨by decide, by decide⟩, by decide, by decide⟩ ⟨rfl, rfl⟩ h (fun r16 M15 h => ?_)
    obtain ⟨hS, h⟩ := h
    exact x_ret (r := (some (.int (xz r16)))) d7_becomeFurther_216 (xm_rZ (xz_01 _)) rfl ⟨Nat.le_refl _, Nat.le_refl _⟩ (h hS)
  by_cases e14 : (xm_gi M a1 0) = (14 : Int32)
  · have h := hsw.2.2.2.2.2.2.2.2.1 e14
    refine x_swIn d7_becomeFurther_27 14 (by rw [e14]; rfl) ⟨by decide, by decide⟩ rfl (t := 230) (by decide) ?_
    refine x_iload d7_becomeFurther_230 2 rfl ?_
    refine x_iload d7_becomeFurther_232 1 rfl ?_
    refine x_icmp_eq d7_becomeFurther_234 (t := 278) (by decide) (fun g => ?_) (fun g => ?_)
    · have h := h.1 g
      refine x_iconst d7_becomeFurther_278 qi_0 ?_
      exact x_ret (r := (some (.int (0 : Int32)))) d7_becomeFurther_279 (xm_rZ (Or.inl rfl)) rfl ⟨Nat.le_refl _, Nat.le_refl _⟩ (h hS)
    · have h := h.2 g
      refine x_iload_n d7_becomeFurther_237 6 rfl rfl ?_
      refine x_if_ne d7_becomeFurther_238 (t := 278) (by decide) (fun g => ?_) (fun g => ?_)
      · have h := h.1 g
        refine x_iconst d7_becomeFurther_278 qi_0 ?_
        exact x_ret (r := (some (.int (0 : Int32)))) d7_becomeFurther_279 (xm_rZ (Or.inl rfl)) rfl ⟨Nat.le_refl _, Nat.le_refl _⟩ (h hS)
      · have h := h.2 g
        refine x_iload_n d7_becomeFurther_241 5 rfl rfl ?_
        refine x_if_eq d7_becomeFurther_242 (t := 262) (by decide) (fun g => ?_) (fun g => ?_)
        · have h := h.1 g
          refine x_aload_n d7_becomeFurther_262 3 rfl rfl ?_
          refine x_iload d7_becomeFurther_263 1 rfl ?_
          refine x_iload d7_becomeFurther_265 2 rfl ?_
          refine x_lconst d7_becomeFurther_267 ql_0 ?_
          refine x_cVZ (Z := y7_become) (S := rm7_become) (As := [.int ((1 : Int32) + (xm_gi M a1 2)), .int ((1 : Int32) + (xm_gi M a1 1)), .long (0 : Int64)]) (rest := []) d7_becomeFurther_268 ml7_26 k7_become rfl (b := a0) (hS.1 _ _ ha0) rfl rfl (Nat.le_of_ble_eq_true rfl) ⟨⟨by decide, by decide⟩, by decide, by decide⟩ ⟨rfl, rfl⟩ h (fun r18 M17 h => ?_)
          obtain ⟨hS, h⟩ := h
          refine x_if_eq d7_becomeFurther_271 (t := 278) (by decide) (fun g => ?_) (fun g => ?_)
          · have h := h.1 g
            refine x_iconst d7_becomeFurther_278 qi_0 ?_
            exact x_ret (r := (some (.int (0 : Int32)))) d7_becomeFurther_279 (xm_rZ (Or.inl rfl)) rfl ⟨Nat.le_refl _, Nat.le_refl _⟩ (h hS)
          · have h := h.2 g
            refine x_iconst d7_becomeFurther_274 qi_1 ?_
            refine x_goto d7_becomeFurther_275 (t := 279) (by decide) ?_
            exact x_ret (r := (some (.int (1 : Int32)))) d7_becomeFurther_279 (xm_rZ (Or.inr rfl)) rfl ⟨Nat.le_refl _, Nat.le_refl _⟩ (h hS)
        · have h := h.2 g
          refine x_aload_n d7_becomeFurther_245 3 rfl rfl ?_
          refine x_iload d7_becomeFurther_246 2 rfl ?_
          refine x_iload d7_becomeFurther_248 1 rfl ?_
          refine x_ldc2 d7_becomeFurther_250 lc7_54 ?_
          refine x_cVZ (Z := y7_become) (S := rm7_become) (As := [.int ((1 : Int32) + (xm_gi M a1 1)), .int ((1 : Int32) + (xm_gi M a1 2)), .long (-1 : Int64)]) (rest := []) d7_becomeFurther_253 ml7_26 k7_become rfl (b := a0) (hS.1 _ _ ha0) rfl rfl (Nat.le_of_ble_eq_true rfl) ⟨⟨by decide, by decide⟩, by decide, by decide⟩ ⟨rfl, rfl⟩ h (fun r20 M19 h => ?_)
          obtain ⟨hS, h⟩ := h
          refine x_if_eq d7_becomeFurther_256 (t := 278) (by decide) (fun g => ?_) (fun g => ?_)
          · have h := h.1 g
            refine x_iconst d7_becomeFurther_278 qi_0 ?_
            exact x_ret (r := (some (.int (0 : Int32)))) d7_becomeFurther_279 (xm_rZ (Or.inl rfl)) rfl ⟨Nat.le_refl _, Nat.le_refl _⟩ (h hS)
          · have h := h.2 g
            refine x_goto d7_becomeFurther_259 (t := 274) (by decide) ?_
            refine x_iconst d7_becomeFurther_274 qi_1 ?_
            refine x_goto d7_becomeFurther_275 (t := 279) (by decide) ?_
            exact x_ret (r := (some (.int (1 : Int32)))) d7_becomeFurther_279 (xm_rZ (Or.inr rfl)) rfl ⟨Nat.le_refl _, Nat.le_refl _⟩ (h hS)
  by_cases e15 : (xm_gi M a1 0) = (15 : Int32)
  · have h := hsw.2.2.2.2.2.2.2.2.2.1 e15
    refine x_swIn d7_becomeFurther_27 15 (by rw [e15]; rfl) ⟨by decide, by decide⟩ rfl (t := 280) (by decide) ?_
    refine x_iload_n d7_becomeFurther_280 6 rfl rfl ?_
    refine x_if_ne d7_becomeFurther_281 (t := 322) (by decide) (fun g => ?_) (fun g => ?_)
    · have h := h.1 g
      refine x_iconst d7_becomeFurther_322 qi_0 ?_
      exact x_ret (r := (some (.int (0 : Int32)))) d7_becomeFurther_323 (xm_rZ (Or.inl rfl)) rfl ⟨Nat.le_refl _, Nat.le_refl _⟩ (h hS)
    · have h := h.2 g
      refine x_iload_n d7_becomeFurther_284 5 rfl rfl ?_
      refine x_if_eq d7_becomeFurther_285 (t := 305) (by decide) (fun g => ?_) (fun g => ?_)
      · have h := h.1 g
        refine x_aload_n d7_becomeFurther_305 3 rfl rfl ?_
        refine x_iconst d7_becomeFurther_306 qi_0 ?_
        refine x_iload d7_becomeFurther_307 2 rfl ?_
        refine x_lload d7_becomeFurther_309 0 rfl ?_
        refine x_lneg d7_becomeFurther_311 ?_
        refine x_cVZ (Z := y7_become) (S := rm7_become) (As := [.int (0 : Int32), .int ((1 : Int32) + (xm_gi M a1 1)), .long (-(Int32.toInt64 (xm_gi M a1 3)))]) (rest := []) d7_becomeFurther_312 ml7_26 k7_become rfl (b := a0) (hS.1 _ _ ha0) rfl rfl (Nat.le_of_ble_eq_true rfl) ⟨⟨by decide, by decide⟩, by decide, by decide⟩ ⟨rfl, rfl⟩ h (fun r22 M21 h => ?_)
        obtain ⟨hS, h⟩ := h
        refine x_if_eq d7_becomeFurther_315 (t := 322) (by decide) (fun g => ?_) (fun g => ?_)
        · have h := h.1 g
          refine x_iconst d7_becomeFurther_322 qi_0 ?_
          exact x_ret (r := (some (.int (0 : Int32)))) d7_becomeFurther_323 (xm_rZ (Or.inl rfl)) rfl ⟨Nat.le_refl _, Nat.le_refl _⟩ (h hS)
        · have h := h.2 g
          refine x_iconst d7_becomeFurther_318 qi_1 ?_
          refine x_goto d7_becomeFurther_319 (t := 323) (by decide) ?_
          exact x_ret (r := (some (.int (1 : Int32)))) d7_becomeFurther_323 (xm_rZ (Or.inr rfl)) rfl ⟨Nat.le_refl _, Nat.le_refl _⟩ (h hS)
      · have h := h.2 g
        refine x_aload_n d7_becomeFurther_288 3 rfl rfl ?_
        refine x_iload d7_becomeFurther_289 2 rfl ?_
        refine x_iconst d7_becomeFurther_291 qi_0 ?_
        refine x_lload d7_becomeFurther_292 0 rfl ?_
        refine x_lconst d7_becomeFurther_294 ql_1 ?_
        refine x_lsub d7_becomeFurther_295 ?_
        refine x_cVZ (Z := y7_become) (S := rm7_become) (As := [.int ((1 : Int32) + (xm_gi M a1 1)), .int (0 : Int32), .long ((Int32.toInt64 (xm_gi M a1 3)) - (1 : Int64))]) (rest := []) d7_becomeFurther_296 ml7_26 k7_become rfl (b := a0) (hS.1 _ _ ha0) rfl rfl (Nat.le_of_ble_eq_true rfl) ⟨⟨by decide, by decide⟩, by decide, by decide⟩ ⟨rfl, rfl⟩ h (fun r24 M23 h => ?_)
        obtain ⟨hS, h⟩ := h
        refine x_if_eq d7_becomeFurther_299 (t := 322) (by decide) (fun g => ?_) (fun g => ?_)
        · have h := h.1 g
          refine x_iconst d7_becomeFurther_322 qi_0 ?_
          exact x_ret (r := (some (.int (0 : Int32)))) d7_becomeFurther_323 (xm_rZ (Or.inl rfl)) rfl ⟨Nat.le_refl _, Nat.le_refl _⟩ (h hS)
        · have h := h.2 g
          refine x_goto d7_becomeFurther_302 (t := 318) (by decide) ?_
          refine x_iconst d7_becomeFurther_318 qi_1 ?_
          refine x_goto d7_becomeFurther_319 (t := 323) (by decide) ?_
          exact x_ret (r := (some (.int (1 : Int32)))) d7_becomeFurther_323 (xm_rZ (Or.inr rfl)) rfl ⟨Nat.le_refl _, Nat.le_refl _⟩ (h hS)
  by_cases e16 : (xm_gi M a1 0) = (16 : Int32)
  · have h := hsw.2.2.2.2.2.2.2.2.2.2.1 e16
    refine x_swIn d7_becomeFurther_27 16 (by rw [e16]; rfl) ⟨by decide, by decide⟩ rfl (t := 324) (by decide) ?_
    refine x_iload_n d7_becomeFurther_324 5 rfl rfl ?_
    refine x_if_eq d7_becomeFurther_325 (t := 353) (by decide) (fun g => ?_) (fun g => ?_)
    · have h := h.1 g
      refine x_iconst d7_becomeFurther_353 qi_0 ?_
      exact x_ret (r := (some (.int (0 : Int32)))) d7_becomeFurther_354 (xm_rZ (Or.inl rfl)) rfl ⟨Nat.le_refl _, Nat.le_refl _⟩ (h hS)
    · have h := h.2 g
      refine x_iload d7_becomeFurther_328 2 rfl ?_
      refine x_iload d7_becomeFurther_330 1 rfl ?_
      refine x_icmp_eq d7_becomeFurther_332 (t := 353) (by decide) (fun g => ?_) (fun g => ?_)
      · have h := h.1 g
        refine x_iconst d7_becomeFurther_353 qi_0 ?_
        exact x_ret (r := (some (.int (0 : Int32)))) d7_becomeFurther_354 (xm_rZ (Or.inl rfl)) rfl ⟨Nat.le_refl _, Nat.le_refl _⟩ (h hS)
      · have h := h.2 g
        refine x_aload_n d7_becomeFurther_335 3 rfl rfl ?_
        refine x_iload_n d7_becomeFurther_336 6 rfl rfl ?_
        refine x_iload d7_becomeFurther_337 2 rfl ?_
        refine x_iload d7_becomeFurther_339 1 rfl ?_
        refine x_lconst d7_becomeFurther_341 ql_0 ?_
        refine x_lconst d7_becomeFurther_342 ql_0 ?_
        refine x_cVZ (Z := y7_becomePair) (S := rm7_becomePair) (As := [.int v3, .int ((1 : Int32) + (xm_gi M a1 1)), .int ((1 : Int32) + (xm_gi M a1 2)), .long (0 : Int64), .long (0 : Int64)]) (rest := []) d7_becomeFurther_343 ml7_22 k7_becomePair rfl (b := a0) (hS.1 _ _ ha0) rfl rfl (Nat.le_of_ble_eq_true rfl) ⟨⟨by decide, by decide⟩, by decide, by decide⟩ ⟨rfl, rfl⟩ h (fun r26 M25 h => ?_)
        obtain ⟨hS, h⟩ := h
        refine x_if_eq d7_becomeFurther_346 (t := 353) (by decide) (fun g => ?_) (fun g => ?_)
        · have h := h.1 g
          refine x_iconst d7_becomeFurther_353 qi_0 ?_
          exact x_ret (r := (some (.int (0 : Int32)))) d7_becomeFurther_354 (xm_rZ (Or.inl rfl)) rfl ⟨Nat.le_refl _, Nat.le_refl _⟩ (h hS)
        · have h := h.2 g
          refine x_iconst d7_becomeFurther_349 qi_1 ?_
          refine x_goto d7_becomeFurther_350 (t := 354) (by decide) ?_
          exact x_ret (r := (some (.int (1 : Int32)))) d7_becomeFurther_354 (xm_rZ (Or.inr rfl)) rfl ⟨Nat.le_refl _, Nat.le_refl _⟩ (h hS)
  have h := hsw.2.2.2.2.2.2.2.2.2.2.2 ⟨e1, e2, e5, e6, e7, e8, e9, e11, e14, e15, e16⟩
  by_cases e3 : (xm_gi M a1 0) = (3 : Int32)
  · refine x_swIn d7_becomeFurther_27 3 (by rw [e3]; rfl) ⟨by decide, by decide⟩ rfl (t := 355) (by decide) ?_
    refine x_iconst d7_becomeFurther_355 qi_0 ?_
    exact x_ret (r := (some (.int (0 : Int32)))) d7_becomeFurther_356 (xm_rZ (Or.inl rfl)) rfl ⟨Nat.le_refl _, Nat.le_refl _⟩ (h hS)
  by_cases e4 : (xm_gi M a1 0) = (4 : Int32)
  · refine x_swIn d7_becomeFurther_27 4 (by rw [e4]; rfl) ⟨by decide, by decide⟩ rfl (t := 355) (by decide) ?_
    refine x_iconst d7_becomeFurther_355 qi_0 ?_
    exact x_ret (r := (some (.int (0 : Int32)))) d7_becomeFurther_356 (xm_rZ (Or.inl rfl)) rfl ⟨Nat.le_refl _, Nat.le_refl _⟩ (h hS)
  by_cases e10 : (xm_gi M a1 0) = (10 : Int32)
  · refine x_swIn d7_becomeFurther_27 10 (by rw [e10]; rfl) ⟨by decide, by decide⟩ rfl (t := 355) (by decide) ?_
    refine x_iconst d7_becomeFurther_355 qi_0 ?_
    exact x_ret (r := (some (.int (0 : Int32)))) d7_becomeFurther_356 (xm_rZ (Or.inl rfl)) rfl ⟨Nat.le_refl _, Nat.le_refl _⟩ (h hS)
  by_cases e12 : (xm_gi M a1 0) = (12 : Int32)
  · refine x_swIn d7_becomeFurther_27 12 (by rw [e12]; rfl) ⟨by decide, by decide⟩ rfl (t := 355) (by decide) ?_
    refine x_iconst d7_becomeFurther_355 qi_0 ?_
    exact x_ret (r := (some (.int (0 : Int32)))) d7_becomeFurther_356 (xm_rZ (Or.inl rfl)) rfl ⟨Nat.le_refl _, Nat.le_refl _⟩ (h hS)
  by_cases e13 : (xm_gi M a1 0) = (13 : Int32)
  · refine x_swIn d7_becomeFurther_27 13 (by rw [e13]; rfl) ⟨by decide, by decide⟩ rfl (t := 355) (by decide) ?_
    refine x_iconst d7_becomeFurther_355 qi_0 ?_
    exact x_ret (r := (some (.int (0 : Int32)))) d7_becomeFurther_356 (xm_rZ (Or.inl rfl)) rfl ⟨Nat.le_refl _, Nat.le_refl _⟩ (h hS)
  have n1 := lv_neT (a := 1) e1 (by decide)
  have n2 := lv_neT (a := 2) e2 (by decide)
  have n3 := lv_neT (a := 3) e3 (by decide)
  have n4 := lv_neT (a := 4) e4 (by decide)
  have n5 := lv_neT (a := 5) e5 (by decide)
  have n6 := lv_neT (a := 6) e6 (by decide)
  have n7 := lv_neT (a := 7) e7 (by decide)
  have n8 := lv_neT (a := 8) e8 (by decide)
  have n9 := lv_neT (a := 9) e9 (by decide)
  have n10 := lv_neT (a := 10) e10 (by decide)
  have n11 := lv_neT (a := 11) e11 (by decide)
  have n12 := lv_neT (a := 12) e12 (by decide)
  have n13 := lv_neT (a := 13) e13 (by decide)
  have n14 := lv_neT (a := 14) e14 (by decide)
  have n15 := lv_neT (a := 15) e15 (by decide)
  have n16 := lv_neT (a := 16) e16 (by decide)
  refine x_swOut d7_becomeFurther_27 (by omega) (t := 355) (by decide) ?_
  refine x_iconst d7_becomeFurther_355 qi_0 ?_
  exact x_ret (r := (some (.int (0 : Int32)))) d7_becomeFurther_356 (xm_rZ (Or.inl rfl)) rfl ⟨Nat.le_refl _, Nat.le_refl _⟩ (h hS)

set_option maxRecDepth 20000 in
theorem t2_edgeEnd_0 {l : Launch} {E : xm_E} {b : Nat} {c p : Bool} {Q : Option Value → xm_M → Prop} (M : xm_M) (a0 : Nat) (v1 : Int32) (v2 : Int32) (ha0 : xS b a0 = some (.inr 2)) (hS : xm_st b c p M)
  (h : xm_C l E y2_jumpsBy rm2_jumpsBy [.ref a0, .int v2] M (fun r M1 => ∃ r2 : Bool, r = some (.int (xz r2)) ∧ xm_st b c p M1 ∧ (((xz r2) = 0 → (xm_st b c p M1 → Q (some (.int (v1 + (1 : Int32)))) M1)) ∧ (¬ (xz r2) = 0 → (xm_st b c p M1 → Q (some (.int (xm_gi M1 a0 4))) M1))))) :
  xm_X l E y2_edgeEnd rm2_edgeEnd Q 0 [(0, .ref a0), (1, .int v1), (2, .int v2)] [] 0 0 M := by
  refine x_aload_n d2_edgeEnd_0 0 rfl rfl ?_
  refine x_iload_n d2_edgeEnd_1 2 rfl rfl ?_
  refine x_cVZ (Z := y2_jumpsBy) (S := rm2_jumpsBy) (As := [.int v2]) (rest := []) d2_edgeEnd_2 ml2_39 k2_jumpsBy rfl (b := a0) (hS.1 _ _ ha0) rfl rfl (Nat.le_of_ble_eq_true rfl) ⟨⟨by decide, by decide⟩, by decide, by decide⟩ ⟨rfl, rfl⟩ h (fun r2 M1 h => ?_)
  obtain ⟨hS, h⟩ := h
  refine x_if_eq d2_edgeEnd_5 (t := 15) (by decide) (fun g => ?_) (fun g => ?_)
  · have h := h.1 g
    refine x_iload_n d2_edgeEnd_15 1 rfl rfl ?_
    refine x_iconst d2_edgeEnd_16 qi_1 ?_
    refine x_iadd d2_edgeEnd_17 ?_
    exact x_ret (r := (some (.int (v1 + (1 : Int32))))) d2_edgeEnd_18 xm_rI rfl ⟨Nat.le_refl _, Nat.le_refl _⟩ (h hS)
  · have h := h.2 g
    refine x_aload_n d2_edgeEnd_8 0 rfl rfl ?_
    refine x_getI d2_edgeEnd_9 fl2_36 (fun _ _ => rfl) (hS.1 _ _ ha0) ?_
    refine x_goto d2_edgeEnd_12 (t := 18) (by decide) ?_
    exact x_ret (r := (some (.int (xm_gi M1 a0 4)))) d2_edgeEnd_18 xm_rI rfl ⟨Nat.le_refl _, Nat.le_refl _⟩ (h hS)

set_option maxRecDepth 20000 in
theorem t2_isAccess_0 {l : Launch} {E : xm_E} {b : Nat} {c p : Bool} {Q : Option Value → xm_M → Prop} (M : xm_M) (a0 : Nat) (ha0 : xS b a0 = some (.inr 2)) (hS : xm_st b c p M)
  (h : (((xm_gi M a0 0) < (8 : Int32) → (xm_st b c p M → Q (some (.int (0 : Int32))) M)) ∧ (¬ (xm_gi M a0 0) < (8 : Int32) → (((12 : Int32) < (xm_gi M a0 0) → (xm_st b c p M → Q (some (.int (0 : Int32))) M)) ∧ (¬ (12 : Int32) < (xm_gi M a0 0) → (xm_st b c p M → Q (some (.int (1 : Int32))) M)))))) :
  xm_X l E y2_isAccess rm2_isAccess Q 0 [(0, .ref a0)] [] 0 0 M := by
  refine x_aload_n d2_isAccess_0 0 rfl rfl ?_
  refine x_getI d2_isAccess_1 fl2_30 (fun _ _ => rfl) (hS.1 _ _ ha0) ?_
  refine x_bipush d2_isAccess_4 qb_8 ?_
  refine x_icmp_lt d2_isAccess_6 (t := 22) (by decide) (fun g => ?_) (fun g => ?_)
  · have h := h.1 g
    refine x_iconst d2_isAccess_22 qi_0 ?_
    exact x_ret (r := (some (.int (0 : Int32)))) d2_isAccess_23 (xm_rZ (Or.inl rfl)) rfl ⟨Nat.le_refl _, Nat.le_refl _⟩ (h hS)
  · have h := h.2 g
    refine x_aload_n d2_isAccess_9 0 rfl rfl ?_
    refine x_getI d2_isAccess_10 fl2_30 (fun _ _ => rfl) (hS.1 _ _ ha0) ?_
    refine x_bipush d2_isAccess_13 qb_12 ?_
    refine x_icmp_gt d2_isAccess_15 (t := 22) (by decide) (fun g => ?_) (fun g => ?_)
    · have h := h.1 g
      refine x_iconst d2_isAccess_22 qi_0 ?_
      exact x_ret (r := (some (.int (0 : Int32)))) d2_isAccess_23 (xm_rZ (Or.inl rfl)) rfl ⟨Nat.le_refl _, Nat.le_refl _⟩ (h hS)
    · have h := h.2 g
      refine x_iconst d2_isAccess_18 qi_1 ?_
      refine x_goto d2_isAccess_19 (t := 23) (by decide) ?_
      exact x_ret (r := (some (.int (1 : Int32)))) d2_isAccess_23 (xm_rZ (Or.inr rfl)) rfl ⟨Nat.le_refl _, Nat.le_refl _⟩ (h hS)

set_option maxRecDepth 20000 in
theorem t3_append_0 {l : Launch} {E : xm_E} {b : Nat} {c p : Bool} {Q : Option Value → xm_M → Prop} (M : xm_M) (v1 : Int32) (hS : xm_st b c p M)
  (h : (((xm_gi M (b + 51) 1) < (20000 : Int32) → (vp_in (xm_gi M (b + 51) 1) 20000 ∧ (xm_st b c p (xm_pi (xm_pi M (b + 52) (Int32.toNatClampNeg (xm_gi M (b + 51) 1)) v1) (b + 51) 1 ((xm_gi (xm_pi M (b + 52) (Int32.toNatClampNeg (xm_gi M (b + 51) 1)) v1) (b + 51) 1) + (1 : Int32))) → Q (some (.int (1 : Int32))) (xm_pi (xm_pi M (b + 52) (Int32.toNatClampNeg (xm_gi M (b + 51) 1)) v1) (b + 51) 1 ((xm_gi (xm_pi M (b + 52) (Int32.toNatClampNeg (xm_gi M (b + 51) 1)) v1) (b + 51) 1) + (1 : Int32)))))) ∧ (¬ (xm_gi M (b + 51) 1) < (20000 : Int32) → (xm_st b c p M → Q (some (.int (0 : Int32))) M)))) :
  xm_X l E y3_append rm3_append Q 0 [(0, .ref (b + 51)), (1, .int v1)] [] 0 0 M := by
  refine x_aload_n d3_append_0 0 rfl rfl ?_
  refine x_getI d3_append_1 fl3_15 (fun _ _ => rfl) (hS.1 _ _ (sh_51 b)) ?_
  refine x_sipush d3_append_4 qs_20000 ?_
  refine x_icmp_lt d3_append_7 (t := 12) (by decide) (fun g => ?_) (fun g => ?_)
  · have h := h.1 g
    refine x_aload_n d3_append_12 0 rfl rfl ?_
    refine x_getR d3_append_13 fl3_9 (fun _ _ => rfl) (hS.1 _ _ (sh_51 b)) (hS.2.1 _ _ _ (pt_51_0 b)) ?_
    refine x_aload_n d3_append_16 0 rfl rfl ?_
    refine x_getI d3_append_17 fl3_15 (fun _ _ => rfl) (hS.1 _ _ (sh_51 b)) ?_
    refine x_iload_n d3_append_20 1 rfl rfl ?_
    obtain ⟨g1, h⟩ := h
    refine x_iast d3_append_21 (hS.1 _ _ (sh_52 b)) g1 ?_
    refine x_aload_n d3_append_22 0 rfl rfl ?_
    refine x_dup d3_append_23 rfl ?_
    refine x_getI d3_append_24 fl3_15 (fun _ _ => rfl) (hS.pi.1 _ _ (sh_51 b)) ?_
    refine x_iconst d3_append_27 qi_1 ?_
    refine x_iadd d3_append_28 ?_
    refine x_putI d3_append_29 fw3_15 (fun _ _ => rfl) rfl rfl (hS.pi.1 _ _ (sh_51 b)) ?_
    refine x_iconst d3_append_32 qi_1 ?_
    exact x_ret (r := (some (.int (1 : Int32)))) d3_append_33 (xm_rZ (Or.inr rfl)) rfl ⟨Nat.le_refl _, Nat.le_refl _⟩ (h hS.pi.pi)
  · have h := h.2 g
    refine x_iconst d3_append_10 qi_0 ?_
    exact x_ret (r := (some (.int (0 : Int32)))) d3_append_11 (xm_rZ (Or.inl rfl)) rfl ⟨Nat.le_refl _, Nat.le_refl _⟩ (h hS)

set_option maxRecDepth 20000 in
theorem t2_accessTop_0 {l : Launch} {E : xm_E} {b : Nat} {c p : Bool} {Q : Option Value → xm_M → Prop} (M : xm_M) (a0 : Nat) (ha0 : xS b a0 = some (.inr 2)) (hS : xm_st b c p M)
  (h : xm_C l E y2_isScratchAccess rm2_isScratchAccess [.ref a0] M (fun r M1 => ∃ r2 : Bool, r = some (.int (xz r2)) ∧ xm_st b c p M1 ∧ (((xz r2) = 0 → (xm_st b c p M1 → Q (some (.int (9 : Int32))) M1)) ∧ (¬ (xz r2) = 0 → (xm_st b c p M1 → Q (some (.int (0 : Int32))) M1))))) :
  xm_X l E y2_accessTop rm2_accessTop Q 0 [(0, .ref a0)] [] 0 0 M := by
  refine x_aload_n d2_accessTop_0 0 rfl rfl ?_
  refine x_cVZ (Z := y2_isScratchAccess) (S := rm2_isScratchAccess) (As := []) (rest := []) d2_accessTop_1 ml2_42 k2_isScratchAccess rfl (b := a0) (hS.1 _ _ ha0) rfl rfl (Nat.le_of_ble_eq_true rfl) ⟨⟨by decide, by decide⟩, by decide, by decide⟩ ⟨rfl, rfl⟩ h (fun r2 M1 h => ?_)
  obtain ⟨hS, h⟩ := h
  refine x_if_eq d2_accessTop_4 (t := 11) (by decide) (fun g => ?_) (fun g => ?_)
  · have h := h.1 g
    refine x_bipush d2_accessTop_11 qb_9 ?_
    exact x_ret (r := (some (.int (9 : Int32)))) d2_accessTop_13 xm_rI rfl ⟨Nat.le_refl _, Nat.le_refl _⟩ (h hS)
  · have h := h.2 g
    refine x_iconst d2_accessTop_7 qi_0 ?_
    refine x_goto d2_accessTop_8 (t := 13) (by decide) ?_
    exact x_ret (r := (some (.int (0 : Int32)))) d2_accessTop_13 xm_rI rfl ⟨Nat.le_refl _, Nat.le_refl _⟩ (h hS)

set_option maxRecDepth 20000 in
theorem t2_isScratchAccess_0 {l : Launch} {E : xm_E} {b : Nat} {c p : Bool} {Q : Option Value → xm_M → Prop} (M : xm_M) (a0 : Nat) (ha0 : xS b a0 = some (.inr 2)) (hS : xm_st b c p M)
  (h : (((xm_gi M a0 0) = (11 : Int32) → (xm_st b c p M → Q (some (.int (1 : Int32))) M)) ∧ (¬ (xm_gi M a0 0) = (11 : Int32) → ((¬ (xm_gi M a0 0) = (12 : Int32) → (xm_st b c p M → Q (some (.int (0 : Int32))) M)) ∧ ((xm_gi M a0 0) = (12 : Int32) → (xm_st b c p M → Q (some (.int (1 : Int32))) M)))))) :
  xm_X l E y2_isScratchAccess rm2_isScratchAccess Q 0 [(0, .ref a0)] [] 0 0 M := by
  refine x_aload_n d2_isScratchAccess_0 0 rfl rfl ?_
  refine x_getI d2_isScratchAccess_1 fl2_30 (fun _ _ => rfl) (hS.1 _ _ ha0) ?_
  refine x_bipush d2_isScratchAccess_4 qb_11 ?_
  refine x_icmp_eq d2_isScratchAccess_6 (t := 18) (by decide) (fun g => ?_) (fun g => ?_)
  · have h := h.1 g
    refine x_iconst d2_isScratchAccess_18 qi_1 ?_
    refine x_goto d2_isScratchAccess_19 (t := 23) (by decide) ?_
    exact x_ret (r := (some (.int (1 : Int32)))) d2_isScratchAccess_23 (xm_rZ (Or.inr rfl)) rfl ⟨Nat.le_refl _, Nat.le_refl _⟩ (h hS)
  · have h := h.2 g
    refine x_aload_n d2_isScratchAccess_9 0 rfl rfl ?_
    refine x_getI d2_isScratchAccess_10 fl2_30 (fun _ _ => rfl) (hS.1 _ _ ha0) ?_
    refine x_bipush d2_isScratchAccess_13 qb_12 ?_
    refine x_icmp_ne d2_isScratchAccess_15 (t := 22) (by decide) (fun g => ?_) (fun g => ?_)
    · have h := h.1 g
      refine x_iconst d2_isScratchAccess_22 qi_0 ?_
      exact x_ret (r := (some (.int (0 : Int32)))) d2_isScratchAccess_23 (xm_rZ (Or.inl rfl)) rfl ⟨Nat.le_refl _, Nat.le_refl _⟩ (h hS)
    · have h := h.2 g
      refine x_iconst d2_isScratchAccess_18 qi_1 ?_
      refine x_goto d2_isScratchAccess_19 (t := 23) (by decide) ?_
      exact x_ret (r := (some (.int (1 : Int32)))) d2_isScratchAccess_23 (xm_rZ (Or.inr rfl)) rfl ⟨Nat.le_refl _, Nat.le_refl _⟩ (h hS)

set_option maxRecDepth 20000 in
theorem t2_accessMost_0 {l : Launch} {E : xm_E} {b : Nat} {c p : Bool} {Q : Option Value → xm_M → Prop} (M : xm_M) (a0 : Nat) (ha0 : xS b a0 = some (.inr 2)) (hS : xm_st b c p M)
  (h : xm_C l E y2_isScratchAccess rm2_isScratchAccess [.ref a0] M (fun r M1 => ∃ r2 : Bool, r = some (.int (xz r2)) ∧ xm_st b c p M1 ∧ (((xz r2) = 0 → xm_C l E y2_loadSize rm2_loadSize [.ref a0] M1 (fun r M3 => ∃ r4 : Int32, r = some (.int r4) ∧ xm_st b c p M3 ∧ (xm_st b c p M3 → Q (some (.long ((-(Int32.toInt64 (xm_gi M1 a0 3))) - (Int32.toInt64 r4)))) M3))) ∧ (¬ (xz r2) = 0 → (xm_st b c p M1 → Q (some (.long ((31 : Int64) - (Int32.toInt64 (xm_gi M1 a0 3))))) M1))))) :
  xm_X l E y2_accessMost rm2_accessMost Q 0 [(0, .ref a0)] [] 0 0 M := by
  refine x_aload_n d2_accessMost_0 0 rfl rfl ?_
  refine x_cVZ (Z := y2_isScratchAccess) (S := rm2_isScratchAccess) (As := []) (rest := []) d2_accessMost_1 ml2_42 k2_isScratchAccess rfl (b := a0) (hS.1 _ _ ha0) rfl rfl (Nat.le_of_ble_eq_true rfl) ⟨⟨by decide, by decide⟩, by decide, by decide⟩ ⟨rfl, rfl⟩ h (fun r2 M1 h => ?_)
  obtain ⟨hS, h⟩ := h
  refine x_if_eq d2_accessMost_4 (t := 19) (by decide) (fun g => ?_) (fun g => ?_)
  · have h := h.1 g
    refine x_aload_n d2_accessMost_19 0 rfl rfl ?_
    refine x_getI d2_accessMost_20 fl2_33 (fun _ _ => rfl) (hS.1 _ _ ha0) ?_
    refine x_i2l d2_accessMost_23 ?_
    refine x_lneg d2_accessMost_24 ?_
    refine x_aload_n d2_accessMost_25 0 rfl rfl ?_
    refine x_cVI (Z := y2_loadSize) (S := rm2_loadSize) (As := []) (rest := [.long (-(Int32.toInt64 (xm_gi M1 a0 3)))]) d2_accessMost_26 ml2_47 k2_loadSize rfl (b := a0) (hS.1 _ _ ha0) rfl rfl (Nat.le_of_ble_eq_true rfl) ⟨⟨by decide, by decide⟩, by decide, by decide⟩ ⟨rfl, rfl⟩ h (fun r4 M3 h => ?_)
    obtain ⟨hS, h⟩ := h
    refine x_i2l d2_accessMost_29 ?_
    refine x_lsub d2_accessMost_30 ?_
    exact x_ret (r := (some (.long ((-(Int32.toInt64 (xm_gi M1 a0 3))) - (Int32.toInt64 r4))))) d2_accessMost_31 xm_rJ rfl ⟨Nat.le_refl _, Nat.le_refl _⟩ (h hS)
  · have h := h.2 g
    refine x_ldc2 d2_accessMost_7 lc2_45 ?_
    refine x_aload_n d2_accessMost_10 0 rfl rfl ?_
    refine x_getI d2_accessMost_11 fl2_33 (fun _ _ => rfl) (hS.1 _ _ ha0) ?_
    refine x_i2l d2_accessMost_14 ?_
    refine x_lsub d2_accessMost_15 ?_
    refine x_goto d2_accessMost_16 (t := 31) (by decide) ?_
    exact x_ret (r := (some (.long ((31 : Int64) - (Int32.toInt64 (xm_gi M1 a0 3)))))) d2_accessMost_31 xm_rJ rfl ⟨Nat.le_refl _, Nat.le_refl _⟩ (h hS)

set_option maxRecDepth 20000 in
theorem t2_loadSize_0 {l : Launch} {E : xm_E} {b : Nat} {c p : Bool} {Q : Option Value → xm_M → Prop} (M : xm_M) (a0 : Nat) (ha0 : xS b a0 = some (.inr 2)) (hS : xm_st b c p M)
  (h : ((¬ (xm_gi M a0 0) = (10 : Int32) → ((¬ (xm_gi M a0 0) = (9 : Int32) → (xm_st b c p M → Q (some (.int (1 : Int32))) M)) ∧ ((xm_gi M a0 0) = (9 : Int32) → (xm_st b c p M → Q (some (.int (2 : Int32))) M)))) ∧ ((xm_gi M a0 0) = (10 : Int32) → (xm_st b c p M → Q (some (.int (4 : Int32))) M)))) :
  xm_X l E y2_loadSize rm2_loadSize Q 0 [(0, .ref a0)] [] 0 0 M := by
  refine x_aload_n d2_loadSize_0 0 rfl rfl ?_
  refine x_getI d2_loadSize_1 fl2_30 (fun _ _ => rfl) (hS.1 _ _ ha0) ?_
  refine x_bipush d2_loadSize_4 qb_10 ?_
  refine x_icmp_ne d2_loadSize_6 (t := 11) (by decide) (fun g => ?_) (fun g => ?_)
  · have h := h.1 g
    refine x_aload_n d2_loadSize_11 0 rfl rfl ?_
    refine x_getI d2_loadSize_12 fl2_30 (fun _ _ => rfl) (hS.1 _ _ ha0) ?_
    refine x_bipush d2_loadSize_15 qb_9 ?_
    refine x_icmp_ne d2_loadSize_17 (t := 24) (by decide) (fun g => ?_) (fun g => ?_)
    · have h := h.1 g
      refine x_iconst d2_loadSize_24 qi_1 ?_
      exact x_ret (r := (some (.int (1 : Int32)))) d2_loadSize_25 xm_rI rfl ⟨Nat.le_refl _, Nat.le_refl _⟩ (h hS)
    · have h := h.2 g
      refine x_iconst d2_loadSize_20 qi_2 ?_
      refine x_goto d2_loadSize_21 (t := 25) (by decide) ?_
      exact x_ret (r := (some (.int (2 : Int32)))) d2_loadSize_25 xm_rI rfl ⟨Nat.le_refl _, Nat.le_refl _⟩ (h hS)
  · have h := h.2 g
    refine x_iconst d2_loadSize_9 qi_4 ?_
    exact x_ret (r := (some (.int (4 : Int32)))) d2_loadSize_10 xm_rI rfl ⟨Nat.le_refl _, Nat.le_refl _⟩ (h hS)

set_option maxRecDepth 20000 in
theorem t3_replace_0 {l : Launch} {E : xm_E} {b : Nat} {c p : Bool} {Q : Option Value → xm_M → Prop} (M : xm_M) (v1 : Int32) (v2 : Int32) (hS : xm_st b c p M)
  (h : ((v1 < 0 → (xm_st b c p M → Q (some (.int (0 : Int32))) M)) ∧ (¬ v1 < 0 → ((v1 < (xm_gi M (b + 51) 1) → (vp_in v1 20000 ∧ (xm_st b c p (xm_pi M (b + 52) (Int32.toNatClampNeg v1) v2) → Q (some (.int (1 : Int32))) (xm_pi M (b + 52) (Int32.toNatClampNeg v1) v2)))) ∧ (¬ v1 < (xm_gi M (b + 51) 1) → (xm_st b c p M → Q (some (.int (0 : Int32))) M)))))) :
  xm_X l E y3_replace rm3_replace Q 0 [(0, .ref (b + 51)), (1, .int v1), (2, .int v2)] [] 0 0 M := by
  refine x_iload_n d3_replace_0 1 rfl rfl ?_
  refine x_if_lt d3_replace_1 (t := 12) (by decide) (fun g => ?_) (fun g => ?_)
  · have h := h.1 g
    refine x_iconst d3_replace_12 qi_0 ?_
    exact x_ret (r := (some (.int (0 : Int32)))) d3_replace_13 (xm_rZ (Or.inl rfl)) rfl ⟨Nat.le_refl _, Nat.le_refl _⟩ (h hS)
  · have h := h.2 g
    refine x_iload_n d3_replace_4 1 rfl rfl ?_
    refine x_aload_n d3_replace_5 0 rfl rfl ?_
    refine x_getI d3_replace_6 fl3_15 (fun _ _ => rfl) (hS.1 _ _ (sh_51 b)) ?_
    refine x_icmp_lt d3_replace_9 (t := 14) (by decide) (fun g => ?_) (fun g => ?_)
    · have h := h.1 g
      refine x_aload_n d3_replace_14 0 rfl rfl ?_
      refine x_getR d3_replace_15 fl3_9 (fun _ _ => rfl) (hS.1 _ _ (sh_51 b)) (hS.2.1 _ _ _ (pt_51_0 b)) ?_
      refine x_iload_n d3_replace_18 1 rfl rfl ?_
      refine x_iload_n d3_replace_19 2 rfl rfl ?_
      obtain ⟨g1, h⟩ := h
      refine x_iast d3_replace_20 (hS.1 _ _ (sh_52 b)) g1 ?_
      refine x_iconst d3_replace_21 qi_1 ?_
      exact x_ret (r := (some (.int (1 : Int32)))) d3_replace_22 (xm_rZ (Or.inr rfl)) rfl ⟨Nat.le_refl _, Nat.le_refl _⟩ (h hS.pi)
    · have h := h.2 g
      refine x_iconst d3_replace_12 qi_0 ?_
      exact x_ret (r := (some (.int (0 : Int32)))) d3_replace_13 (xm_rZ (Or.inl rfl)) rfl ⟨Nat.le_refl _, Nat.le_refl _⟩ (h hS)

set_option maxRecDepth 20000 in
theorem t3_get_0 {l : Launch} {E : xm_E} {b : Nat} {c p : Bool} {Q : Option Value → xm_M → Prop} (M : xm_M) (v1 : Int32) (hS : xm_st b c p M)
  (h : ((v1 < 0 → (xm_st b c p M → Q (some (.int (0 : Int32))) M)) ∧ (¬ v1 < 0 → (((xm_gi M (b + 51) 1) ≤ v1 → (xm_st b c p M → Q (some (.int (0 : Int32))) M)) ∧ (¬ (xm_gi M (b + 51) 1) ≤ v1 → (vp_in v1 20000 ∧ (xm_st b c p M → Q (some (.int (xm_gi M (b + 52) (Int32.toNatClampNeg v1)))) M))))))) :
  xm_X l E y3_get rm3_get Q 0 [(0, .ref (b + 51)), (1, .int v1)] [] 0 0 M := by
  refine x_iload_n d3_get_0 1 rfl rfl ?_
  refine x_if_lt d3_get_1 (t := 21) (by decide) (fun g => ?_) (fun g => ?_)
  · have h := h.1 g
    refine x_iconst d3_get_21 qi_0 ?_
    exact x_ret (r := (some (.int (0 : Int32)))) d3_get_22 xm_rI rfl ⟨Nat.le_refl _, Nat.le_refl _⟩ (h hS)
  · have h := h.2 g
    refine x_iload_n d3_get_4 1 rfl rfl ?_
    refine x_aload_n d3_get_5 0 rfl rfl ?_
    refine x_getI d3_get_6 fl3_15 (fun _ _ => rfl) (hS.1 _ _ (sh_51 b)) ?_
    refine x_icmp_ge d3_get_9 (t := 21) (by decide) (fun g => ?_) (fun g => ?_)
    · have h := h.1 g
      refine x_iconst d3_get_21 qi_0 ?_
      exact x_ret (r := (some (.int (0 : Int32)))) d3_get_22 xm_rI rfl ⟨Nat.le_refl _, Nat.le_refl _⟩ (h hS)
    · have h := h.2 g
      refine x_aload_n d3_get_12 0 rfl rfl ?_
      refine x_getR d3_get_13 fl3_9 (fun _ _ => rfl) (hS.1 _ _ (sh_51 b)) (hS.2.1 _ _ _ (pt_51_0 b)) ?_
      refine x_iload_n d3_get_16 1 rfl rfl ?_
      obtain ⟨g1, h⟩ := h
      refine x_iald d3_get_17 (hS.1 _ _ (sh_52 b)) g1 ?_
      refine x_goto d3_get_18 (t := 22) (by decide) ?_
      exact x_ret (r := (some (.int (xm_gi M (b + 52) (Int32.toNatClampNeg v1))))) d3_get_22 xm_rI rfl ⟨Nat.le_refl _, Nat.le_refl _⟩ (h hS)

set_option maxRecDepth 20000 in
theorem t4_append_0 {l : Launch} {E : xm_E} {b : Nat} {c p : Bool} {Q : Option Value → xm_M → Prop} (M : xm_M) (w1 : Int64) (v3 : Int32) (hS : xm_st b c p M)
  (h : ((((xm_gi M (b + 53) 1) + v3) ≤ (1024 : Int32) → (xm_st b c p M → xm_X l E y4_append rm4_append Q 19 [(0, .ref (b + 53)), (1, .long w1), (4, .int (v3 - (1 : Int32)))] [] 0 0 M)) ∧ (¬ ((xm_gi M (b + 53) 1) + v3) ≤ (1024 : Int32) → (xm_st b c p M → Q (some (.int (0 : Int32))) M)))) :
  xm_X l E y4_append rm4_append Q 0 [(0, .ref (b + 53)), (1, .long w1), (3, .int v3)] [] 0 0 M := by
  refine x_aload_n d4_append_0 0 rfl rfl ?_
  refine x_getI d4_append_1 fl4_15 (fun _ _ => rfl) (hS.1 _ _ (sh_53 b)) ?_
  refine x_iload_n d4_append_4 2 rfl rfl ?_
  refine x_iadd d4_append_5 ?_
  refine x_sipush d4_append_6 qs_1024 ?_
  refine x_icmp_le d4_append_9 (t := 14) (by decide) (fun g => ?_) (fun g => ?_)
  · have h := h.1 g
    refine x_iload_n d4_append_14 2 rfl rfl ?_
    refine x_iconst d4_append_15 qi_1 ?_
    refine x_isub d4_append_16 ?_
    refine x_istore d4_append_17 (by decide) (L' := [(4, .int (v3 - (1 : Int32))), (0, .ref (b + 53)), (1, .long w1), (3, .int v3)]) rfl ?_
    exact xm_X.sub [1, 2, 0] rfl (h hS)
  · have h := h.2 g
    refine x_iconst d4_append_12 qi_0 ?_
    exact x_ret (r := (some (.int (0 : Int32)))) d4_append_13 (xm_rZ (Or.inl rfl)) rfl ⟨Nat.le_refl _, Nat.le_refl _⟩ (h hS)
set_option maxRecDepth 20000 in
theorem t4_append_19 {l : Launch} {E : xm_E} {b : Nat} {c p : Bool} {Q : Option Value → xm_M → Prop} (M : xm_M) (w1 : Int64) (v4 : Int32) (hS : xm_st b c p M)
  (h : ((v4 < 0 → (xm_st b c p M → Q (some (.int (1 : Int32))) M)) ∧ (¬ v4 < 0 → (vp_in (xm_gi M (b + 53) 1) 1024 ∧ (xm_st b c p (xm_pi (xm_pi M (b + 54) (Int32.toNatClampNeg (xm_gi M (b + 53) 1)) (Int32.toInt8 ((Int32.toInt8 (Int64.toInt32 ((Int64.toUInt64 w1 >>> ((Int32.toInt64 ((8 : Int32) * v4)).toUInt64 &&& Int64.toUInt64 63)).toInt64))).toInt32)).toInt32) (b + 53) 1 ((xm_gi (xm_pi M (b + 54) (Int32.toNatClampNeg (xm_gi M (b + 53) 1)) (Int32.toInt8 ((Int32.toInt8 (Int64.toInt32 ((Int64.toUInt64 w1 >>> ((Int32.toInt64 ((8 : Int32) * v4)).toUInt64 &&& Int64.toUInt64 63)).toInt64))).toInt32)).toInt32) (b + 53) 1) + (1 : Int32))) → xm_X l E y4_append rm4_append Q 19 [(0, .ref (b + 53)), (1, .long w1), (4, .int (v4 + Int32.ofInt (-1)))] [] 0 0 (xm_pi (xm_pi M (b + 54) (Int32.toNatClampNeg (xm_gi M (b + 53) 1)) (Int32.toInt8 ((Int32.toInt8 (Int64.toInt32 ((Int64.toUInt64 w1 >>> ((Int32.toInt64 ((8 : Int32) * v4)).toUInt64 &&& Int64.toUInt64 63)).toInt64))).toInt32)).toInt32) (b + 53) 1 ((xm_gi (xm_pi M (b + 54) (Int32.toNatClampNeg (xm_gi M (b + 53) 1)) (Int32.toInt8 ((Int32.toInt8 (Int64.toInt32 ((Int64.toUInt64 w1 >>> ((Int32.toInt64 ((8 : Int32) * v4)).toUInt64 &&& Int64.toUInt64 63)).toInt64))).toInt32)).toInt32) (b + 53) 1) + (1 : Int32)))))))) :
  xm_X l E y4_append rm4_append Q 19 [(0, .ref (b + 53)), (1, .long w1), (4, .int v4)] [] 0 0 M := by
  refine x_iload d4_append_19 2 rfl ?_
  refine x_if_lt d4_append_21 (t := 58) (by decide) (fun g => ?_) (fun g => ?_)
  · have h := h.1 g
    refine x_iconst d4_append_58 qi_1 ?_
    exact x_ret (r := (some (.int (1 : Int32)))) d4_append_59 (xm_rZ (Or.inr rfl)) rfl ⟨Nat.le_refl _, Nat.le_refl _⟩ (h hS)
  · have h := h.2 g
    refine x_aload_n d4_append_24 0 rfl rfl ?_
    refine x_getR d4_append_25 fl4_9 (fun _ _ => rfl) (hS.1 _ _ (sh_53 b)) (hS.2.1 _ _ _ (pt_53_0 b)) ?_
    refine x_aload_n d4_append_28 0 rfl rfl ?_
    refine x_getI d4_append_29 fl4_15 (fun _ _ => rfl) (hS.1 _ _ (sh_53 b)) ?_
    refine x_lload_n d4_append_32 1 rfl rfl ?_
    refine x_bipush d4_append_33 qb_8 ?_
    refine x_iload d4_append_35 2 rfl ?_
    refine x_imul d4_append_37 ?_
    refine x_lushr d4_append_38 ?_
    refine x_l2i d4_append_39 ?_
    refine x_i2b d4_append_40 ?_
    obtain ⟨g1, h⟩ := h
    refine x_bast d4_append_41 (hS.1 _ _ (sh_54 b)) g1 ?_
    refine x_aload_n d4_append_42 0 rfl rfl ?_
    refine x_dup d4_append_43 rfl ?_
    refine x_getI d4_append_44 fl4_15 (fun _ _ => rfl) (hS.pi.1 _ _ (sh_53 b)) ?_
    refine x_iconst d4_append_47 qi_1 ?_
    refine x_iadd d4_append_48 ?_
    refine x_putI d4_append_49 fw4_15 (fun _ _ => rfl) rfl rfl (hS.pi.1 _ _ (sh_53 b)) ?_
    refine x_iinc d4_append_52 2 rfl rfl (by decide) (L' := [(4, .int (v4 + Int32.ofInt (-1))), (0, .ref (b + 53)), (1, .long w1)]) rfl ?_
    refine x_goto d4_append_55 (t := 19) (by decide) ?_
    exact xm_X.sub [1, 2, 0] rfl (h hS.pi.pi)

set_option maxRecDepth 20000 in
theorem t10_execute_0 {l : Launch} {E : xm_E} {b : Nat} {c p : Bool} {Q : Option Value → xm_M → Prop} (M : xm_M)  (hS : xm_st b c p M)
  (h : xm_C l E yr_fill_I rmr_fill_I [.ref (b + 152), .int (0 : Int32)] M (fun r M1 => r = none ∧ xm_st b c p M1 ∧ xm_C l E yr_fill_B rmr_fill_B [.ref (b + 153), .int (0 : Int32)] M1 (fun r M3 => r = none ∧ xm_st b c p M3 ∧ (xm_st b c p (xm_pi (xm_pi (xm_pi M3 (b + 152) (Int32.toNatClampNeg (1 : Int32)) (xm_gi M3 (b + 53) 1)) (b + 151) 2 (0 : Int32)) (b + 151) 3 (0 : Int32)) → xm_X l E y10_execute rm10_execute Q 38 [(0, .ref (b + 151)), (1, .ref (b + 1)), (2, .ref (b + 53)), (3, .int (0 : Int32))] [] 0 0 (xm_pi (xm_pi (xm_pi M3 (b + 152) (Int32.toNatClampNeg (1 : Int32)) (xm_gi M3 (b + 53) 1)) (b + 151) 2 (0 : Int32)) (b + 151) 3 (0 : Int32)))))) :
  xm_X l E y10_execute rm10_execute Q 0 [(0, .ref (b + 151)), (1, .ref (b + 1)), (2, .ref (b + 53))] [] 0 0 M := by
  refine x_aload_n d10_execute_0 0 rfl rfl ?_
  refine x_getR d10_execute_1 fl10_9 (fun _ _ => rfl) (hS.1 _ _ (sh_151 b)) (hS.2.1 _ _ _ (pt_151_0 b)) ?_
  refine x_iconst d10_execute_4 qi_0 ?_
  refine x_cSN (Z := yr_fill_I) (S := rmr_fill_I) (As := [.ref (b + 152), .int (0 : Int32)]) (rest := []) d10_execute_5 ml10_19 kr_fill_I rfl rfl (Nat.le_of_ble_eq_true rfl) ⟨⟨by decide, by decide⟩, by decide, by decide⟩ ⟨rfl, rfl⟩ h (fun M1 h => ?_)
  obtain ⟨hS, h⟩ := h
  refine x_aload_n d10_execute_8 0 rfl rfl ?_
  refine x_getR d10_execute_9 fl10_15 (fun _ _ => rfl) (hS.1 _ _ (sh_151 b)) (hS.2.1 _ _ _ (pt_151_1 b)) ?_
  refine x_iconst d10_execute_12 qi_0 ?_
  refine x_cSN (Z := yr_fill_B) (S := rmr_fill_B) (As := [.ref (b + 153), .int (0 : Int32)]) (rest := []) d10_execute_13 ml10_25 kr_fill_B rfl rfl (Nat.le_of_ble_eq_true rfl) ⟨⟨by decide, by decide⟩, by decide, by decide⟩ ⟨rfl, rfl⟩ h (fun M3 h => ?_)
  obtain ⟨hS, h⟩ := h
  refine x_aload_n d10_execute_16 0 rfl rfl ?_
  refine x_getR d10_execute_17 fl10_9 (fun _ _ => rfl) (hS.1 _ _ (sh_151 b)) (hS.2.1 _ _ _ (pt_151_0 b)) ?_
  refine x_iconst d10_execute_20 qi_1 ?_
  refine x_aload_n d10_execute_21 2 rfl rfl ?_
  refine x_getI d10_execute_22 fl10_28 (fun _ _ => rfl) (hS.1 _ _ (sh_53 b)) ?_
  refine x_iast d10_execute_25 (hS.1 _ _ (sh_152 b)) (xm_vl (by decide)) ?_
  refine x_aload_n d10_execute_26 0 rfl rfl ?_
  refine x_iconst d10_execute_27 qi_0 ?_
  refine x_putI d10_execute_28 fw10_34 (fun _ _ => rfl) rfl rfl (hS.pi.1 _ _ (sh_151 b)) ?_
  refine x_aload_n d10_execute_31 0 rfl rfl ?_
  refine x_iconst d10_execute_32 qi_0 ?_
  refine x_putI d10_execute_33 fw10_37 (fun _ _ => rfl) rfl rfl (hS.pi.pi.1 _ _ (sh_151 b)) ?_
  refine x_iconst d10_execute_36 qi_0 ?_
  refine x_istore_n d10_execute_37 rfl (by decide) (L' := [(3, .int (0 : Int32)), (0, .ref (b + 151)), (1, .ref (b + 1)), (2, .ref (b + 53))]) rfl ?_
  exact xm_X.sub [1, 2, 3, 0] rfl (h hS.pi.pi.pi)
set_option maxRecDepth 20000 in
theorem t10_execute_38 {l : Launch} {E : xm_E} {b : Nat} {c p : Bool} {Q : Option Value → xm_M → Prop} (M : xm_M) (v3 : Int32) (hS : xm_st b c p M)
  (h : (((xm_gi M (b + 1) 2) ≤ (xm_gi M (b + 151) 3) → (xm_st b c p M → Q (some (.int (0 : Int32))) M)) ∧ (¬ (xm_gi M (b + 1) 2) ≤ (xm_gi M (b + 151) 3) → (((xm_gi M (b + 1) 2) ≤ v3 → (xm_st b c p M → Q (some (.int (0 : Int32))) M)) ∧ (¬ (xm_gi M (b + 1) 2) ≤ v3 → (vp_in v3 48 ∧ ((¬ (xm_gi (xm_pi M (b + 151) 3 ((xm_gi M (b + 151) 3) + (1 : Int32))) (b + 3 + (Int32.toNatClampNeg v3)) 0) = 0 → xm_C l E y10_perform rm10_perform [.ref (b + 151), .ref (b + 3 + (Int32.toNatClampNeg v3)), .ref (b + 53)] (xm_pi M (b + 151) 3 ((xm_gi M (b + 151) 3) + (1 : Int32))) (fun r M2 => ∃ r3 : Int32, r = some (.int r3) ∧ xm_st b c p M2 ∧ ((r3 = 0 → xm_C l E y10_jumps rm10_jumps [.ref (b + 151), .ref (b + 3 + (Int32.toNatClampNeg v3))] M2 (fun r M4 => ∃ r5 : Bool, r = some (.int (xz r5)) ∧ xm_st b c p M4 ∧ (((xz r5) = 0 → (xm_st b c p M4 → xm_X l E y10_execute rm10_execute Q 38 [(0, .ref (b + 151)), (1, .ref (b + 1)), (2, .ref (b + 53)), (3, .int (v3 + (1 : Int32)))] [] 0 0 M4)) ∧ (¬ (xz r5) = 0 → (xm_st b c p M4 → xm_X l E y10_execute rm10_execute Q 38 [(0, .ref (b + 151)), (1, .ref (b + 1)), (2, .ref (b + 53)), (3, .int (xm_gi M4 (b + 3 + (Int32.toNatClampNeg v3)) 4))] [] 0 0 M4))))) ∧ (¬ r3 = 0 → (xm_st b c p M2 → Q (some (.int r3)) M2))))) ∧ ((xm_gi (xm_pi M (b + 151) 3 ((xm_gi M (b + 151) 3) + (1 : Int32))) (b + 3 + (Int32.toNatClampNeg v3)) 0) = 0 → (vp_in (xm_gi (xm_pi M (b + 151) 3 ((xm_gi M (b + 151) 3) + (1 : Int32))) (b + 3 + (Int32.toNatClampNeg v3)) 1) 8 ∧ (xm_st b c p (xm_pi (xm_pi M (b + 151) 3 ((xm_gi M (b + 151) 3) + (1 : Int32))) (b + 151) 2 (xm_gi (xm_pi M (b + 151) 3 ((xm_gi M (b + 151) 3) + (1 : Int32))) (b + 152) (Int32.toNatClampNeg (xm_gi (xm_pi M (b + 151) 3 ((xm_gi M (b + 151) 3) + (1 : Int32))) (b + 3 + (Int32.toNatClampNeg v3)) 1)))) → Q (some (.int (0 : Int32))) (xm_pi (xm_pi M (b + 151) 3 ((xm_gi M (b + 151) 3) + (1 : Int32))) (b + 151) 2 (xm_gi (xm_pi M (b + 151) 3 ((xm_gi M (b + 151) 3) + (1 : Int32))) (b + 152) (Int32.toNatClampNeg (xm_gi (xm_pi M (b + 151) 3 ((xm_gi M (b + 151) 3) + (1 : Int32))) (b + 3 + (Int32.toNatClampNeg v3)) 1)))))))))))))) :
  xm_X l E y10_execute rm10_execute Q 38 [(0, .ref (b + 151)), (1, .ref (b + 1)), (2, .ref (b + 53)), (3, .int v3)] [] 0 0 M := by
  refine x_aload_n d10_execute_38 0 rfl rfl ?_
  refine x_getI d10_execute_39 fl10_37 (fun _ _ => rfl) (hS.1 _ _ (sh_151 b)) ?_
  refine x_aload_n d10_execute_42 1 rfl rfl ?_
  refine x_getI d10_execute_43 fl10_40 (fun _ _ => rfl) (hS.1 _ _ (sh_1 b)) ?_
  refine x_icmp_ge d10_execute_46 (t := 140) (by decide) (fun g => ?_) (fun g => ?_)
  · have h := h.1 g
    refine x_iconst d10_execute_140 qi_0 ?_
    exact x_ret (r := (some (.int (0 : Int32)))) d10_execute_141 xm_rI rfl ⟨Nat.le_refl _, Nat.le_refl _⟩ (h hS)
  · have h := h.2 g
    refine x_iload_n d10_execute_49 3 rfl rfl ?_
    refine x_aload_n d10_execute_50 1 rfl rfl ?_
    refine x_getI d10_execute_51 fl10_40 (fun _ _ => rfl) (hS.1 _ _ (sh_1 b)) ?_
    refine x_icmp_ge d10_execute_54 (t := 140) (by decide) (fun g => ?_) (fun g => ?_)
    · have h := h.1 g
      refine x_iconst d10_execute_140 qi_0 ?_
      exact x_ret (r := (some (.int (0 : Int32)))) d10_execute_141 xm_rI rfl ⟨Nat.le_refl _, Nat.le_refl _⟩ (h hS)
    · have h := h.2 g
      refine x_aload_n d10_execute_57 1 rfl rfl ?_
      refine x_getR d10_execute_58 fl10_45 (fun _ _ => rfl) (hS.1 _ _ (sh_1 b)) (hS.2.1 _ _ _ (pt_1_1 b)) ?_
      refine x_iload_n d10_execute_61 3 rfl rfl ?_
      obtain ⟨g1, h⟩ := h
      refine x_aald d10_execute_62 (hS.1 _ _ (sh_2 b)) (by decide) rfl g1 (hS.2.1 _ _ _ (ptf_2 (vp_lt g1))) ?_
      refine x_astore d10_execute_63 (by decide) (L' := [(4, .ref (b + 3 + (Int32.toNatClampNeg v3))), (0, .ref (b + 151)), (1, .ref (b + 1)), (2, .ref (b + 53)), (3, .int v3)]) rfl ?_
      refine x_aload_n d10_execute_65 1 rfl rfl ?_
      refine x_dup d10_execute_66 rfl ?_
      refine x_getI d10_execute_67 fl10_37 (fun _ _ => rfl) (hS.1 _ _ (sh_151 b)) ?_
      refine x_iconst d10_execute_70 qi_1 ?_
      refine x_iadd d10_execute_71 ?_
      refine x_putI d10_execute_72 fw10_37 (fun _ _ => rfl) rfl rfl (hS.1 _ _ (sh_151 b)) ?_
      refine x_aload d10_execute_75 0 rfl ?_
      refine x_getI d10_execute_77 fl10_49 (fun _ _ => rfl) (hS.pi.1 _ _ (shf_2 (vp_lt g1))) ?_
      refine x_if_ne d10_execute_80 (t := 99) (by decide) (fun g => ?_) (fun g => ?_)
      · have h := h.1 g
        refine x_aload_n d10_execute_99 1 rfl rfl ?_
        refine x_aload d10_execute_100 0 rfl ?_
        refine x_aload_n d10_execute_102 3 rfl rfl ?_
        refine x_cVI (Z := y10_perform) (S := rm10_perform) (As := [.ref (b + 3 + (Int32.toNatClampNeg v3)), .ref (b + 53)]) (rest := []) d10_execute_103 ml10_57 k10_perform rfl (b := (b + 151)) (hS.pi.1 _ _ (sh_151 b)) rfl rfl (Nat.le_of_ble_eq_true rfl) ⟨⟨by decide, by decide⟩, by decide, by decide⟩ ⟨rfl, rfl⟩ h (fun r3 M2 h => ?_)
        obtain ⟨hS, h⟩ := h
        refine x_istore d10_execute_106 (by decide) (L' := [(5, .int r3), (4, .ref (b + 3 + (Int32.toNatClampNeg v3))), (0, .ref (b + 151)), (1, .ref (b + 1)), (2, .ref (b + 53)), (3, .int v3)]) rfl ?_
        refine x_iload d10_execute_108 0 rfl ?_
        refine x_if_eq d10_execute_110 (t := 116) (by decide) (fun g => ?_) (fun g => ?_)
        · have h := h.1 g
          refine x_aload_n d10_execute_116 2 rfl rfl ?_
          refine x_aload d10_execute_117 1 rfl ?_
          refine x_cVZ (Z := y10_jumps) (S := rm10_jumps) (As := [.ref (b + 3 + (Int32.toNatClampNeg v3))]) (rest := []) d10_execute_119 ml10_61 k10_jumps rfl (b := (b + 151)) (hS.1 _ _ (sh_151 b)) rfl rfl (Nat.le_of_ble_eq_true rfl) ⟨⟨by decide, by decide⟩, by decide, by decide⟩ ⟨rfl, rfl⟩ h (fun r5 M4 h => ?_)
          obtain ⟨hS, h⟩ := h
          refine x_if_eq d10_execute_122 (t := 133) (by decide) (fun g => ?_) (fun g => ?_)
          · have h := h.1 g
            refine x_iload_n d10_execute_133 5 rfl rfl ?_
            refine x_iconst d10_execute_134 qi_1 ?_
            refine x_iadd d10_execute_135 ?_
            refine x_istore_n d10_execute_136 rfl (by decide) (L' := [(3, .int (v3 + (1 : Int32))), (5, .int r3), (4, .ref (b + 3 + (Int32.toNatClampNeg v3))), (0, .ref (b + 151)), (1, .ref (b + 1)), (2, .ref (b + 53))]) rfl ?_
            refine x_goto d10_execute_137 (t := 38) (by decide) ?_
            exact xm_X.sub [3, 4, 5, 0] rfl (h hS)
          · have h := h.2 g
            refine x_aload d10_execute_125 1 rfl ?_
            refine x_getI d10_execute_127 fl10_65 (fun _ _ => rfl) (hS.1 _ _ (shf_2 (vp_lt g1))) ?_
            refine x_goto d10_execute_130 (t := 136) (by decide) ?_
            refine x_istore_n d10_execute_136 rfl (by decide) (L' := [(3, .int (xm_gi M4 (b + 3 + (Int32.toNatClampNeg v3)) 4)), (5, .int r3), (4, .ref (b + 3 + (Int32.toNatClampNeg v3))), (0, .ref (b + 151)), (1, .ref (b + 1)), (2, .ref (b + 53))]) rfl ?_
            refine x_goto d10_execute_137 (t := 38) (by decide) ?_
            exact xm_X.sub [3, 4, 5, 0] rfl (h hS)
        · have h := h.2 g
          refine x_iload d10_execute_113 0 rfl ?_
          exact x_ret (r := (some (.int r3))) d10_execute_115 xm_rI rfl ⟨Nat.le_refl _, Nat.le_refl _⟩ (h hS)
      · have h := h.2 g
        refine x_aload_n d10_execute_83 1 rfl rfl ?_
        refine x_aload_n d10_execute_84 1 rfl rfl ?_
        refine x_getR d10_execute_85 fl10_9 (fun _ _ => rfl) (hS.pi.1 _ _ (sh_151 b)) (hS.pi.2.1 _ _ _ (pt_151_0 b)) ?_
        refine x_aload d10_execute_88 0 rfl ?_
        refine x_getI d10_execute_90 fl10_54 (fun _ _ => rfl) (hS.pi.1 _ _ (shf_2 (vp_lt g1))) ?_
        obtain ⟨g6, h⟩ := h
        refine x_iald d10_execute_93 (hS.pi.1 _ _ (sh_152 b)) g6 ?_
        refine x_putI d10_execute_94 fw10_34 (fun _ _ => rfl) rfl rfl (hS.pi.1 _ _ (sh_151 b)) ?_
        refine x_iconst d10_execute_97 qi_0 ?_
        exact x_ret (r := (some (.int (0 : Int32)))) d10_execute_98 xm_rI rfl ⟨Nat.le_refl _, Nat.le_refl _⟩ (h hS.pi.pi)

set_option maxRecDepth 20000 in
theorem tr_fill_I_0 {l : Launch} {E : xm_E} {Q : Option Value → xm_M → Prop} {n : Nat} (M : xm_M) (a0 : Nat) (v1 : Int32) (ha0 : xm_sh M a0 = some (.inl (n, .int)))
  (h : xm_X l E yr_fill_I rmr_fill_I Q 5 [(0, .ref a0), (1, .int v1), (2, .int (0 : Int32)), (3, .int (Int32.ofNat n))] [] 0 0 M) :
  xm_X l E yr_fill_I rmr_fill_I Q 0 [(0, .ref a0), (1, .int v1)] [] 0 0 M := by
  refine x_iconst dr_fill_I_0 qi_0 ?_
  refine x_istore_n dr_fill_I_1 rfl (by decide) (L' := [(2, .int (0 : Int32)), (0, .ref a0), (1, .int v1)]) rfl ?_
  refine x_aload_n dr_fill_I_2 1 rfl rfl ?_
  refine x_alen dr_fill_I_3 ha0 (by decide) ?_
  refine x_istore_n dr_fill_I_4 rfl (by decide) (L' := [(3, .int (Int32.ofNat n)), (2, .int (0 : Int32)), (0, .ref a0), (1, .int v1)]) rfl ?_
  exact xm_X.sub [2, 3, 1, 0] rfl h
set_option maxRecDepth 20000 in
theorem tr_fill_I_5 {l : Launch} {E : xm_E} {Q : Option Value → xm_M → Prop} {n : Nat} (M : xm_M) (a0 : Nat) (v1 : Int32) (v2 : Int32) (v3 : Int32) (ha0 : xm_sh M a0 = some (.inl (n, .int)))
  (h : ((v3 ≤ v2 → Q none M) ∧ (¬ v3 ≤ v2 → (vp_in v2 n ∧ xm_X l E yr_fill_I rmr_fill_I Q 5 [(0, .ref a0), (1, .int v1), (2, .int (v2 + Int32.ofInt (1))), (3, .int v3)] [] 0 0 (xm_pi M a0 (Int32.toNatClampNeg v2) v1))))) :
  xm_X l E yr_fill_I rmr_fill_I Q 5 [(0, .ref a0), (1, .int v1), (2, .int v2), (3, .int v3)] [] 0 0 M := by
  refine x_iload_n dr_fill_I_5 2 rfl rfl ?_
  refine x_iload_n dr_fill_I_6 3 rfl rfl ?_
  refine x_icmp_ge dr_fill_I_7 (t := 20) (by decide) (fun g => ?_) (fun g => ?_)
  · have h := h.1 g
    exact x_ret (r := none) dr_fill_I_20 xm_rN rfl ⟨Nat.le_refl _, Nat.le_refl _⟩ h
  · have h := h.2 g
    refine x_aload_n dr_fill_I_10 0 rfl rfl ?_
    refine x_iload_n dr_fill_I_11 2 rfl rfl ?_
    refine x_iload_n dr_fill_I_12 1 rfl rfl ?_
    obtain ⟨g1, h⟩ := h
    refine x_iast dr_fill_I_13 ha0 g1 ?_
    refine x_iinc dr_fill_I_14 2 rfl rfl (by decide) (L' := [(2, .int (v2 + Int32.ofInt (1))), (0, .ref a0), (1, .int v1), (3, .int v3)]) rfl ?_
    refine x_goto dr_fill_I_17 (t := 5) (by decide) ?_
    exact xm_X.sub [1, 2, 0, 3] rfl h

set_option maxRecDepth 20000 in
theorem tr_fill_B_0 {l : Launch} {E : xm_E} {Q : Option Value → xm_M → Prop} {n : Nat} (M : xm_M) (a0 : Nat) (v1 : Int32) (ha0 : xm_sh M a0 = some (.inl (n, .byte)))
  (h : xm_X l E yr_fill_B rmr_fill_B Q 5 [(0, .ref a0), (1, .int v1), (2, .int (0 : Int32)), (3, .int (Int32.ofNat n))] [] 0 0 M) :
  xm_X l E yr_fill_B rmr_fill_B Q 0 [(0, .ref a0), (1, .int v1)] [] 0 0 M := by
  refine x_iconst dr_fill_B_0 qi_0 ?_
  refine x_istore_n dr_fill_B_1 rfl (by decide) (L' := [(2, .int (0 : Int32)), (0, .ref a0), (1, .int v1)]) rfl ?_
  refine x_aload_n dr_fill_B_2 1 rfl rfl ?_
  refine x_alen dr_fill_B_3 ha0 (by decide) ?_
  refine x_istore_n dr_fill_B_4 rfl (by decide) (L' := [(3, .int (Int32.ofNat n)), (2, .int (0 : Int32)), (0, .ref a0), (1, .int v1)]) rfl ?_
  exact xm_X.sub [2, 3, 1, 0] rfl h
set_option maxRecDepth 20000 in
theorem tr_fill_B_5 {l : Launch} {E : xm_E} {Q : Option Value → xm_M → Prop} {n : Nat} (M : xm_M) (a0 : Nat) (v1 : Int32) (v2 : Int32) (v3 : Int32) (ha0 : xm_sh M a0 = some (.inl (n, .byte)))
  (h : ((v3 ≤ v2 → Q none M) ∧ (¬ v3 ≤ v2 → (vp_in v2 n ∧ xm_X l E yr_fill_B rmr_fill_B Q 5 [(0, .ref a0), (1, .int v1), (2, .int (v2 + Int32.ofInt (1))), (3, .int v3)] [] 0 0 (xm_pi M a0 (Int32.toNatClampNeg v2) (Int32.toInt8 v1).toInt32))))) :
  xm_X l E yr_fill_B rmr_fill_B Q 5 [(0, .ref a0), (1, .int v1), (2, .int v2), (3, .int v3)] [] 0 0 M := by
  refine x_iload_n dr_fill_B_5 2 rfl rfl ?_
  refine x_iload_n dr_fill_B_6 3 rfl rfl ?_
  refine x_icmp_ge dr_fill_B_7 (t := 20) (by decide) (fun g => ?_) (fun g => ?_)
  · have h := h.1 g
    exact x_ret (r := none) dr_fill_B_20 xm_rN rfl ⟨Nat.le_refl _, Nat.le_refl _⟩ h
  · have h := h.2 g
    refine x_aload_n dr_fill_B_10 0 rfl rfl ?_
    refine x_iload_n dr_fill_B_11 2 rfl rfl ?_
    refine x_iload_n dr_fill_B_12 1 rfl rfl ?_
    obtain ⟨g1, h⟩ := h
    refine x_bast dr_fill_B_13 ha0 g1 ?_
    refine x_iinc dr_fill_B_14 2 rfl rfl (by decide) (L' := [(2, .int (v2 + Int32.ofInt (1))), (0, .ref a0), (1, .int v1), (3, .int v3)]) rfl ?_
    refine x_goto dr_fill_B_17 (t := 5) (by decide) ?_
    exact xm_X.sub [1, 2, 0, 3] rfl h

set_option maxRecDepth 20000 in
theorem t10_perform_0 {l : Launch} {E : xm_E} {b : Nat} {c p : Bool} {Q : Option Value → xm_M → Prop} (M : xm_M) (a1 : Nat) (ha1 : xS b a1 = some (.inr 2)) (hS : xm_st b c p M)
  (h : (((xm_gi M a1 0) = (1 : Int32) → (vp_in (xm_gi M a1 1) 8 ∧ (xm_st b c p (xm_pi M (b + 152) (Int32.toNatClampNeg (xm_gi M a1 1)) (xm_gi M a1 3)) → Q (some (.int (0 : Int32))) (xm_pi M (b + 152) (Int32.toNatClampNeg (xm_gi M a1 1)) (xm_gi M a1 3))))) ∧ ((xm_gi M a1 0) = (2 : Int32) → (vp_in (xm_gi M a1 2) 8 ∧ (vp_in (xm_gi M a1 1) 8 ∧ (xm_st b c p (xm_pi M (b + 152) (Int32.toNatClampNeg (xm_gi M a1 1)) (xm_gi M (b + 152) (Int32.toNatClampNeg (xm_gi M a1 2)))) → Q (some (.int (0 : Int32))) (xm_pi M (b + 152) (Int32.toNatClampNeg (xm_gi M a1 1)) (xm_gi M (b + 152) (Int32.toNatClampNeg (xm_gi M a1 2)))))))) ∧ ((xm_gi M a1 0) = (3 : Int32) → (vp_in (xm_gi M a1 1) 8 ∧ xm_C l E y10_become rm10_become [.ref (b + 151), .int (xm_gi M a1 1), .long ((Int32.toInt64 (xm_gi M (b + 152) (Int32.toNatClampNeg (xm_gi M a1 1)))) + (Int32.toInt64 (xm_gi M a1 3)))] M (fun r M5 => ∃ r6 : Int32, r = some (.int r6) ∧ xm_st b c p M5 ∧ (xm_st b c p M5 → Q (some (.int r6)) M5)))) ∧ ((xm_gi M a1 0) = (4 : Int32) → (vp_in (xm_gi M a1 1) 8 ∧ (vp_in (xm_gi M a1 2) 8 ∧ xm_C l E y10_become rm10_become [.ref (b + 151), .int (xm_gi M a1 1), .long ((Int32.toInt64 (xm_gi M (b + 152) (Int32.toNatClampNeg (xm_gi M a1 1)))) + (Int32.toInt64 (xm_gi M (b + 152) (Int32.toNatClampNeg (xm_gi M a1 2)))))] M (fun r M9 => ∃ r10 : Int32, r = some (.int r10) ∧ xm_st b c p M9 ∧ (xm_st b c p M9 → Q (some (.int r10)) M9))))) ∧ ((xm_gi M a1 0) = (5 : Int32) → (vp_in (xm_gi M a1 1) 8 ∧ (vp_in (xm_gi M a1 2) 8 ∧ xm_C l E y10_become rm10_become [.ref (b + 151), .int (xm_gi M a1 1), .long ((Int32.toInt64 (xm_gi M (b + 152) (Int32.toNatClampNeg (xm_gi M a1 1)))) - (Int32.toInt64 (xm_gi M (b + 152) (Int32.toNatClampNeg (xm_gi M a1 2)))))] M (fun r M13 => ∃ r14 : Int32, r = some (.int r14) ∧ xm_st b c p M13 ∧ (xm_st b c p M13 → Q (some (.int r14)) M13))))) ∧ ((xm_gi M a1 0) = (6 : Int32) → (vp_in (xm_gi M a1 1) 8 ∧ (vp_in (xm_gi M a1 1) 8 ∧ (xm_st b c p (xm_pi M (b + 152) (Int32.toNatClampNeg (xm_gi M a1 1)) ((xm_gi M (b + 152) (Int32.toNatClampNeg (xm_gi M a1 1))) &&& (xm_gi M a1 3))) → Q (some (.int (0 : Int32))) (xm_pi M (b + 152) (Int32.toNatClampNeg (xm_gi M a1 1)) ((xm_gi M (b + 152) (Int32.toNatClampNeg (xm_gi M a1 1))) &&& (xm_gi M a1 3))))))) ∧ ((xm_gi M a1 0) = (7 : Int32) → (vp_in (xm_gi M a1 1) 8 ∧ (vp_in (xm_gi M a1 1) 8 ∧ (xm_st b c p (xm_pi M (b + 152) (Int32.toNatClampNeg (xm_gi M a1 1)) ((Int32.toUInt32 (xm_gi M (b + 152) (Int32.toNatClampNeg (xm_gi M a1 1))) >>> (Int32.toUInt32 (xm_gi M a1 3) &&& Int32.toUInt32 31)).toInt32)) → Q (some (.int (0 : Int32))) (xm_pi M (b + 152) (Int32.toNatClampNeg (xm_gi M a1 1)) ((Int32.toUInt32 (xm_gi M (b + 152) (Int32.toNatClampNeg (xm_gi M a1 1))) >>> (Int32.toUInt32 (xm_gi M a1 3) &&& Int32.toUInt32 31)).toInt32)))))) ∧ (¬ (xm_gi M a1 0) = (1 : Int32) ∧ ¬ (xm_gi M a1 0) = (2 : Int32) ∧ ¬ (xm_gi M a1 0) = (3 : Int32) ∧ ¬ (xm_gi M a1 0) = (4 : Int32) ∧ ¬ (xm_gi M a1 0) = (5 : Int32) ∧ ¬ (xm_gi M a1 0) = (6 : Int32) ∧ ¬ (xm_gi M a1 0) = (7 : Int32) → xm_C l E y2_isAccess rm2_isAccess [.ref a1] M (fun r M19 => ∃ r20 : Bool, r = some (.int (xz r20)) ∧ xm_st b c p M19 ∧ (((xz r20) = 0 → (xm_st b c p M19 → Q (some (.int (0 : Int32))) M19)) ∧ (¬ (xz r20) = 0 → xm_C l E y10_access rm10_access [.ref (b + 151), .ref a1, .ref (b + 53)] M19 (fun r M21 => ∃ r22 : Int32, r = some (.int r22) ∧ xm_st b c p M21 ∧ (xm_st b c p M21 → Q (some (.int r22)) M21)))))))) :
  xm_X l E y10_perform rm10_perform Q 0 [(0, .ref (b + 151)), (1, .ref a1), (2, .ref (b + 53))] [] 0 0 M := by
  refine x_aload_n d10_perform_0 1 rfl rfl ?_
  refine x_getI d10_perform_1 fl10_54 (fun _ _ => rfl) (hS.1 _ _ ha1) ?_
  refine x_istore_n d10_perform_4 rfl (by decide) (L' := [(3, .int (xm_gi M a1 1)), (0, .ref (b + 151)), (1, .ref a1), (2, .ref (b + 53))]) rfl ?_
  refine x_aload_n d10_perform_5 2 rfl rfl ?_
  refine x_getI d10_perform_6 fl10_49 (fun _ _ => rfl) (hS.1 _ _ ha1) ?_
  have hsw := h
  clear h
  by_cases e1 : (xm_gi M a1 0) = (1 : Int32)
  · have h := hsw.1 e1
    refine x_swIn d10_perform_9 1 (by rw [e1]; rfl) ⟨by decide, by decide⟩ rfl (t := 52) (by decide) ?_
    refine x_aload_n d10_perform_52 1 rfl rfl ?_
    refine x_getR d10_perform_53 fl10_9 (fun _ _ => rfl) (hS.1 _ _ (sh_151 b)) (hS.2.1 _ _ _ (pt_151_0 b)) ?_
    refine x_iload_n d10_perform_56 0 rfl rfl ?_
    refine x_aload_n d10_perform_57 2 rfl rfl ?_
    refine x_getI d10_perform_58 fl10_68 (fun _ _ => rfl) (hS.1 _ _ ha1) ?_
    obtain ⟨g1, h⟩ := h
    refine x_iast d10_perform_61 (hS.1 _ _ (sh_152 b)) g1 ?_
    refine x_iconst d10_perform_62 qi_0 ?_
    exact x_ret (r := (some (.int (0 : Int32)))) d10_perform_63 xm_rI rfl ⟨Nat.le_refl _, Nat.le_refl _⟩ (h hS.pi)
  by_cases e2 : (xm_gi M a1 0) = (2 : Int32)
  · have h := hsw.2.1 e2
    refine x_swIn d10_perform_9 2 (by rw [e2]; rfl) ⟨by decide, by decide⟩ rfl (t := 64) (by decide) ?_
    refine x_aload_n d10_perform_64 1 rfl rfl ?_
    refine x_getR d10_perform_65 fl10_9 (fun _ _ => rfl) (hS.1 _ _ (sh_151 b)) (hS.2.1 _ _ _ (pt_151_0 b)) ?_
    refine x_iload_n d10_perform_68 0 rfl rfl ?_
    refine x_aload_n d10_perform_69 1 rfl rfl ?_
    refine x_getR d10_perform_70 fl10_9 (fun _ _ => rfl) (hS.1 _ _ (sh_151 b)) (hS.2.1 _ _ _ (pt_151_0 b)) ?_
    refine x_aload_n d10_perform_73 2 rfl rfl ?_
    refine x_getI d10_perform_74 fl10_71 (fun _ _ => rfl) (hS.1 _ _ ha1) ?_
    obtain ⟨g2, h⟩ := h
    refine x_iald d10_perform_77 (hS.1 _ _ (sh_152 b)) g2 ?_
    obtain ⟨g3, h⟩ := h
    refine x_iast d10_perform_78 (hS.1 _ _ (sh_152 b)) g3 ?_
    refine x_iconst d10_perform_79 qi_0 ?_
    exact x_ret (r := (some (.int (0 : Int32)))) d10_perform_80 xm_rI rfl ⟨Nat.le_refl _, Nat.le_refl _⟩ (h hS.pi)
  by_cases e3 : (xm_gi M a1 0) = (3 : Int32)
  · have h := hsw.2.2.1 e3
    refine x_swIn d10_perform_9 3 (by rw [e3]; rfl) ⟨by decide, by decide⟩ rfl (t := 81) (by decide) ?_
    refine x_aload_n d10_perform_81 1 rfl rfl ?_
    refine x_iload_n d10_perform_82 0 rfl rfl ?_
    refine x_aload_n d10_perform_83 1 rfl rfl ?_
    refine x_getR d10_perform_84 fl10_9 (fun _ _ => rfl) (hS.1 _ _ (sh_151 b)) (hS.2.1 _ _ _ (pt_151_0 b)) ?_
    refine x_iload_n d10_perform_87 0 rfl rfl ?_
    obtain ⟨g4, h⟩ := h
    refine x_iald d10_perform_88 (hS.1 _ _ (sh_152 b)) g4 ?_
    refine x_i2l d10_perform_89 ?_
    refine x_aload_n d10_perform_90 2 rfl rfl ?_
    refine x_getI d10_perform_91 fl10_68 (fun _ _ => rfl) (hS.1 _ _ ha1) ?_
    refine x_i2l d10_perform_94 ?_
    refine x_ladd d10_perform_95 ?_
    refine x_cVI (Z := y10_become) (S := rm10_become) (As := [.int (xm_gi M a1 1), .long ((Int32.toInt64 (xm_gi M (b + 152) (Int32.toNatClampNeg (xm_gi M a1 1)))) + (Int32.toInt64 (xm_gi M a1 3)))]) (rest := []) d10_perform_96 ml10_74 k10_become rfl (b := (b + 151)) (hS.1 _ _ (sh_151 b)) rfl rfl (Nat.le_of_ble_eq_true rfl) ⟨⟨by decide, by decide⟩, by decide, by decide⟩ ⟨rfl, rfl⟩ h (fun r6 M5 h => ?_)
    obtain ⟨hS, h⟩ := h
    exact x_ret (r := (some (.int r6))) d10_perform_99 xm_rI rfl ⟨Nat.le_refl _, Nat.le_refl _⟩ (h hS)
  by_cases e4 : (xm_gi M a1 0) = (4 : Int32)
  · have h := hsw.2.2.2.1 e4
    refine x_swIn d10_perform_9 4 (by rw [e4]; rfl) ⟨by decide, by decide⟩ rfl (t := 100) (by decide) ?_
    refine x_aload_n d10_perform_100 1 rfl rfl ?_
    refine x_iload_n d10_perform_101 0 rfl rfl ?_
    refine x_aload_n d10_perform_102 1 rfl rfl ?_
    refine x_getR d10_perform_103 fl10_9 (fun _ _ => rfl) (hS.1 _ _ (sh_151 b)) (hS.2.1 _ _ _ (pt_151_0 b)) ?_
    refine x_iload_n d10_perform_106 0 rfl rfl ?_
    obtain ⟨g7, h⟩ := h
    refine x_iald d10_perform_107 (hS.1 _ _ (sh_152 b)) g7 ?_
    refine x_i2l d10_perform_108 ?_
    refine x_aload_n d10_perform_109 1 rfl rfl ?_
    refine x_getR d10_perform_110 fl10_9 (fun _ _ => rfl) (hS.1 _ _ (sh_151 b)) (hS.2.1 _ _ _ (pt_151_0 b)) ?_
    refine x_aload_n d10_perform_113 2 rfl rfl ?_
    refine x_getI d10_perform_114 fl10_71 (fun _ _ => rfl) (hS.1 _ _ ha1) ?_
    obtain ⟨g8, h⟩ := h
    refine x_iald d10_perform_117 (hS.1 _ _ (sh_152 b)) g8 ?_
    refine x_i2l d10_perform_118 ?_
    refine x_ladd d10_perform_119 ?_
    refine x_cVI (Z := y10_become) (S := rm10_become) (As := [.int (xm_gi M a1 1), .long ((Int32.toInt64 (xm_gi M (b + 152) (Int32.toNatClampNeg (xm_gi M a1 1)))) + (Int32.toInt64 (xm_gi M (b + 152) (Int32.toNatClampNeg (xm_gi M a1 2)))))]) (rest := []) d10_perform_120 ml10_74 k10_become rfl (b := (b + 151)) (hS.1 _ _ (sh_151 b)) rfl rfl (Nat.le_of_ble_eq_true rfl) ⟨⟨by decide, by decide⟩, by decide, by decide⟩ ⟨rfl, rfl⟩ h (fun r10 M9 h => ?_)
    obtain ⟨hS, h⟩ := h
    exact x_ret (r := (some (.int r10))) d10_perform_123 xm_rI rfl ⟨Nat.le_refl _, Nat.le_refl _⟩ (h hS)
  by_cases e5 : (xm_gi M a1 0) = (5 : Int32)
  · have h := hsw.2.2.2.2.1 e5
    refine x_swIn d10_perform_9 5 (by rw [e5]; rfl) ⟨by decide, by decide⟩ rfl (t := 124) (by decide) ?_
    refine x_aload_n d10_perform_124 1 rfl rfl ?_
    refine x_iload_n d10_perform_125 0 rfl rfl ?_
    refine x_aload_n d10_perform_126 1 rfl rfl ?_
    refine x_getR d10_perform_127 fl10_9 (fun _ _ => rfl) (hS.1 _ _ (sh_151 b)) (hS.2.1 _ _ _ (pt_151_0 b)) ?_
    refine x_iload_n d10_perform_130 0 rfl rfl ?_
    obtain ⟨g11, h⟩ := h
    refine x_iald d10_perform_131 (hS.1 _ _ (sh_152 b)) g11 ?_
    refine x_i2l d10_perform_132 ?_
    refine x_aload_n d10_perform_133 1 rfl rfl ?_
    refine x_getR d10_perform_134 fl10_9 (fun _ _ => rfl) (hS.1 _ _ (sh_151 b)) (hS.2.1 _ _ _ (pt_151_0 b)) ?_
    refine x_aload_n d10_perform_137 2 rfl rfl ?_
    refine x_getI d10_perform_138 fl10_71 (fun _ _ => rfl) (hS.1 _ _ ha1) ?_
    obtain ⟨g12, h⟩ := h
    refine x_iald d10_perform_141 (hS.1 _ _ (sh_152 b)) g12 ?_
    refine x_i2l d10_perform_142 ?_
    refine x_lsub d10_perform_143 ?_
    refine x_cVI (Z := y10_become) (S := rm10_become) (As := [.int (xm_gi M a1 1), .long ((Int32.toInt64 (xm_gi M (b + 152) (Int32.toNatClampNeg (xm_gi M a1 1)))) - (Int32.toInt64 (xm_gi M (b + 152) (Int32.toNatClampNeg (xm_gi M a1 2)))))]) (rest := []) d10_perform_144 ml10_74 k10_become rfl (b := (b + 151)) (hS.1 _ _ (sh_151 b)) rfl rfl (Nat.le_of_ble_eq_true rfl) ⟨⟨by decide, by decide⟩, by decide, by decide⟩ ⟨rfl, rfl⟩ h (fun r14 M13 h => ?_)
    obtain ⟨hS, h⟩ := h
    exact x_ret (r := (some (.int r14))) d10_perform_147 xm_rI rfl ⟨Nat.le_refl _, Nat.le_refl _⟩ (h hS)
  by_cases e6 : (xm_gi M a1 0) = (6 : Int32)
  · have h := hsw.2.2.2.2.2.1 e6
    refine x_swIn d10_perform_9 6 (by rw [e6]; rfl) ⟨by decide, by decide⟩ rfl (t := 148) (by decide) ?_
    refine x_aload_n d10_perform_148 1 rfl rfl ?_
    refine x_getR d10_perform_149 fl10_9 (fun _ _ => rfl) (hS.1 _ _ (sh_151 b)) (hS.2.1 _ _ _ (pt_151_0 b)) ?_
    refine x_iload_n d10_perform_152 0 rfl rfl ?_
    refine x_dup2 d10_perform_153 rfl rfl ?_
    obtain ⟨g15, h⟩ := h
    refine x_iald d10_perform_154 (hS.1 _ _ (sh_152 b)) g15 ?_
    refine x_aload_n d10_perform_155 2 rfl rfl ?_
    refine x_getI d10_perform_156 fl10_68 (fun _ _ => rfl) (hS.1 _ _ ha1) ?_
    refine x_iand d10_perform_159 ?_
    obtain ⟨g16, h⟩ := h
    refine x_iast d10_perform_160 (hS.1 _ _ (sh_152 b)) g16 ?_
    refine x_iconst d10_perform_161 qi_0 ?_
    exact x_ret (r := (some (.int (0 : Int32)))) d10_perform_162 xm_rI rfl ⟨Nat.le_refl _, Nat.le_refl _⟩ (h hS.pi)
  by_cases e7 : (xm_gi M a1 0) = (7 : Int32)
  · have h := hsw.2.2.2.2.2.2.1 e7
    refine x_swIn d10_perform_9 7 (by rw [e7]; rfl) ⟨by decide, by decide⟩ rfl (t := 163) (by decide) ?_
    refine x_aload_n d10_perform_163 1 rfl rfl ?_
    refine x_getR d10_perform_164 fl10_9 (fun _ _ => rfl) (hS.1 _ _ (sh_151 b)) (hS.2.1 _ _ _ (pt_151_0 b)) ?_
    refine x_iload_n d10_perform_167 0 rfl rfl ?_
    refine x_dup2 d10_perform_168 rfl rfl ?_
    obtain ⟨g17, h⟩ := h
    refine x_iald d10_perform_169 (hS.1 _ _ (sh_152 b)) g17 ?_
    refine x_aload_n d10_perform_170 2 rfl rfl ?_
    refine x_getI d10_perform_171 fl10_68 (fun _ _ => rfl) (hS.1 _ _ ha1) ?_
    refine x_iushr d10_perform_174 ?_
    obtain ⟨g18, h⟩ := h
    refine x_iast d10_perform_175 (hS.1 _ _ (sh_152 b)) g18 ?_
    refine x_iconst d10_perform_176 qi_0 ?_
    exact x_ret (r := (some (.int (0 : Int32)))) d10_perform_177 xm_rI rfl ⟨Nat.le_refl _, Nat.le_refl _⟩ (h hS.pi)
  have h := hsw.2.2.2.2.2.2.2 ⟨e1, e2, e3, e4, e5, e6, e7⟩
  have n1 := lv_neT (a := 1) e1 (by decide)
  have n2 := lv_neT (a := 2) e2 (by decide)
  have n3 := lv_neT (a := 3) e3 (by decide)
  have n4 := lv_neT (a := 4) e4 (by decide)
  have n5 := lv_neT (a := 5) e5 (by decide)
  have n6 := lv_neT (a := 6) e6 (by decide)
  have n7 := lv_neT (a := 7) e7 (by decide)
  refine x_swOut d10_perform_9 (by omega) (t := 178) (by decide) ?_
  refine x_aload_n d10_perform_178 2 rfl rfl ?_
  refine x_cVZ (Z := y2_isAccess) (S := rm2_isAccess) (As := []) (rest := []) d10_perform_179 ml10_78 k2_isAccess rfl (b := a1) (hS.1 _ _ ha1) rfl rfl (Nat.le_of_ble_eq_true rfl) ⟨⟨by decide, by decide⟩, by decide, by decide⟩ ⟨rfl, rfl⟩ h (fun r20 M19 h => ?_)
  obtain ⟨hS, h⟩ := h
  refine x_if_eq d10_perform_182 (t := 194) (by decide) (fun g => ?_) (fun g => ?_)
  · have h := h.1 g
    refine x_iconst d10_perform_194 qi_0 ?_
    exact x_ret (r := (some (.int (0 : Int32)))) d10_perform_195 xm_rI rfl ⟨Nat.le_refl _, Nat.le_refl _⟩ (h hS)
  · have h := h.2 g
    refine x_aload_n d10_perform_185 1 rfl rfl ?_
    refine x_aload_n d10_perform_186 2 rfl rfl ?_
    refine x_aload_n d10_perform_187 3 rfl rfl ?_
    refine x_cVI (Z := y10_access) (S := rm10_access) (As := [.ref a1, .ref (b + 53)]) (rest := []) d10_perform_188 ml10_82 k10_access rfl (b := (b + 151)) (hS.1 _ _ (sh_151 b)) rfl rfl (Nat.le_of_ble_eq_true rfl) ⟨⟨by decide, by decide⟩, by decide, by decide⟩ ⟨rfl, rfl⟩ h (fun r22 M21 h => ?_)
    obtain ⟨hS, h⟩ := h
    refine x_goto d10_perform_191 (t := 195) (by decide) ?_
    exact x_ret (r := (some (.int r22))) d10_perform_195 xm_rI rfl ⟨Nat.le_refl _, Nat.le_refl _⟩ (h hS)

set_option maxRecDepth 20000 in
theorem t10_become_0 {l : Launch} {E : xm_E} {b : Nat} {c p : Bool} {Q : Option Value → xm_M → Prop} (M : xm_M) (v1 : Int32) (w2 : Int64) (hS : xm_st b c p M)
  (h : ((w2 = (Int32.toInt64 (Int64.toInt32 w2)) → (vp_in v1 8 ∧ (xm_st b c p (xm_pi M (b + 152) (Int32.toNatClampNeg v1) (Int64.toInt32 w2)) → Q (some (.int (0 : Int32))) (xm_pi M (b + 152) (Int32.toNatClampNeg v1) (Int64.toInt32 w2))))) ∧ (¬ w2 = (Int32.toInt64 (Int64.toInt32 w2)) → (xm_st b c p M → Q (some (.int (3 : Int32))) M)))) :
  xm_X l E y10_become rm10_become Q 0 [(0, .ref (b + 151)), (1, .int v1), (2, .long w2)] [] 0 0 M := by
  refine x_lload_n d10_become_0 2 rfl rfl ?_
  refine x_lload_n d10_become_1 2 rfl rfl ?_
  refine x_l2i d10_become_2 ?_
  refine x_i2l d10_become_3 ?_
  refine x_lc_eq d10_become_4 d10_become_5 rfl rfl (t := 10) (by decide) (fun g => ?_) (fun g => ?_)
  · have h := h.1 g
    refine x_aload_n d10_become_10 0 rfl rfl ?_
    refine x_getR d10_become_11 fl10_9 (fun _ _ => rfl) (hS.1 _ _ (sh_151 b)) (hS.2.1 _ _ _ (pt_151_0 b)) ?_
    refine x_iload_n d10_become_14 1 rfl rfl ?_
    refine x_lload_n d10_become_15 2 rfl rfl ?_
    refine x_l2i d10_become_16 ?_
    obtain ⟨g1, h⟩ := h
    refine x_iast d10_become_17 (hS.1 _ _ (sh_152 b)) g1 ?_
    refine x_iconst d10_become_18 qi_0 ?_
    exact x_ret (r := (some (.int (0 : Int32)))) d10_become_19 xm_rI rfl ⟨Nat.le_refl _, Nat.le_refl _⟩ (h hS.pi)
  · have h := h.2 g
    refine x_iconst d10_become_8 qi_3 ?_
    exact x_ret (r := (some (.int (3 : Int32)))) d10_become_9 xm_rI rfl ⟨Nat.le_refl _, Nat.le_refl _⟩ (h hS)

set_option maxRecDepth 20000 in
theorem t10_access_0 {l : Launch} {E : xm_E} {b : Nat} {c p : Bool} {Q : Option Value → xm_M → Prop} (M : xm_M) (a1 : Nat) (ha1 : xS b a1 = some (.inr 2)) (hS : xm_st b c p M)
  (h : (vp_in (xm_gi M a1 2) 8 ∧ xm_C l E y2_isScratchAccess rm2_isScratchAccess [.ref a1] M (fun r M2 => ∃ r3 : Bool, r = some (.int (xz r3)) ∧ xm_st b c p M2 ∧ (((xz r3) = 0 → xm_C l E y2_loadSize rm2_loadSize [.ref a1] M2 (fun r M4 => ∃ r5 : Int32, r = some (.int r5) ∧ xm_st b c p M4 ∧ xm_C l E y4_has rm4_has [.ref (b + 53), .long ((Int32.toInt64 (xm_gi M (b + 152) (Int32.toNatClampNeg (xm_gi M a1 2)))) + (Int32.toInt64 (xm_gi M a1 3))), .int r5] M4 (fun r M6 => ∃ r7 : Bool, r = some (.int (xz r7)) ∧ xm_st b c p M6 ∧ ((¬ (xz r7) = 0 → xm_C l E y2_loadSize rm2_loadSize [.ref a1] M6 (fun r M8 => ∃ r9 : Int32, r = some (.int r9) ∧ xm_st b c p M8 ∧ xm_C l E y4_load rm4_load [.ref (b + 53), .int (Int64.toInt32 ((Int32.toInt64 (xm_gi M (b + 152) (Int32.toNatClampNeg (xm_gi M a1 2)))) + (Int32.toInt64 (xm_gi M a1 3)))), .int r9] M8 (fun r M10 => ∃ r11 : Int32, r = some (.int r11) ∧ xm_st b c p M10 ∧ (vp_in (xm_gi M6 a1 1) 8 ∧ (xm_st b c p (xm_pi M10 (b + 152) (Int32.toNatClampNeg (xm_gi M6 a1 1)) r11) → Q (some (.int (0 : Int32))) (xm_pi M10 (b + 152) (Int32.toNatClampNeg (xm_gi M6 a1 1)) r11)))))) ∧ ((xz r7) = 0 → (xm_st b c p M6 → Q (some (.int (1 : Int32))) M6)))))) ∧ (¬ (xz r3) = 0 → xm_C l E y10_accessScratch rm10_accessScratch [.ref (b + 151), .ref a1, .long ((Int32.toInt64 (xm_gi M (b + 152) (Int32.toNatClampNeg (xm_gi M a1 2)))) + (Int32.toInt64 (xm_gi M a1 3)))] M2 (fun r M13 => ∃ r14 : Int32, r = some (.int r14) ∧ xm_st b c p M13 ∧ (xm_st b c p M13 → Q (some (.int r14)) M13))))))) :
  xm_X l E y10_access rm10_access Q 0 [(0, .ref (b + 151)), (1, .ref a1), (2, .ref (b + 53))] [] 0 0 M := by
  refine x_aload_n d10_access_0 0 rfl rfl ?_
  refine x_getR d10_access_1 fl10_9 (fun _ _ => rfl) (hS.1 _ _ (sh_151 b)) (hS.2.1 _ _ _ (pt_151_0 b)) ?_
  refine x_aload_n d10_access_4 1 rfl rfl ?_
  refine x_getI d10_access_5 fl10_71 (fun _ _ => rfl) (hS.1 _ _ ha1) ?_
  obtain ⟨g1, h⟩ := h
  refine x_iald d10_access_8 (hS.1 _ _ (sh_152 b)) g1 ?_
  refine x_i2l d10_access_9 ?_
  refine x_aload_n d10_access_10 1 rfl rfl ?_
  refine x_getI d10_access_11 fl10_68 (fun _ _ => rfl) (hS.1 _ _ ha1) ?_
  refine x_i2l d10_access_14 ?_
  refine x_ladd d10_access_15 ?_
  refine x_lstore_n d10_access_16 rfl (by decide) (L' := [(3, .long ((Int32.toInt64 (xm_gi M (b + 152) (Int32.toNatClampNeg (xm_gi M a1 2)))) + (Int32.toInt64 (xm_gi M a1 3)))), (0, .ref (b + 151)), (1, .ref a1), (2, .ref (b + 53))]) rfl ?_
  refine x_aload_n d10_access_17 2 rfl rfl ?_
  refine x_cVZ (Z := y2_isScratchAccess) (S := rm2_isScratchAccess) (As := []) (rest := []) d10_access_18 ml10_85 k2_isScratchAccess rfl (b := a1) (hS.1 _ _ ha1) rfl rfl (Nat.le_of_ble_eq_true rfl) ⟨⟨by decide, by decide⟩, by decide, by decide⟩ ⟨rfl, rfl⟩ h (fun r3 M2 h => ?_)
  obtain ⟨hS, h⟩ := h
  refine x_if_eq d10_access_21 (t := 31) (by decide) (fun g => ?_) (fun g => ?_)
  · have h := h.1 g
    refine x_aload_n d10_access_31 3 rfl rfl ?_
    refine x_lload_n d10_access_32 0 rfl rfl ?_
    refine x_aload_n d10_access_33 2 rfl rfl ?_
    refine x_cVI (Z := y2_loadSize) (S := rm2_loadSize) (As := []) (rest := [.long ((Int32.toInt64 (xm_gi M (b + 152) (Int32.toNatClampNeg (xm_gi M a1 2)))) + (Int32.toInt64 (xm_gi M a1 3))), .ref (b + 53)]) d10_access_34 ml10_92 k2_loadSize rfl (b := a1) (hS.1 _ _ ha1) rfl rfl (Nat.le_of_ble_eq_true rfl) ⟨⟨by decide, by decide⟩, by decide, by decide⟩ ⟨rfl, rfl⟩ h (fun r5 M4 h => ?_)
    obtain ⟨hS, h⟩ := h
    refine x_cVZ (Z := y4_has) (S := rm4_has) (As := [.long ((Int32.toInt64 (xm_gi M (b + 152) (Int32.toNatClampNeg (xm_gi M a1 2)))) + (Int32.toInt64 (xm_gi M a1 3))), .int r5]) (rest := []) d10_access_37 ml10_96 k4_has rfl (b := (b + 53)) (hS.1 _ _ (sh_53 b)) rfl rfl (Nat.le_of_ble_eq_true rfl) ⟨⟨by decide, by decide⟩, by decide, by decide⟩ ⟨rfl, rfl⟩ h (fun r7 M6 h => ?_)
    obtain ⟨hS, h⟩ := h
    refine x_if_ne d10_access_40 (t := 45) (by decide) (fun g => ?_) (fun g => ?_)
    · have h := h.1 g
      refine x_aload_n d10_access_45 1 rfl rfl ?_
      refine x_getR d10_access_46 fl10_9 (fun _ _ => rfl) (hS.1 _ _ (sh_151 b)) (hS.2.1 _ _ _ (pt_151_0 b)) ?_
      refine x_aload_n d10_access_49 2 rfl rfl ?_
      refine x_getI d10_access_50 fl10_54 (fun _ _ => rfl) (hS.1 _ _ ha1) ?_
      refine x_aload_n d10_access_53 3 rfl rfl ?_
      refine x_lload_n d10_access_54 0 rfl rfl ?_
      refine x_l2i d10_access_55 ?_
      refine x_aload_n d10_access_56 2 rfl rfl ?_
      refine x_cVI (Z := y2_loadSize) (S := rm2_loadSize) (As := []) (rest := [.int (Int64.toInt32 ((Int32.toInt64 (xm_gi M (b + 152) (Int32.toNatClampNeg (xm_gi M a1 2)))) + (Int32.toInt64 (xm_gi M a1 3)))), .ref (b + 53), .int (xm_gi M6 a1 1), .ref (b + 152)]) d10_access_57 ml10_92 k2_loadSize rfl (b := a1) (hS.1 _ _ ha1) rfl rfl (Nat.le_of_ble_eq_true rfl) ⟨⟨by decide, by decide⟩, by decide, by decide⟩ ⟨rfl, rfl⟩ h (fun r9 M8 h => ?_)
      obtain ⟨hS, h⟩ := h
      refine x_cVI (Z := y4_load) (S := rm4_load) (As := [.int (Int64.toInt32 ((Int32.toInt64 (xm_gi M (b + 152) (Int32.toNatClampNeg (xm_gi M a1 2)))) + (Int32.toInt64 (xm_gi M a1 3)))), .int r9]) (rest := [.int (xm_gi M6 a1 1), .ref (b + 152)]) d10_access_60 ml10_100 k4_load rfl (b := (b + 53)) (hS.1 _ _ (sh_53 b)) rfl rfl (Nat.le_of_ble_eq_true rfl) ⟨⟨by decide, by decide⟩, by decide, by decide⟩ ⟨rfl, rfl⟩ h (fun r11 M10 h => ?_)
      obtain ⟨hS, h⟩ := h
      obtain ⟨g12, h⟩ := h
      refine x_iast d10_access_63 (hS.1 _ _ (sh_152 b)) g12 ?_
      refine x_iconst d10_access_64 qi_0 ?_
      exact x_ret (r := (some (.int (0 : Int32)))) d10_access_65 xm_rI rfl ⟨Nat.le_refl _, Nat.le_refl _⟩ (h hS.pi)
    · have h := h.2 g
      refine x_iconst d10_access_43 qi_1 ?_
      exact x_ret (r := (some (.int (1 : Int32)))) d10_access_44 xm_rI rfl ⟨Nat.le_refl _, Nat.le_refl _⟩ (h hS)
  · have h := h.2 g
    refine x_aload_n d10_access_24 1 rfl rfl ?_
    refine x_aload_n d10_access_25 2 rfl rfl ?_
    refine x_lload_n d10_access_26 0 rfl rfl ?_
    refine x_cVI (Z := y10_accessScratch) (S := rm10_accessScratch) (As := [.ref a1, .long ((Int32.toInt64 (xm_gi M (b + 152) (Int32.toNatClampNeg (xm_gi M a1 2)))) + (Int32.toInt64 (xm_gi M a1 3)))]) (rest := []) d10_access_27 ml10_88 k10_accessScratch rfl (b := (b + 151)) (hS.1 _ _ (sh_151 b)) rfl rfl (Nat.le_of_ble_eq_true rfl) ⟨⟨by decide, by decide⟩, by decide, by decide⟩ ⟨rfl, rfl⟩ h (fun r14 M13 h => ?_)
    obtain ⟨hS, h⟩ := h
    exact x_ret (r := (some (.int r14))) d10_access_30 xm_rI rfl ⟨Nat.le_refl _, Nat.le_refl _⟩ (h hS)

set_option maxRecDepth 20000 in
theorem t10_accessScratch_0 {l : Launch} {E : xm_E} {b : Nat} {c p : Bool} {Q : Option Value → xm_M → Prop} (M : xm_M) (a1 : Nat) (w2 : Int64) (ha1 : xS b a1 = some (.inr 2)) (hS : xm_st b c p M)
  (h : ((w2 < (0 : Int64) → (xm_st b c p M → Q (some (.int (2 : Int32))) M)) ∧ (¬ w2 < (0 : Int64) → ((w2 < (32 : Int64) → ((¬ (xm_gi M a1 0) = (11 : Int32) → (vp_in (xm_gi M a1 1) 8 ∧ (vp_in (Int64.toInt32 w2) 32 ∧ (xm_st b c p (xm_pi M (b + 153) (Int32.toNatClampNeg (Int64.toInt32 w2)) (Int32.toInt8 ((Int32.toInt8 (xm_gi M (b + 152) (Int32.toNatClampNeg (xm_gi M a1 1)))).toInt32)).toInt32) → Q (some (.int (0 : Int32))) (xm_pi M (b + 153) (Int32.toNatClampNeg (Int64.toInt32 w2)) (Int32.toInt8 ((Int32.toInt8 (xm_gi M (b + 152) (Int32.toNatClampNeg (xm_gi M a1 1)))).toInt32)).toInt32))))) ∧ ((xm_gi M a1 0) = (11 : Int32) → (vp_in (Int64.toInt32 w2) 32 ∧ (vp_in (xm_gi M a1 1) 8 ∧ (xm_st b c p (xm_pi M (b + 152) (Int32.toNatClampNeg (xm_gi M a1 1)) ((xm_gi M (b + 153) (Int32.toNatClampNeg (Int64.toInt32 w2))) &&& (255 : Int32))) → Q (some (.int (0 : Int32))) (xm_pi M (b + 152) (Int32.toNatClampNeg (xm_gi M a1 1)) ((xm_gi M (b + 153) (Int32.toNatClampNeg (Int64.toInt32 w2))) &&& (255 : Int32))))))))) ∧ (¬ w2 < (32 : Int64) → (xm_st b c p M → Q (some (.int (2 : Int32))) M)))))) :
  xm_X l E y10_accessScratch rm10_accessScratch Q 0 [(0, .ref (b + 151)), (1, .ref a1), (2, .long w2)] [] 0 0 M := by
  refine x_lload_n d10_accessScratch_0 2 rfl rfl ?_
  refine x_lconst d10_accessScratch_1 ql_0 ?_
  refine x_lc_lt d10_accessScratch_2 d10_accessScratch_3 rfl rfl (t := 14) (by decide) (fun g => ?_) (fun g => ?_)
  · have h := h.1 g
    refine x_iconst d10_accessScratch_14 qi_2 ?_
    exact x_ret (r := (some (.int (2 : Int32)))) d10_accessScratch_15 xm_rI rfl ⟨Nat.le_refl _, Nat.le_refl _⟩ (h hS)
  · have h := h.2 g
    refine x_lload_n d10_accessScratch_6 2 rfl rfl ?_
    refine x_ldc2 d10_accessScratch_7 lc10_104 ?_
    refine x_lc_lt d10_accessScratch_10 d10_accessScratch_11 rfl rfl (t := 16) (by decide) (fun g => ?_) (fun g => ?_)
    · have h := h.1 g
      refine x_aload_n d10_accessScratch_16 1 rfl rfl ?_
      refine x_getI d10_accessScratch_17 fl10_49 (fun _ _ => rfl) (hS.1 _ _ ha1) ?_
      refine x_bipush d10_accessScratch_20 qb_11 ?_
      refine x_icmp_ne d10_accessScratch_22 (t := 48) (by decide) (fun g => ?_) (fun g => ?_)
      · have h := h.1 g
        refine x_aload_n d10_accessScratch_48 0 rfl rfl ?_
        refine x_getR d10_accessScratch_49 fl10_15 (fun _ _ => rfl) (hS.1 _ _ (sh_151 b)) (hS.2.1 _ _ _ (pt_151_1 b)) ?_
        refine x_lload_n d10_accessScratch_52 2 rfl rfl ?_
        refine x_l2i d10_accessScratch_53 ?_
        refine x_aload_n d10_accessScratch_54 0 rfl rfl ?_
        refine x_getR d10_accessScratch_55 fl10_9 (fun _ _ => rfl) (hS.1 _ _ (sh_151 b)) (hS.2.1 _ _ _ (pt_151_0 b)) ?_
        refine x_aload_n d10_accessScratch_58 1 rfl rfl ?_
        refine x_getI d10_accessScratch_59 fl10_54 (fun _ _ => rfl) (hS.1 _ _ ha1) ?_
        obtain ⟨g1, h⟩ := h
        refine x_iald d10_accessScratch_62 (hS.1 _ _ (sh_152 b)) g1 ?_
        refine x_i2b d10_accessScratch_63 ?_
        obtain ⟨g2, h⟩ := h
        refine x_bast d10_accessScratch_64 (hS.1 _ _ (sh_153 b)) g2 ?_
        refine x_iconst d10_accessScratch_65 qi_0 ?_
        exact x_ret (r := (some (.int (0 : Int32)))) d10_accessScratch_66 xm_rI rfl ⟨Nat.le_refl _, Nat.le_refl _⟩ (h hS.pi)
      · have h := h.2 g
        refine x_aload_n d10_accessScratch_25 0 rfl rfl ?_
        refine x_getR d10_accessScratch_26 fl10_9 (fun _ _ => rfl) (hS.1 _ _ (sh_151 b)) (hS.2.1 _ _ _ (pt_151_0 b)) ?_
        refine x_aload_n d10_accessScratch_29 1 rfl rfl ?_
        refine x_getI d10_accessScratch_30 fl10_54 (fun _ _ => rfl) (hS.1 _ _ ha1) ?_
        refine x_aload_n d10_accessScratch_33 0 rfl rfl ?_
        refine x_getR d10_accessScratch_34 fl10_15 (fun _ _ => rfl) (hS.1 _ _ (sh_151 b)) (hS.2.1 _ _ _ (pt_151_1 b)) ?_
        refine x_lload_n d10_accessScratch_37 2 rfl rfl ?_
        refine x_l2i d10_accessScratch_38 ?_
        obtain ⟨g3, h⟩ := h
        refine x_bald d10_accessScratch_39 (hS.1 _ _ (sh_153 b)) g3 ?_
        refine x_sipush d10_accessScratch_40 qs_255 ?_
        refine x_iand d10_accessScratch_43 ?_
        obtain ⟨g4, h⟩ := h
        refine x_iast d10_accessScratch_44 (hS.1 _ _ (sh_152 b)) g4 ?_
        refine x_goto d10_accessScratch_45 (t := 65) (by decide) ?_
        refine x_iconst d10_accessScratch_65 qi_0 ?_
        exact x_ret (r := (some (.int (0 : Int32)))) d10_accessScratch_66 xm_rI rfl ⟨Nat.le_refl _, Nat.le_refl _⟩ (h hS.pi)
    · have h := h.2 g
      refine x_iconst d10_accessScratch_14 qi_2 ?_
      exact x_ret (r := (some (.int (2 : Int32)))) d10_accessScratch_15 xm_rI rfl ⟨Nat.le_refl _, Nat.le_refl _⟩ (h hS)

set_option maxRecDepth 20000 in
theorem t4_has_0 {l : Launch} {E : xm_E} {b : Nat} {c p : Bool} {Q : Option Value → xm_M → Prop} (M : xm_M) (w1 : Int64) (v3 : Int32) (hS : xm_st b c p M)
  (h : ((w1 < (0 : Int64) → (xm_st b c p M → Q (some (.int (0 : Int32))) M)) ∧ (¬ w1 < (0 : Int64) → (((Int32.toInt64 (xm_gi M (b + 53) 1)) < (w1 + (Int32.toInt64 v3)) → (xm_st b c p M → Q (some (.int (0 : Int32))) M)) ∧ (¬ (Int32.toInt64 (xm_gi M (b + 53) 1)) < (w1 + (Int32.toInt64 v3)) → (xm_st b c p M → Q (some (.int (1 : Int32))) M)))))) :
  xm_X l E y4_has rm4_has Q 0 [(0, .ref (b + 53)), (1, .long w1), (3, .int v3)] [] 0 0 M := by
  refine x_lload_n d4_has_0 1 rfl rfl ?_
  refine x_lconst d4_has_1 ql_0 ?_
  refine x_lc_lt d4_has_2 d4_has_3 rfl rfl (t := 23) (by decide) (fun g => ?_) (fun g => ?_)
  · have h := h.1 g
    refine x_iconst d4_has_23 qi_0 ?_
    exact x_ret (r := (some (.int (0 : Int32)))) d4_has_24 (xm_rZ (Or.inl rfl)) rfl ⟨Nat.le_refl _, Nat.le_refl _⟩ (h hS)
  · have h := h.2 g
    refine x_lload_n d4_has_6 1 rfl rfl ?_
    refine x_iload_n d4_has_7 2 rfl rfl ?_
    refine x_i2l d4_has_8 ?_
    refine x_ladd d4_has_9 ?_
    refine x_aload_n d4_has_10 0 rfl rfl ?_
    refine x_getI d4_has_11 fl4_15 (fun _ _ => rfl) (hS.1 _ _ (sh_53 b)) ?_
    refine x_i2l d4_has_14 ?_
    refine x_lc_gt d4_has_15 d4_has_16 rfl rfl (t := 23) (by decide) (fun g => ?_) (fun g => ?_)
    · have h := h.1 g
      refine x_iconst d4_has_23 qi_0 ?_
      exact x_ret (r := (some (.int (0 : Int32)))) d4_has_24 (xm_rZ (Or.inl rfl)) rfl ⟨Nat.le_refl _, Nat.le_refl _⟩ (h hS)
    · have h := h.2 g
      refine x_iconst d4_has_19 qi_1 ?_
      refine x_goto d4_has_20 (t := 24) (by decide) ?_
      exact x_ret (r := (some (.int (1 : Int32)))) d4_has_24 (xm_rZ (Or.inr rfl)) rfl ⟨Nat.le_refl _, Nat.le_refl _⟩ (h hS)

set_option maxRecDepth 20000 in
theorem t4_load_0 {l : Launch} {E : xm_E} {b : Nat} {c p : Bool} {Q : Option Value → xm_M → Prop} (M : xm_M) (v1 : Int32) (v2 : Int32) (hS : xm_st b c p M)
  (h : (xm_st b c p M → xm_X l E y4_load rm4_load Q 5 [(0, .ref (b + 53)), (1, .int v1), (2, .int v2), (3, .int (0 : Int32)), (4, .int (0 : Int32))] [] 0 0 M)) :
  xm_X l E y4_load rm4_load Q 0 [(0, .ref (b + 53)), (1, .int v1), (2, .int v2)] [] 0 0 M := by
  refine x_iconst d4_load_0 qi_0 ?_
  refine x_istore_n d4_load_1 rfl (by decide) (L' := [(3, .int (0 : Int32)), (0, .ref (b + 53)), (1, .int v1), (2, .int v2)]) rfl ?_
  refine x_iconst d4_load_2 qi_0 ?_
  refine x_istore d4_load_3 (by decide) (L' := [(4, .int (0 : Int32)), (3, .int (0 : Int32)), (0, .ref (b + 53)), (1, .int v1), (2, .int v2)]) rfl ?_
  exact xm_X.sub [2, 3, 4, 1, 0] rfl (h hS)
set_option maxRecDepth 20000 in
theorem t4_load_5 {l : Launch} {E : xm_E} {b : Nat} {c p : Bool} {Q : Option Value → xm_M → Prop} (M : xm_M) (v1 : Int32) (v2 : Int32) (v3 : Int32) (v4 : Int32) (hS : xm_st b c p M)
  (h : ((v2 ≤ v4 → (xm_st b c p M → Q (some (.int v3)) M)) ∧ (¬ v2 ≤ v4 → (vp_in (v1 + v4) 1024 ∧ (xm_st b c p M → xm_X l E y4_load rm4_load Q 5 [(0, .ref (b + 53)), (1, .int v1), (2, .int v2), (3, .int ((v3 <<< ((8 : Int32) &&& 31)) ||| ((xm_gi M (b + 54) (Int32.toNatClampNeg (v1 + v4))) &&& (255 : Int32)))), (4, .int (v4 + Int32.ofInt (1)))] [] 0 0 M))))) :
  xm_X l E y4_load rm4_load Q 5 [(0, .ref (b + 53)), (1, .int v1), (2, .int v2), (3, .int v3), (4, .int v4)] [] 0 0 M := by
  refine x_iload d4_load_5 4 rfl ?_
  refine x_iload_n d4_load_7 2 rfl rfl ?_
  refine x_icmp_ge d4_load_8 (t := 36) (by decide) (fun g => ?_) (fun g => ?_)
  · have h := h.1 g
    refine x_iload_n d4_load_36 3 rfl rfl ?_
    exact x_ret (r := (some (.int v3))) d4_load_37 xm_rI rfl ⟨Nat.le_refl _, Nat.le_refl _⟩ (h hS)
  · have h := h.2 g
    refine x_iload_n d4_load_11 3 rfl rfl ?_
    refine x_bipush d4_load_12 qb_8 ?_
    refine x_ishl d4_load_14 ?_
    refine x_aload_n d4_load_15 0 rfl rfl ?_
    refine x_getR d4_load_16 fl4_9 (fun _ _ => rfl) (hS.1 _ _ (sh_53 b)) (hS.2.1 _ _ _ (pt_53_0 b)) ?_
    refine x_iload_n d4_load_19 1 rfl rfl ?_
    refine x_iload d4_load_20 4 rfl ?_
    refine x_iadd d4_load_22 ?_
    obtain ⟨g1, h⟩ := h
    refine x_bald d4_load_23 (hS.1 _ _ (sh_54 b)) g1 ?_
    refine x_sipush d4_load_24 qs_255 ?_
    refine x_iand d4_load_27 ?_
    refine x_ior d4_load_28 ?_
    refine x_istore_n d4_load_29 rfl (by decide) (L' := [(3, .int ((v3 <<< ((8 : Int32) &&& 31)) ||| ((xm_gi M (b + 54) (Int32.toNatClampNeg (v1 + v4))) &&& (255 : Int32)))), (0, .ref (b + 53)), (1, .int v1), (2, .int v2), (4, .int v4)]) rfl ?_
    refine x_iinc d4_load_30 4 rfl rfl (by decide) (L' := [(4, .int (v4 + Int32.ofInt (1))), (3, .int ((v3 <<< ((8 : Int32) &&& 31)) ||| ((xm_gi M (b + 54) (Int32.toNatClampNeg (v1 + v4))) &&& (255 : Int32)))), (0, .ref (b + 53)), (1, .int v1), (2, .int v2)]) rfl ?_
    refine x_goto d4_load_33 (t := 5) (by decide) ?_
    exact xm_X.sub [2, 3, 4, 1, 0] rfl (h hS)

set_option maxRecDepth 20000 in
theorem t10_jumps_0 {l : Launch} {E : xm_E} {b : Nat} {c p : Bool} {Q : Option Value → xm_M → Prop} (M : xm_M) (a1 : Nat) (ha1 : xS b a1 = some (.inr 2)) (hS : xm_st b c p M)
  (h : (((xm_gi M a1 0) = (13 : Int32) → (xm_st b c p M → Q (some (.int (1 : Int32))) M)) ∧ ((xm_gi M a1 0) = (14 : Int32) → (vp_in (xm_gi M a1 1) 8 ∧ (vp_in (xm_gi M a1 2) 8 ∧ (((xm_gi M (b + 152) (Int32.toNatClampNeg (xm_gi M a1 2))) ≤ (xm_gi M (b + 152) (Int32.toNatClampNeg (xm_gi M a1 1))) → (xm_st b c p M → Q (some (.int (0 : Int32))) M)) ∧ (¬ (xm_gi M (b + 152) (Int32.toNatClampNeg (xm_gi M a1 2))) ≤ (xm_gi M (b + 152) (Int32.toNatClampNeg (xm_gi M a1 1))) → (xm_st b c p M → Q (some (.int (1 : Int32))) M)))))) ∧ ((xm_gi M a1 0) = (15 : Int32) → (vp_in (xm_gi M a1 1) 8 ∧ (((xm_gi M a1 3) ≤ (xm_gi M (b + 152) (Int32.toNatClampNeg (xm_gi M a1 1))) → (xm_st b c p M → Q (some (.int (0 : Int32))) M)) ∧ (¬ (xm_gi M a1 3) ≤ (xm_gi M (b + 152) (Int32.toNatClampNeg (xm_gi M a1 1))) → (xm_st b c p M → Q (some (.int (1 : Int32))) M))))) ∧ ((xm_gi M a1 0) = (16 : Int32) → (vp_in (xm_gi M a1 1) 8 ∧ (vp_in (xm_gi M a1 2) 8 ∧ ((¬ (xm_gi M (b + 152) (Int32.toNatClampNeg (xm_gi M a1 1))) = (xm_gi M (b + 152) (Int32.toNatClampNeg (xm_gi M a1 2))) → (xm_st b c p M → Q (some (.int (0 : Int32))) M)) ∧ ((xm_gi M (b + 152) (Int32.toNatClampNeg (xm_gi M a1 1))) = (xm_gi M (b + 152) (Int32.toNatClampNeg (xm_gi M a1 2))) → (xm_st b c p M → Q (some (.int (1 : Int32))) M)))))) ∧ (¬ (xm_gi M a1 0) = (13 : Int32) ∧ ¬ (xm_gi M a1 0) = (14 : Int32) ∧ ¬ (xm_gi M a1 0) = (15 : Int32) ∧ ¬ (xm_gi M a1 0) = (16 : Int32) → (xm_st b c p M → Q (some (.int (0 : Int32))) M)))) :
  xm_X l E y10_jumps rm10_jumps Q 0 [(0, .ref (b + 151)), (1, .ref a1)] [] 0 0 M := by
  refine x_aload_n d10_jumps_0 1 rfl rfl ?_
  refine x_getI d10_jumps_1 fl10_49 (fun _ _ => rfl) (hS.1 _ _ ha1) ?_
  have hsw := h
  clear h
  by_cases e13 : (xm_gi M a1 0) = (13 : Int32)
  · have h := hsw.1 e13
    refine x_swIn d10_jumps_4 13 (by rw [e13]; rfl) ⟨by decide, by decide⟩ rfl (t := 36) (by decide) ?_
    refine x_iconst d10_jumps_36 qi_1 ?_
    exact x_ret (r := (some (.int (1 : Int32)))) d10_jumps_37 (xm_rZ (Or.inr rfl)) rfl ⟨Nat.le_refl _, Nat.le_refl _⟩ (h hS)
  by_cases e14 : (xm_gi M a1 0) = (14 : Int32)
  · have h := hsw.2.1 e14
    refine x_swIn d10_jumps_4 14 (by rw [e14]; rfl) ⟨by decide, by decide⟩ rfl (t := 38) (by decide) ?_
    refine x_aload_n d10_jumps_38 0 rfl rfl ?_
    refine x_getR d10_jumps_39 fl10_9 (fun _ _ => rfl) (hS.1 _ _ (sh_151 b)) (hS.2.1 _ _ _ (pt_151_0 b)) ?_
    refine x_aload_n d10_jumps_42 1 rfl rfl ?_
    refine x_getI d10_jumps_43 fl10_54 (fun _ _ => rfl) (hS.1 _ _ ha1) ?_
    obtain ⟨g1, h⟩ := h
    refine x_iald d10_jumps_46 (hS.1 _ _ (sh_152 b)) g1 ?_
    refine x_aload_n d10_jumps_47 0 rfl rfl ?_
    refine x_getR d10_jumps_48 fl10_9 (fun _ _ => rfl) (hS.1 _ _ (sh_151 b)) (hS.2.1 _ _ _ (pt_151_0 b)) ?_
    refine x_aload_n d10_jumps_51 1 rfl rfl ?_
    refine x_getI d10_jumps_52 fl10_71 (fun _ _ => rfl) (hS.1 _ _ ha1) ?_
    obtain ⟨g2, h⟩ := h
    refine x_iald d10_jumps_55 (hS.1 _ _ (sh_152 b)) g2 ?_
    refine x_icmp_ge d10_jumps_56 (t := 63) (by decide) (fun g => ?_) (fun g => ?_)
    · have h := h.1 g
      refine x_iconst d10_jumps_63 qi_0 ?_
      exact x_ret (r := (some (.int (0 : Int32)))) d10_jumps_64 (xm_rZ (Or.inl rfl)) rfl ⟨Nat.le_refl _, Nat.le_refl _⟩ (h hS)
    · have h := h.2 g
      refine x_iconst d10_jumps_59 qi_1 ?_
      refine x_goto d10_jumps_60 (t := 64) (by decide) ?_
      exact x_ret (r := (some (.int (1 : Int32)))) d10_jumps_64 (xm_rZ (Or.inr rfl)) rfl ⟨Nat.le_refl _, Nat.le_refl _⟩ (h hS)
  by_cases e15 : (xm_gi M a1 0) = (15 : Int32)
  · have h := hsw.2.2.1 e15
    refine x_swIn d10_jumps_4 15 (by rw [e15]; rfl) ⟨by decide, by decide⟩ rfl (t := 65) (by decide) ?_
    refine x_aload_n d10_jumps_65 0 rfl rfl ?_
    refine x_getR d10_jumps_66 fl10_9 (fun _ _ => rfl) (hS.1 _ _ (sh_151 b)) (hS.2.1 _ _ _ (pt_151_0 b)) ?_
    refine x_aload_n d10_jumps_69 1 rfl rfl ?_
    refine x_getI d10_jumps_70 fl10_54 (fun _ _ => rfl) (hS.1 _ _ ha1) ?_
    obtain ⟨g3, h⟩ := h
    refine x_iald d10_jumps_73 (hS.1 _ _ (sh_152 b)) g3 ?_
    refine x_aload_n d10_jumps_74 1 rfl rfl ?_
    refine x_getI d10_jumps_75 fl10_68 (fun _ _ => rfl) (hS.1 _ _ ha1) ?_
    refine x_icmp_ge d10_jumps_78 (t := 85) (by decide) (fun g => ?_) (fun g => ?_)
    · have h := h.1 g
      refine x_iconst d10_jumps_85 qi_0 ?_
      exact x_ret (r := (some (.int (0 : Int32)))) d10_jumps_86 (xm_rZ (Or.inl rfl)) rfl ⟨Nat.le_refl _, Nat.le_refl _⟩ (h hS)
    · have h := h.2 g
      refine x_iconst d10_jumps_81 qi_1 ?_
      refine x_goto d10_jumps_82 (t := 86) (by decide) ?_
      exact x_ret (r := (some (.int (1 : Int32)))) d10_jumps_86 (xm_rZ (Or.inr rfl)) rfl ⟨Nat.le_refl _, Nat.le_refl _⟩ (h hS)
  by_cases e16 : (xm_gi M a1 0) = (16 : Int32)
  · have h := hsw.2.2.2.1 e16
    refine x_swIn d10_jumps_4 16 (by rw [e16]; rfl) ⟨by decide, by decide⟩ rfl (t := 87) (by decide) ?_
    refine x_aload_n d10_jumps_87 0 rfl rfl ?_
    refine x_getR d10_jumps_88 fl10_9 (fun _ _ => rfl) (hS.1 _ _ (sh_151 b)) (hS.2.1 _ _ _ (pt_151_0 b)) ?_
    refine x_aload_n d10_jumps_91 1 rfl rfl ?_
    refine x_getI d10_jumps_92 fl10_54 (fun _ _ => rfl) (hS.1 _ _ ha1) ?_
    obtain ⟨g4, h⟩ := h
    refine x_iald d10_jumps_95 (hS.1 _ _ (sh_152 b)) g4 ?_
    refine x_aload_n d10_jumps_96 0 rfl rfl ?_
    refine x_getR d10_jumps_97 fl10_9 (fun _ _ => rfl) (hS.1 _ _ (sh_151 b)) (hS.2.1 _ _ _ (pt_151_0 b)) ?_
    refine x_aload_n d10_jumps_100 1 rfl rfl ?_
    refine x_getI d10_jumps_101 fl10_71 (fun _ _ => rfl) (hS.1 _ _ ha1) ?_
    obtain ⟨g5, h⟩ := h
    refine x_iald d10_jumps_104 (hS.1 _ _ (sh_152 b)) g5 ?_
    refine x_icmp_ne d10_jumps_105 (t := 112) (by decide) (fun g => ?_) (fun g => ?_)
    · have h := h.1 g
      refine x_iconst d10_jumps_112 qi_0 ?_
      exact x_ret (r := (some (.int (0 : Int32)))) d10_jumps_113 (xm_rZ (Or.inl rfl)) rfl ⟨Nat.le_refl _, Nat.le_refl _⟩ (h hS)
    · have h := h.2 g
      refine x_iconst d10_jumps_108 qi_1 ?_
      refine x_goto d10_jumps_109 (t := 113) (by decide) ?_
      exact x_ret (r := (some (.int (1 : Int32)))) d10_jumps_113 (xm_rZ (Or.inr rfl)) rfl ⟨Nat.le_refl _, Nat.le_refl _⟩ (h hS)
  have h := hsw.2.2.2.2 ⟨e13, e14, e15, e16⟩
  have n13 := lv_neT (a := 13) e13 (by decide)
  have n14 := lv_neT (a := 14) e14 (by decide)
  have n15 := lv_neT (a := 15) e15 (by decide)
  have n16 := lv_neT (a := 16) e16 (by decide)
  refine x_swOut d10_jumps_4 (by omega) (t := 114) (by decide) ?_
  refine x_iconst d10_jumps_114 qi_0 ?_
  exact x_ret (r := (some (.int (0 : Int32)))) d10_jumps_115 (xm_rZ (Or.inl rfl)) rfl ⟨Nat.le_refl _, Nat.le_refl _⟩ (h hS)
