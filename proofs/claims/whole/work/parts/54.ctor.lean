/-- one more reference in a row of them -/
theorem xm_pg.row {b n r a t : Nat} {ps : List (Nat × Nat × Nat)} {gs : List (Nat × Nat)} {vs : List (Nat × Nat × Int32)} {M : xm_M} (h : xm_pg b n ps ((a, t) :: gs) vs r M) (hf : ∀ p ∈ ps, ¬ p.1 = a) (hg : ∀ g ∈ gs, g.1 ≠ a) : xm_pg b n ps ((a, t + 1) :: gs) vs r (xm_pr M (b + a) t (some (b + (a + 1) + t))) := by
  obtain ⟨h1, h2, h3, h4, h5, h6⟩ := h
  refine ⟨h1, h2, fun p hp => ⟨(h3 p hp).1, (xm_gr_pr_ne ?_).trans (h3 p hp).2⟩, fun g hg' => ?_, h5, h6⟩
  · have := hf p hp; omega
  · rcases List.mem_cons.mp hg' with rfl | hg'
    · refine ⟨(h4 _ List.mem_cons_self).1, fun j hj => ?_⟩
      by_cases e : j = t
      · subst e; exact xm_gr_pr _ _ _ _
      · refine (xm_gr_pr_ne (by show ¬ (b + a = b + a ∧ j = t); omega)).trans ((h4 _ List.mem_cons_self).2 j ?_)
        have hj : j < t + 1 := hj
        show j < t
        omega
    · refine ⟨(h4 g (List.mem_cons_of_mem _ hg')).1, fun j hj => (xm_gr_pr_ne ?_).trans ((h4 g (List.mem_cons_of_mem _ hg')).2 j hj)⟩
      have := hg g hg'; omega
theorem c2_init {l : Launch} {E : xm_E} {Q : Option Value → xm_M → Prop} {M : xm_M} {a : Nat} (h : Q none M) : xm_C l E y2_init rm2_init [.ref a] M Q := by
  refine xm_enter (by decide) (Nat.le_of_ble_eq_true rfl) (show xm_X l E y2_init rm2_init Q 0 [(0, .ref a)] [] 0 0 M from ?_)
  refine x_aload_n d2_init_0 0 rfl rfl ?_
  refine x_objInit d2_init_1 ml2_3 oi_1 oi_2 (Nat.le_of_ble_eq_true rfl) ⟨by decide, by decide⟩ ?_
  exact x_ret (r := none) d2_init_4 xm_rN rfl ⟨by decide, by decide⟩ h
theorem c7_init {l : Launch} {E : xm_E} {Q : Option Value → xm_M → Prop} {M : xm_M} {a : Nat} (h : Q none M) : xm_C l E y7_init rm7_init [.ref a] M Q := by
  refine xm_enter (by decide) (Nat.le_of_ble_eq_true rfl) (show xm_X l E y7_init rm7_init Q 0 [(0, .ref a)] [] 0 0 M from ?_)
  refine x_aload_n d7_init_0 0 rfl rfl ?_
  refine x_objInit d7_init_1 ml7_3 oi_1 oi_2 (Nat.le_of_ble_eq_true rfl) ⟨by decide, by decide⟩ ?_
  exact x_ret (r := none) d7_init_4 xm_rN rfl ⟨by decide, by decide⟩ h
theorem xS_I : ∀ t, t < 48 → xS_o (3 + t) = some (.inr 2) := by decide
set_option maxRecDepth 20000 in
theorem c1_loop {l : Launch} {E : xm_E} {b : Nat} {Q : Option Value → xm_M → Prop} {lv : Int32} (h : ∀ M1, xm_pg b 51 [(1, 1, 2)] [(2, 48)] [(1, 0, lv)] 0 M1 → Q none M1) : ∀ (k t cs sl : Nat) (M : xm_M), t + k = 48 → cs = 1 + t → sl = 48 + 5 * t → xm_pg b (3 + t) [(1, 1, 2)] [(2, t)] [(1, 0, lv)] 0 M → xm_X l E y1_init rm1_init Q 20 [(0, .ref (b + 1)), (2, .int (Int32.ofNat t))] [] cs sl M := by
  intro k
  induction k with
  | zero =>
    intro t cs sl M ht hc hs hP
    have ht : t = 48 := by omega
    subst ht; subst hc; subst hs
    refine x_iload_n d1_init_20 1 rfl rfl ?_
    refine x_bipush d1_init_21 qb_48 ?_
    refine x_icmp_ge d1_init_23 (t := 45) (by decide) (fun g => ?_) (fun g => absurd (by decide) g)
    exact x_ret (r := none) d1_init_45 xm_rN rfl ⟨by decide, by decide⟩ (h _ hP)
  | succ k ih =>
    intro t cs sl M ht hc hs hP
    have ht2 : t < 48 := by omega
    refine x_iload_n d1_init_20 1 rfl rfl ?_
    refine x_bipush d1_init_21 qb_48 ?_
    refine x_icmp_ge d1_init_23 (t := 45) (by decide) (fun g => absurd ((xn_le (a := 48) (by omega) (by omega)).mp g) (by omega)) (fun _ => ?_)
    refine x_aload_n d1_init_26 0 rfl rfl ?_
    refine x_getR d1_init_27 fl1_11 (fun _ _ => rfl) (hP.sh (k := 1) (by omega) rfl) ((hP.2.2.1 (1, 1, 2) List.mem_cons_self).2) ?_
    refine x_iload_n d1_init_30 1 rfl rfl ?_
    refine x_new d1_init_31 ci1_9 ⟨by show cs + 1 ≤ 49; omega, by show sl + 5 ≤ 288; omega⟩ ?_
    refine xm_ad (show xm_nx M = b + (3 + t) from hP.1) ?_
    refine xm_nm (fun M2 e2 => ?_)
    have hP2 : xm_pg b (3 + t + 1) [(1, 1, 2)] [(2, t)] [(1, 0, lv)] 0 M2 := by rw [e2]; exact hP.new (xS_I t ht2) (by simp; omega) (Or.inl rfl)
    refine x_dup d1_init_34 rfl ?_
    refine x_callIN (Z := y2_init) (S := rm2_init) (P := fun r M1 => r = none ∧ M1 = M2) (As := []) (b := b + (3 + t)) (rest := [.ref (b + (3 + t)), .int (Int32.ofNat t), .ref (b + 2)]) d1_init_35 ml1_21 k2_init rfl rfl (Nat.le_of_ble_eq_true rfl) ⟨⟨by decide, by decide⟩, by show cs + 1 + 0 ≤ 49; omega, by show sl + 5 + 0 ≤ 288; omega⟩ (c2_init ⟨rfl, rfl⟩) (fun r M3 h1 => ?_)
    obtain ⟨rfl, rfl⟩ := h1
    refine x_aast d1_init_38 (hP2.sh (k := 2) (by omega) rfl) (xn_in ht2 (by omega)) (hP2.sh (k := 3 + t) (by omega) (xS_I t ht2)) ?_
    rw [xn_c (by omega)]
    refine xm_nm (fun M4 e4 => ?_)
    have hP4 : xm_pg b (3 + t + 1) [(1, 1, 2)] [(2, t + 1)] [(1, 0, lv)] 0 M4 := by
      rw [e4]
      have := hP2.row (by simp) (by simp)
      rw [show b + (2 + 1) + t = b + (3 + t) by omega] at this
      exact this
    refine x_iinc d1_init_39 1 rfl (v := Int32.ofNat (t + 1)) (xn_s t) (by decide) (L' := [(2, .int (Int32.ofNat (t + 1))), (0, .ref (b + 1))]) rfl ?_
    refine x_goto d1_init_42 (t := 20) (by decide) ?_
    exact xm_X.sub [1, 0] rfl (ih (t + 1) _ _ M4 (by omega) (by show cs + 1 + 0 = _; omega) (by show sl + 5 + 0 = _; omega) hP4)
set_option maxRecDepth 20000 in
theorem c1_init {l : Launch} {E : xm_E} {b : Nat} {Q : Option Value → xm_M → Prop} {M : xm_M} (lv : Int32) (hP : xm_pg b 2 [] [] [] 0 M) (h : ∀ M1, xm_pg b 51 [(1, 1, 2)] [(2, 48)] [(1, 0, lv)] 0 M1 → Q none M1) : xm_C l E y1_init rm1_init [.ref (b + 1), .int lv] M Q := by
  refine xm_enter (by decide) (Nat.le_of_ble_eq_true rfl) (show xm_X l E y1_init rm1_init Q 0 [(0, .ref (b + 1)), (1, .int lv)] [] 0 0 M from ?_)
  refine x_aload_n d1_init_0 0 rfl rfl ?_
  refine x_objInit d1_init_1 ml1_3 oi_1 oi_2 (Nat.le_of_ble_eq_true rfl) ⟨by decide, by decide⟩ ?_
  refine x_aload_n d1_init_4 0 rfl rfl ?_
  refine x_bipush d1_init_5 qb_48 ?_
  refine x_anew d1_init_7 cl1_9 (by decide) (N := 48) (by decide) (by decide) ⟨by decide, by decide⟩ ?_
  refine xm_ad (show xm_nx M = b + 2 from hP.1) ?_
  refine xm_nm (fun M2 e1 => ?_)
  have hP : xm_pg b 3 [] [] [] 0 M2 := by rw [e1]; exact hP.new rfl (by simp) (by decide)
  refine x_putFR d1_init_10 ff1_11 rfl (fun _ _ => rfl) rfl rfl (hP.sh (k := 1) (by decide) rfl) ?_
  refine xm_nm (fun M4 e3 => ?_)
  have hP : xm_pg b 3 [(1, 1, 2)] [] [] 0 M4 := by rw [e3]; exact hP.pr (by decide) (by decide) (by decide)
  refine x_aload_n d1_init_13 0 rfl rfl ?_
  refine x_iload_n d1_init_14 1 rfl rfl ?_
  refine x_putFI d1_init_15 ff1_17 rfl (fun _ _ => rfl) rfl rfl (hP.sh (k := 1) (by decide) rfl) ?_
  refine xm_nm (fun M6 e5 => ?_)
  have hP : xm_pg b 3 [(1, 1, 2)] [] [(1, 0, lv)] 0 M6 := by rw [e5]; exact hP.pi
  refine x_iconst d1_init_18 qi_0 ?_
  refine x_istore_n d1_init_19 rfl (by decide) (L' := [(2, .int (0 : Int32)), (0, .ref (b + 1)), (1, .int lv)]) rfl ?_
  refine xm_X.sub [1, 0] rfl (c1_loop h 48 0 _ _ M6 rfl rfl rfl ?_)
  exact ⟨hP.1, hP.2.1, hP.2.2.1, fun g hg => by
    rw [List.mem_singleton.mp hg]; exact ⟨by decide, fun j hj => absurd hj (Nat.not_lt_zero j)⟩, hP.2.2.2.2.1, hP.2.2.2.2.2⟩

set_option maxRecDepth 20000 in
theorem c3_init {l : Launch} {E : xm_E} {b : Nat} {Q : Option Value → xm_M → Prop} {M : xm_M} {lv : Int32} (hP : xm_pg b 52 [(0, 0, 1), (1, 1, 2)] [(2, 48)] [(1, 0, lv)] 0 M) (h : ∀ M1, xm_pg b 53 [(51, 0, 52), (0, 0, 1), (1, 1, 2)] [(2, 48)] [(1, 0, lv)] 0 M1 → Q none M1) : xm_C l E y3_init rm3_init [.ref (b + 51)] M Q := by
  refine xm_enter (by decide) (Nat.le_of_ble_eq_true rfl) (show xm_X l E y3_init rm3_init Q 0 [(0, .ref (b + 51))] [] 0 0 M from ?_)
  refine x_aload_n d3_init_0 0 rfl rfl ?_
  refine x_objInit d3_init_1 ml3_3 oi_1 oi_2 (Nat.le_of_ble_eq_true rfl) ⟨by decide, by decide⟩ ?_
  refine x_aload_n d3_init_4 0 rfl rfl ?_
  refine x_sipush d3_init_5 qs_20000 ?_
  refine x_newa d3_init_8 rfl (by decide) rfl ac_int (by decide) (N := 20000) (by decide) (by decide) ⟨by decide, by decide⟩ ?_
  refine xm_ad (show xm_nx M = b + 52 from hP.1) ?_
  refine xm_nm (fun M2 e1 => ?_)
  have hP : xm_pg b 53 [(0, 0, 1), (1, 1, 2)] [(2, 48)] [(1, 0, lv)] 0 M2 := by rw [e1]; exact hP.new rfl (by simp) (by decide)
  refine x_putFR d3_init_10 ff3_9 rfl (fun _ _ => rfl) rfl rfl (hP.sh (k := 51) (by decide) rfl) ?_
  refine xm_nm (fun M4 e3 => ?_)
  have hP : xm_pg b 53 [(51, 0, 52), (0, 0, 1), (1, 1, 2)] [(2, 48)] [(1, 0, lv)] 0 M4 := by rw [e3]; exact hP.pr (by decide) (by decide) (by decide)
  exact x_ret (r := none) d3_init_13 xm_rN rfl ⟨by decide, by decide⟩ (h _ hP)
set_option maxRecDepth 20000 in
theorem c4_init {l : Launch} {E : xm_E} {b : Nat} {Q : Option Value → xm_M → Prop} {M : xm_M} {lv : Int32} (hP : xm_pg b 54 [(0, 1, 51), (51, 0, 52), (0, 0, 1), (1, 1, 2)] [(2, 48)] [(1, 0, lv)] 0 M) (h : ∀ M1, xm_pg b 55 [(53, 0, 54), (0, 1, 51), (51, 0, 52), (0, 0, 1), (1, 1, 2)] [(2, 48)] [(1, 0, lv)] 0 M1 → Q none M1) : xm_C l E y4_init rm4_init [.ref (b + 53)] M Q := by
  refine xm_enter (by decide) (Nat.le_of_ble_eq_true rfl) (show xm_X l E y4_init rm4_init Q 0 [(0, .ref (b + 53))] [] 0 0 M from ?_)
  refine x_aload_n d4_init_0 0 rfl rfl ?_
  refine x_objInit d4_init_1 ml4_3 oi_1 oi_2 (Nat.le_of_ble_eq_true rfl) ⟨by decide, by decide⟩ ?_
  refine x_aload_n d4_init_4 0 rfl rfl ?_
  refine x_sipush d4_init_5 qs_1024 ?_
  refine x_newa d4_init_8 rfl (by decide) rfl ac_byte (by decide) (N := 1024) (by decide) (by decide) ⟨by decide, by decide⟩ ?_
  refine xm_ad (show xm_nx M = b + 54 from hP.1) ?_
  refine xm_nm (fun M2 e1 => ?_)
  have hP : xm_pg b 55 [(0, 1, 51), (51, 0, 52), (0, 0, 1), (1, 1, 2)] [(2, 48)] [(1, 0, lv)] 0 M2 := by rw [e1]; exact hP.new rfl (by simp) (by decide)
  refine x_putFR d4_init_10 ff4_9 rfl (fun _ _ => rfl) rfl rfl (hP.sh (k := 53) (by decide) rfl) ?_
  refine xm_nm (fun M4 e3 => ?_)
  have hP : xm_pg b 55 [(53, 0, 54), (0, 1, 51), (51, 0, 52), (0, 0, 1), (1, 1, 2)] [(2, 48)] [(1, 0, lv)] 0 M4 := by rw [e3]; exact hP.pr (by decide) (by decide) (by decide)
  exact x_ret (r := none) d4_init_13 xm_rN rfl ⟨by decide, by decide⟩ (h _ hP)
set_option maxRecDepth 20000 in
theorem c6_init {l : Launch} {E : xm_E} {b : Nat} {Q : Option Value → xm_M → Prop} {M : xm_M} {lv : Int32} (hP : xm_pg b 111 [(55, 5, 109), (55, 4, 108), (55, 3, 107), (55, 2, 106), (55, 1, 105), (55, 0, 56), (0, 2, 53), (53, 0, 54), (0, 1, 51), (51, 0, 52), (0, 0, 1), (1, 1, 2)] [(56, 48), (2, 48)] [(1, 0, lv)] 0 M) (h : ∀ M1, xm_pg b 129 [(110, 8, 128), (110, 7, 127), (110, 6, 126), (110, 5, 115), (110, 3, 114), (110, 2, 113), (110, 1, 112), (110, 0, 111), (55, 5, 109), (55, 4, 108), (55, 3, 107), (55, 2, 106), (55, 1, 105), (55, 0, 56), (0, 2, 53), (53, 0, 54), (0, 1, 51), (51, 0, 52), (0, 0, 1), (1, 1, 2)] [(115, 10), (56, 48), (2, 48)] [(1, 0, lv)] 0 M1 → Q none M1) : xm_C l E y6_init rm6_init [.ref (b + 110)] M Q := by
  refine xm_enter (by decide) (Nat.le_of_ble_eq_true rfl) (show xm_X l E y6_init rm6_init Q 0 [(0, .ref (b + 110))] [] 0 0 M from ?_)
  refine x_aload_n d6_init_0 0 rfl rfl ?_
  refine x_objInit d6_init_1 ml6_3 oi_1 oi_2 (Nat.le_of_ble_eq_true rfl) ⟨by decide, by decide⟩ ?_
  refine x_aload_n d6_init_4 0 rfl rfl ?_
  refine x_sipush d6_init_5 qs_200 ?_
  refine x_newa d6_init_8 rfl (by decide) rfl ac_int (by decide) (N := 200) (by decide) (by decide) ⟨by decide, by decide⟩ ?_
  refine xm_ad (show xm_nx M = b + 111 from hP.1) ?_
  refine xm_nm (fun M2 e1 => ?_)
  have hP : xm_pg b 112 [(55, 5, 109), (55, 4, 108), (55, 3, 107), (55, 2, 106), (55, 1, 105), (55, 0, 56), (0, 2, 53), (53, 0, 54), (0, 1, 51), (51, 0, 52), (0, 0, 1), (1, 1, 2)] [(56, 48), (2, 48)] [(1, 0, lv)] 0 M2 := by rw [e1]; exact hP.new rfl (by simp) (by decide)
  refine x_putFR d6_init_10 ff6_11 rfl (fun _ _ => rfl) rfl rfl (hP.sh (k := 110) (by decide) rfl) ?_
  refine xm_nm (fun M4 e3 => ?_)
  have hP : xm_pg b 112 [(110, 0, 111), (55, 5, 109), (55, 4, 108), (55, 3, 107), (55, 2, 106), (55, 1, 105), (55, 0, 56), (0, 2, 53), (53, 0, 54), (0, 1, 51), (51, 0, 52), (0, 0, 1), (1, 1, 2)] [(56, 48), (2, 48)] [(1, 0, lv)] 0 M4 := by rw [e3]; exact hP.pr (by decide) (by decide) (by decide)
  refine x_aload_n d6_init_13 0 rfl rfl ?_
  refine x_sipush d6_init_14 qs_200 ?_
  refine x_newa d6_init_17 rfl (by decide) rfl ac_int (by decide) (N := 200) (by decide) (by decide) ⟨by decide, by decide⟩ ?_
  refine xm_ad (show xm_nx M4 = b + 112 from hP.1) ?_
  refine xm_nm (fun M6 e5 => ?_)
  have hP : xm_pg b 113 [(110, 0, 111), (55, 5, 109), (55, 4, 108), (55, 3, 107), (55, 2, 106), (55, 1, 105), (55, 0, 56), (0, 2, 53), (53, 0, 54), (0, 1, 51), (51, 0, 52), (0, 0, 1), (1, 1, 2)] [(56, 48), (2, 48)] [(1, 0, lv)] 0 M6 := by rw [e5]; exact hP.new rfl (by simp) (by decide)
  refine x_putFR d6_init_19 ff6_15 rfl (fun _ _ => rfl) rfl rfl (hP.sh (k := 110) (by decide) rfl) ?_
  refine xm_nm (fun M8 e7 => ?_)
  have hP : xm_pg b 113 [(110, 1, 112), (110, 0, 111), (55, 5, 109), (55, 4, 108), (55, 3, 107), (55, 2, 106), (55, 1, 105), (55, 0, 56), (0, 2, 53), (53, 0, 54), (0, 1, 51), (51, 0, 52), (0, 0, 1), (1, 1, 2)] [(56, 48), (2, 48)] [(1, 0, lv)] 0 M8 := by rw [e7]; exact hP.pr (by decide) (by decide) (by decide)
  refine x_aload_n d6_init_22 0 rfl rfl ?_
  refine x_sipush d6_init_23 qs_200 ?_
  refine x_newa d6_init_26 rfl (by decide) rfl ac_int (by decide) (N := 200) (by decide) (by decide) ⟨by decide, by decide⟩ ?_
  refine xm_ad (show xm_nx M8 = b + 113 from hP.1) ?_
  refine xm_nm (fun M10 e9 => ?_)
  have hP : xm_pg b 114 [(110, 1, 112), (110, 0, 111), (55, 5, 109), (55, 4, 108), (55, 3, 107), (55, 2, 106), (55, 1, 105), (55, 0, 56), (0, 2, 53), (53, 0, 54), (0, 1, 51), (51, 0, 52), (0, 0, 1), (1, 1, 2)] [(56, 48), (2, 48)] [(1, 0, lv)] 0 M10 := by rw [e9]; exact hP.new rfl (by simp) (by decide)
  refine x_putFR d6_init_28 ff6_18 rfl (fun _ _ => rfl) rfl rfl (hP.sh (k := 110) (by decide) rfl) ?_
  refine xm_nm (fun M12 e11 => ?_)
  have hP : xm_pg b 114 [(110, 2, 113), (110, 1, 112), (110, 0, 111), (55, 5, 109), (55, 4, 108), (55, 3, 107), (55, 2, 106), (55, 1, 105), (55, 0, 56), (0, 2, 53), (53, 0, 54), (0, 1, 51), (51, 0, 52), (0, 0, 1), (1, 1, 2)] [(56, 48), (2, 48)] [(1, 0, lv)] 0 M12 := by rw [e11]; exact hP.pr (by decide) (by decide) (by decide)
  refine x_aload_n d6_init_31 0 rfl rfl ?_
  refine x_sipush d6_init_32 qs_200 ?_
  refine x_newa d6_init_35 rfl (by decide) rfl ac_long (by decide) (N := 200) (by decide) (by decide) ⟨by decide, by decide⟩ ?_
  refine xm_ad (show xm_nx M12 = b + 114 from hP.1) ?_
  refine xm_nm (fun M14 e13 => ?_)
  have hP : xm_pg b 115 [(110, 2, 113), (110, 1, 112), (110, 0, 111), (55, 5, 109), (55, 4, 108), (55, 3, 107), (55, 2, 106), (55, 1, 105), (55, 0, 56), (0, 2, 53), (53, 0, 54), (0, 1, 51), (51, 0, 52), (0, 0, 1), (1, 1, 2)] [(56, 48), (2, 48)] [(1, 0, lv)] 0 M14 := by rw [e13]; exact hP.new rfl (by simp) (by decide)
  refine x_putFR d6_init_37 ff6_21 rfl (fun _ _ => rfl) rfl rfl (hP.sh (k := 110) (by decide) rfl) ?_
  refine xm_nm (fun M16 e15 => ?_)
  have hP : xm_pg b 115 [(110, 3, 114), (110, 2, 113), (110, 1, 112), (110, 0, 111), (55, 5, 109), (55, 4, 108), (55, 3, 107), (55, 2, 106), (55, 1, 105), (55, 0, 56), (0, 2, 53), (53, 0, 54), (0, 1, 51), (51, 0, 52), (0, 0, 1), (1, 1, 2)] [(56, 48), (2, 48)] [(1, 0, lv)] 0 M16 := by rw [e15]; exact hP.pr (by decide) (by decide) (by decide)
  refine x_aload_n d6_init_40 0 rfl rfl ?_
  refine x_bipush d6_init_41 qb_10 ?_
  refine x_bipush d6_init_43 qb_10 ?_
  refine x_mna d6_init_45 cl6_25 ac_long (by decide) (by decide) (N := 10) (K := 10) (by decide) (by decide) (by decide) (by decide) ⟨by decide, by decide⟩ ?_
  refine xm_ad (show xm_nx M16 = b + 115 from hP.1) ?_
  refine xm_nm (fun M18 e17 => ?_)
  have hP : xm_pg b 126 [(110, 3, 114), (110, 2, 113), (110, 1, 112), (110, 0, 111), (55, 5, 109), (55, 4, 108), (55, 3, 107), (55, 2, 106), (55, 1, 105), (55, 0, 56), (0, 2, 53), (53, 0, 54), (0, 1, 51), (51, 0, 52), (0, 0, 1), (1, 1, 2)] [(115, 10), (56, 48), (2, 48)] [(1, 0, lv)] 0 M18 := by rw [e17]; exact hP.grid rfl (by decide) (by simp) rfl
  refine x_putFR d6_init_49 ff6_27 rfl (fun _ _ => rfl) rfl rfl (hP.sh (k := 110) (by decide) rfl) ?_
  refine xm_nm (fun M20 e19 => ?_)
  have hP : xm_pg b 126 [(110, 5, 115), (110, 3, 114), (110, 2, 113), (110, 1, 112), (110, 0, 111), (55, 5, 109), (55, 4, 108), (55, 3, 107), (55, 2, 106), (55, 1, 105), (55, 0, 56), (0, 2, 53), (53, 0, 54), (0, 1, 51), (51, 0, 52), (0, 0, 1), (1, 1, 2)] [(115, 10), (56, 48), (2, 48)] [(1, 0, lv)] 0 M20 := by rw [e19]; exact hP.pr (by decide) (by decide) (by decide)
  refine x_aload_n d6_init_52 0 rfl rfl ?_
  refine x_new d6_init_53 ci6_30 ⟨by decide, by decide⟩ ?_
  refine xm_ad (show xm_nx M20 = b + 126 from hP.1) ?_
  refine xm_nm (fun M22 e21 => ?_)
  have hP : xm_pg b 127 [(110, 5, 115), (110, 3, 114), (110, 2, 113), (110, 1, 112), (110, 0, 111), (55, 5, 109), (55, 4, 108), (55, 3, 107), (55, 2, 106), (55, 1, 105), (55, 0, 56), (0, 2, 53), (53, 0, 54), (0, 1, 51), (51, 0, 52), (0, 0, 1), (1, 1, 2)] [(115, 10), (56, 48), (2, 48)] [(1, 0, lv)] 0 M22 := by rw [e21]; exact hP.new rfl (by simp) (by decide)
  refine x_dup d6_init_56 rfl ?_
  refine x_callIN (Z := y7_init) (S := rm7_init) (P := fun r M1 => r = none ∧ M1 = M22) (As := []) (b := (b + 126)) (rest := [.ref (b + 126), .ref (b + 110)]) d6_init_57 ml6_32 k7_init rfl rfl (Nat.le_of_ble_eq_true rfl) ⟨⟨by decide, by decide⟩, by decide, by decide⟩ (c7_init ⟨rfl, rfl⟩) (fun r M23 h1 => ?_)
  obtain ⟨rfl, hq⟩ := h1
  rw [hq]
  clear hq
  refine x_putFR d6_init_60 ff6_33 rfl (fun _ _ => rfl) rfl rfl (hP.sh (k := 110) (by decide) rfl) ?_
  refine xm_nm (fun M25 e24 => ?_)
  have hP : xm_pg b 127 [(110, 6, 126), (110, 5, 115), (110, 3, 114), (110, 2, 113), (110, 1, 112), (110, 0, 111), (55, 5, 109), (55, 4, 108), (55, 3, 107), (55, 2, 106), (55, 1, 105), (55, 0, 56), (0, 2, 53), (53, 0, 54), (0, 1, 51), (51, 0, 52), (0, 0, 1), (1, 1, 2)] [(115, 10), (56, 48), (2, 48)] [(1, 0, lv)] 0 M25 := by rw [e24]; exact hP.pr (by decide) (by decide) (by decide)
  refine x_aload_n d6_init_63 0 rfl rfl ?_
  refine x_new d6_init_64 ci6_30 ⟨by decide, by decide⟩ ?_
  refine xm_ad (show xm_nx M25 = b + 127 from hP.1) ?_
  refine xm_nm (fun M27 e26 => ?_)
  have hP : xm_pg b 128 [(110, 6, 126), (110, 5, 115), (110, 3, 114), (110, 2, 113), (110, 1, 112), (110, 0, 111), (55, 5, 109), (55, 4, 108), (55, 3, 107), (55, 2, 106), (55, 1, 105), (55, 0, 56), (0, 2, 53), (53, 0, 54), (0, 1, 51), (51, 0, 52), (0, 0, 1), (1, 1, 2)] [(115, 10), (56, 48), (2, 48)] [(1, 0, lv)] 0 M27 := by rw [e26]; exact hP.new rfl (by simp) (by decide)
  refine x_dup d6_init_67 rfl ?_
  refine x_callIN (Z := y7_init) (S := rm7_init) (P := fun r M1 => r = none ∧ M1 = M27) (As := []) (b := (b + 127)) (rest := [.ref (b + 127), .ref (b + 110)]) d6_init_68 ml6_32 k7_init rfl rfl (Nat.le_of_ble_eq_true rfl) ⟨⟨by decide, by decide⟩, by decide, by decide⟩ (c7_init ⟨rfl, rfl⟩) (fun r M28 h1 => ?_)
  obtain ⟨rfl, hq⟩ := h1
  rw [hq]
  clear hq
  refine x_putFR d6_init_71 ff6_37 rfl (fun _ _ => rfl) rfl rfl (hP.sh (k := 110) (by decide) rfl) ?_
  refine xm_nm (fun M30 e29 => ?_)
  have hP : xm_pg b 128 [(110, 7, 127), (110, 6, 126), (110, 5, 115), (110, 3, 114), (110, 2, 113), (110, 1, 112), (110, 0, 111), (55, 5, 109), (55, 4, 108), (55, 3, 107), (55, 2, 106), (55, 1, 105), (55, 0, 56), (0, 2, 53), (53, 0, 54), (0, 1, 51), (51, 0, 52), (0, 0, 1), (1, 1, 2)] [(115, 10), (56, 48), (2, 48)] [(1, 0, lv)] 0 M30 := by rw [e29]; exact hP.pr (by decide) (by decide) (by decide)
  refine x_aload_n d6_init_74 0 rfl rfl ?_
  refine x_new d6_init_75 ci6_30 ⟨by decide, by decide⟩ ?_
  refine xm_ad (show xm_nx M30 = b + 128 from hP.1) ?_
  refine xm_nm (fun M32 e31 => ?_)
  have hP : xm_pg b 129 [(110, 7, 127), (110, 6, 126), (110, 5, 115), (110, 3, 114), (110, 2, 113), (110, 1, 112), (110, 0, 111), (55, 5, 109), (55, 4, 108), (55, 3, 107), (55, 2, 106), (55, 1, 105), (55, 0, 56), (0, 2, 53), (53, 0, 54), (0, 1, 51), (51, 0, 52), (0, 0, 1), (1, 1, 2)] [(115, 10), (56, 48), (2, 48)] [(1, 0, lv)] 0 M32 := by rw [e31]; exact hP.new rfl (by simp) (by decide)
  refine x_dup d6_init_78 rfl ?_
  refine x_callIN (Z := y7_init) (S := rm7_init) (P := fun r M1 => r = none ∧ M1 = M32) (As := []) (b := (b + 128)) (rest := [.ref (b + 128), .ref (b + 110)]) d6_init_79 ml6_32 k7_init rfl rfl (Nat.le_of_ble_eq_true rfl) ⟨⟨by decide, by decide⟩, by decide, by decide⟩ (c7_init ⟨rfl, rfl⟩) (fun r M33 h1 => ?_)
  obtain ⟨rfl, hq⟩ := h1
  rw [hq]
  clear hq
  refine x_putFR d6_init_82 ff6_40 rfl (fun _ _ => rfl) rfl rfl (hP.sh (k := 110) (by decide) rfl) ?_
  refine xm_nm (fun M35 e34 => ?_)
  have hP : xm_pg b 129 [(110, 8, 128), (110, 7, 127), (110, 6, 126), (110, 5, 115), (110, 3, 114), (110, 2, 113), (110, 1, 112), (110, 0, 111), (55, 5, 109), (55, 4, 108), (55, 3, 107), (55, 2, 106), (55, 1, 105), (55, 0, 56), (0, 2, 53), (53, 0, 54), (0, 1, 51), (51, 0, 52), (0, 0, 1), (1, 1, 2)] [(115, 10), (56, 48), (2, 48)] [(1, 0, lv)] 0 M35 := by rw [e34]; exact hP.pr (by decide) (by decide) (by decide)
  exact x_ret (r := none) d6_init_85 xm_rN rfl ⟨by decide, by decide⟩ (h _ hP)
set_option maxRecDepth 20000 in
theorem c8_init {l : Launch} {E : xm_E} {b : Nat} {Q : Option Value → xm_M → Prop} {M : xm_M} {lv : Int32} (hP : xm_pg b 130 [(55, 6, 110), (110, 8, 128), (110, 7, 127), (110, 6, 126), (110, 5, 115), (110, 3, 114), (110, 2, 113), (110, 1, 112), (110, 0, 111), (55, 5, 109), (55, 4, 108), (55, 3, 107), (55, 2, 106), (55, 1, 105), (55, 0, 56), (0, 2, 53), (53, 0, 54), (0, 1, 51), (51, 0, 52), (0, 0, 1), (1, 1, 2)] [(115, 10), (56, 48), (2, 48)] [(1, 0, lv)] 0 M) (h : ∀ M1, xm_pg b 145 [(129, 1, 144), (129, 0, 130), (55, 6, 110), (110, 8, 128), (110, 7, 127), (110, 6, 126), (110, 5, 115), (110, 3, 114), (110, 2, 113), (110, 1, 112), (110, 0, 111), (55, 5, 109), (55, 4, 108), (55, 3, 107), (55, 2, 106), (55, 1, 105), (55, 0, 56), (0, 2, 53), (53, 0, 54), (0, 1, 51), (51, 0, 52), (0, 0, 1), (1, 1, 2)] [(130, 13), (115, 10), (56, 48), (2, 48)] [(1, 0, lv)] 0 M1 → Q none M1) : xm_C l E y8_init rm8_init [.ref (b + 129)] M Q := by
  refine xm_enter (by decide) (Nat.le_of_ble_eq_true rfl) (show xm_X l E y8_init rm8_init Q 0 [(0, .ref (b + 129))] [] 0 0 M from ?_)
  refine x_aload_n d8_init_0 0 rfl rfl ?_
  refine x_objInit d8_init_1 ml8_3 oi_1 oi_2 (Nat.le_of_ble_eq_true rfl) ⟨by decide, by decide⟩ ?_
  refine x_aload_n d8_init_4 0 rfl rfl ?_
  refine x_bipush d8_init_5 qb_13 ?_
  refine x_bipush d8_init_7 qb_10 ?_
  refine x_mna d8_init_9 cl8_9 ac_long (by decide) (by decide) (N := 13) (K := 10) (by decide) (by decide) (by decide) (by decide) ⟨by decide, by decide⟩ ?_
  refine xm_ad (show xm_nx M = b + 130 from hP.1) ?_
  refine xm_nm (fun M2 e1 => ?_)
  have hP : xm_pg b 144 [(55, 6, 110), (110, 8, 128), (110, 7, 127), (110, 6, 126), (110, 5, 115), (110, 3, 114), (110, 2, 113), (110, 1, 112), (110, 0, 111), (55, 5, 109), (55, 4, 108), (55, 3, 107), (55, 2, 106), (55, 1, 105), (55, 0, 56), (0, 2, 53), (53, 0, 54), (0, 1, 51), (51, 0, 52), (0, 0, 1), (1, 1, 2)] [(130, 13), (115, 10), (56, 48), (2, 48)] [(1, 0, lv)] 0 M2 := by rw [e1]; exact hP.grid rfl (by decide) (by simp) rfl
  refine x_putFR d8_init_13 ff8_11 rfl (fun _ _ => rfl) rfl rfl (hP.sh (k := 129) (by decide) rfl) ?_
  refine xm_nm (fun M4 e3 => ?_)
  have hP : xm_pg b 144 [(129, 0, 130), (55, 6, 110), (110, 8, 128), (110, 7, 127), (110, 6, 126), (110, 5, 115), (110, 3, 114), (110, 2, 113), (110, 1, 112), (110, 0, 111), (55, 5, 109), (55, 4, 108), (55, 3, 107), (55, 2, 106), (55, 1, 105), (55, 0, 56), (0, 2, 53), (53, 0, 54), (0, 1, 51), (51, 0, 52), (0, 0, 1), (1, 1, 2)] [(130, 13), (115, 10), (56, 48), (2, 48)] [(1, 0, lv)] 0 M4 := by rw [e3]; exact hP.pr (by decide) (by decide) (by decide)
  refine x_aload_n d8_init_16 0 rfl rfl ?_
  refine x_bipush d8_init_17 qb_12 ?_
  refine x_newa d8_init_19 rfl (by decide) rfl ac_int (by decide) (N := 12) (by decide) (by decide) ⟨by decide, by decide⟩ ?_
  refine xm_ad (show xm_nx M4 = b + 144 from hP.1) ?_
  refine xm_nm (fun M6 e5 => ?_)
  have hP : xm_pg b 145 [(129, 0, 130), (55, 6, 110), (110, 8, 128), (110, 7, 127), (110, 6, 126), (110, 5, 115), (110, 3, 114), (110, 2, 113), (110, 1, 112), (110, 0, 111), (55, 5, 109), (55, 4, 108), (55, 3, 107), (55, 2, 106), (55, 1, 105), (55, 0, 56), (0, 2, 53), (53, 0, 54), (0, 1, 51), (51, 0, 52), (0, 0, 1), (1, 1, 2)] [(130, 13), (115, 10), (56, 48), (2, 48)] [(1, 0, lv)] 0 M6 := by rw [e5]; exact hP.new rfl (by simp) (by decide)
  refine x_putFR d8_init_21 ff8_16 rfl (fun _ _ => rfl) rfl rfl (hP.sh (k := 129) (by decide) rfl) ?_
  refine xm_nm (fun M8 e7 => ?_)
  have hP : xm_pg b 145 [(129, 1, 144), (129, 0, 130), (55, 6, 110), (110, 8, 128), (110, 7, 127), (110, 6, 126), (110, 5, 115), (110, 3, 114), (110, 2, 113), (110, 1, 112), (110, 0, 111), (55, 5, 109), (55, 4, 108), (55, 3, 107), (55, 2, 106), (55, 1, 105), (55, 0, 56), (0, 2, 53), (53, 0, 54), (0, 1, 51), (51, 0, 52), (0, 0, 1), (1, 1, 2)] [(130, 13), (115, 10), (56, 48), (2, 48)] [(1, 0, lv)] 0 M8 := by rw [e7]; exact hP.pr (by decide) (by decide) (by decide)
  exact x_ret (r := none) d8_init_24 xm_rN rfl ⟨by decide, by decide⟩ (h _ hP)
theorem xS_R : ∀ t, t < 48 → xS_o (57 + t) = some (.inl (100, .long)) := by decide
/-- one more row of bounds is filled -/
theorem xm_pg.fillr {b n r : Nat} {ps : List (Nat × Nat × Nat)} {gs : List (Nat × Nat)} {vs : List (Nat × Nat × Int32)} {M : xm_M} (h : xm_pg b n ps gs vs r M) : xm_pg b n ps gs vs (r + 1) (xm_fl_J M (b + 57 + r) 100 4611686018427387904) := by
  obtain ⟨h1, h2, h3, h4, h5, h6⟩ := h
  refine ⟨h1, h2, h3, h4, h5, fun a j => ?_⟩
  show (if a = b + 57 + r ∧ j < 100 then (4611686018427387904 : Int64) else M.2.2.1 a j) = _
  by_cases e : a = b + 57 + r ∧ j < 100
  · rw [if_pos e, if_pos (by omega)]
  · rw [if_neg e]
    refine (h6 a j).trans ?_
    by_cases e2 : b + 57 ≤ a ∧ a < b + 57 + r ∧ j < 100
    · rw [if_pos e2, if_pos (by omega)]
    · rw [if_neg e2, if_neg (by omega)]
set_option maxRecDepth 20000 in
theorem c5_loop {l : Launch} {E : xm_E} {b : Nat} {Q : Option Value → xm_M → Prop} {lv : Int32} {cs sl : Nat} (hcs : cs ≤ rm5_init.cells ∧ sl ≤ rm5_init.slots) (h : ∀ M1, xm_pg b 145 [(55, 7, 129), (129, 1, 144), (129, 0, 130), (55, 6, 110), (110, 8, 128), (110, 7, 127), (110, 6, 126), (110, 5, 115), (110, 3, 114), (110, 2, 113), (110, 1, 112), (110, 0, 111), (55, 5, 109), (55, 4, 108), (55, 3, 107), (55, 2, 106), (55, 1, 105), (55, 0, 56), (0, 2, 53), (53, 0, 54), (0, 1, 51), (51, 0, 52), (0, 0, 1), (1, 1, 2)] [(130, 13), (115, 10), (56, 48), (2, 48)] [(1, 0, lv)] 48 M1 → Q none M1) : ∀ (k t : Nat) (M : xm_M), t + k = 48 → xm_pg b 145 [(55, 7, 129), (129, 1, 144), (129, 0, 130), (55, 6, 110), (110, 8, 128), (110, 7, 127), (110, 6, 126), (110, 5, 115), (110, 3, 114), (110, 2, 113), (110, 1, 112), (110, 0, 111), (55, 5, 109), (55, 4, 108), (55, 3, 107), (55, 2, 106), (55, 1, 105), (55, 0, 56), (0, 2, 53), (53, 0, 54), (0, 1, 51), (51, 0, 52), (0, 0, 1), (1, 1, 2)] [(130, 13), (115, 10), (56, 48), (2, 48)] [(1, 0, lv)] t M → xm_X l E y5_init rm5_init Q 81 [(0, .ref (b + 55)), (1, .int (Int32.ofNat t))] [] cs sl M := by
  intro k
  induction k with
  | zero =>
    intro t M ht hP
    have ht : t = 48 := by omega
    subst ht
    refine x_iload_n d5_init_81 1 rfl rfl ?_
    refine x_bipush d5_init_82 qb_48 ?_
    refine x_icmp_ge d5_init_84 (t := 105) (by decide) (fun g => ?_) (fun g => absurd (by decide) g)
    exact x_ret (r := none) d5_init_105 xm_rN rfl hcs (h _ hP)
  | succ k ih =>
    intro t M ht hP
    have ht2 : t < 48 := by omega
    refine x_iload_n d5_init_81 1 rfl rfl ?_
    refine x_bipush d5_init_82 qb_48 ?_
    refine x_icmp_ge d5_init_84 (t := 105) (by decide) (fun g => absurd ((xn_le (a := 48) (by omega) (by omega)).mp g) (by omega)) (fun _ => ?_)
    refine x_aload_n d5_init_87 0 rfl rfl ?_
    refine x_getR d5_init_88 fl5_11 (fun _ _ => rfl) (hP.sh (k := 55) (by decide) rfl) ((hP.2.2.1 (55, 0, 56) (by simp)).2) ?_
    refine x_iload_n d5_init_91 1 rfl rfl ?_
    refine x_aald d5_init_92 (hP.sh (k := 56) (by decide) rfl) (by decide) rfl (xn_in ht2 (by omega)) (q := b + 57 + t) (by rw [xn_c (by omega)]; exact (hP.2.2.2.1 (56, 48) (by simp)).2 t ht2) ?_
    refine x_ldc2 d5_init_93 lc5_47 ?_
    refine x_cSN (Z := yr_fill_J) (S := rmr_fill_J) (P := fun M1 => M1 = xm_fl_J M (b + 57 + t) 100 4611686018427387904) (As := [.ref (b + 57 + t), .long 4611686018427387904]) (rest := []) d5_init_96 ml5_49 kr_fill_J rfl rfl (Nat.le_of_ble_eq_true rfl) ⟨⟨by decide, by decide⟩, by show cs + 0 ≤ _; omega, by show sl + 0 ≤ _; omega⟩ ⟨rfl, rfl⟩ (s_fill_J (n := 100) (by
      have := hP.2.1 (57 + t) (by omega)
      rw [← Nat.add_assoc] at this
      rw [this]
      exact xS_R t ht2) (by decide) ⟨rfl, rfl⟩) (fun M1 e1 => ?_)
    subst e1
    have hP2 := hP.fillr
    refine x_iinc d5_init_99 1 rfl (v := Int32.ofNat (t + 1)) (xn_s t) (by decide) (L' := [(1, .int (Int32.ofNat (t + 1))), (0, .ref (b + 55))]) rfl ?_
    refine x_goto d5_init_102 (t := 81) (by decide) ?_
    exact xm_X.sub [1, 0] rfl (ih (t + 1) _ (by omega) hP2)
set_option maxRecDepth 20000 in
theorem c5_init {l : Launch} {E : xm_E} {b : Nat} {Q : Option Value → xm_M → Prop} {M : xm_M} {lv : Int32} (hP : xm_pg b 56 [(0, 2, 53), (53, 0, 54), (0, 1, 51), (51, 0, 52), (0, 0, 1), (1, 1, 2)] [(2, 48)] [(1, 0, lv)] 0 M) (h : ∀ M1, xm_pg b 145 [(55, 7, 129), (129, 1, 144), (129, 0, 130), (55, 6, 110), (110, 8, 128), (110, 7, 127), (110, 6, 126), (110, 5, 115), (110, 3, 114), (110, 2, 113), (110, 1, 112), (110, 0, 111), (55, 5, 109), (55, 4, 108), (55, 3, 107), (55, 2, 106), (55, 1, 105), (55, 0, 56), (0, 2, 53), (53, 0, 54), (0, 1, 51), (51, 0, 52), (0, 0, 1), (1, 1, 2)] [(130, 13), (115, 10), (56, 48), (2, 48)] [(1, 0, lv)] 48 M1 → Q none M1) : xm_C l E y5_init rm5_init [.ref (b + 55)] M Q := by
  refine xm_enter (by decide) (Nat.le_of_ble_eq_true rfl) (show xm_X l E y5_init rm5_init Q 0 [(0, .ref (b + 55))] [] 0 0 M from ?_)
  refine x_aload_n d5_init_0 0 rfl rfl ?_
  refine x_objInit d5_init_1 ml5_3 oi_1 oi_2 (Nat.le_of_ble_eq_true rfl) ⟨by decide, by decide⟩ ?_
  refine x_aload_n d5_init_4 0 rfl rfl ?_
  refine x_bipush d5_init_5 qb_48 ?_
  refine x_bipush d5_init_7 qb_100 ?_
  refine x_mna d5_init_9 cl5_9 ac_long (by decide) (by decide) (N := 48) (K := 100) (by decide) (by decide) (by decide) (by decide) ⟨by decide, by decide⟩ ?_
  refine xm_ad (show xm_nx M = b + 56 from hP.1) ?_
  refine xm_nm (fun M2 e1 => ?_)
  have hP : xm_pg b 105 [(0, 2, 53), (53, 0, 54), (0, 1, 51), (51, 0, 52), (0, 0, 1), (1, 1, 2)] [(56, 48), (2, 48)] [(1, 0, lv)] 0 M2 := by rw [e1]; exact hP.grid rfl (by decide) (by simp) rfl
  refine x_putFR d5_init_13 ff5_11 rfl (fun _ _ => rfl) rfl rfl (hP.sh (k := 55) (by decide) rfl) ?_
  refine xm_nm (fun M4 e3 => ?_)
  have hP : xm_pg b 105 [(55, 0, 56), (0, 2, 53), (53, 0, 54), (0, 1, 51), (51, 0, 52), (0, 0, 1), (1, 1, 2)] [(56, 48), (2, 48)] [(1, 0, lv)] 0 M4 := by rw [e3]; exact hP.pr (by decide) (by decide) (by decide)
  refine x_aload_n d5_init_16 0 rfl rfl ?_
  refine x_bipush d5_init_17 qb_48 ?_
  refine x_newa d5_init_19 rfl (by decide) rfl ac_boolean (by decide) (N := 48) (by decide) (by decide) ⟨by decide, by decide⟩ ?_
  refine xm_ad (show xm_nx M4 = b + 105 from hP.1) ?_
  refine xm_nm (fun M6 e5 => ?_)
  have hP : xm_pg b 106 [(55, 0, 56), (0, 2, 53), (53, 0, 54), (0, 1, 51), (51, 0, 52), (0, 0, 1), (1, 1, 2)] [(56, 48), (2, 48)] [(1, 0, lv)] 0 M6 := by rw [e5]; exact hP.new rfl (by simp) (by decide)
  refine x_putFR d5_init_21 ff5_16 rfl (fun _ _ => rfl) rfl rfl (hP.sh (k := 55) (by decide) rfl) ?_
  refine xm_nm (fun M8 e7 => ?_)
  have hP : xm_pg b 106 [(55, 1, 105), (55, 0, 56), (0, 2, 53), (53, 0, 54), (0, 1, 51), (51, 0, 52), (0, 0, 1), (1, 1, 2)] [(56, 48), (2, 48)] [(1, 0, lv)] 0 M8 := by rw [e7]; exact hP.pr (by decide) (by decide) (by decide)
  refine x_aload_n d5_init_24 0 rfl rfl ?_
  refine x_bipush d5_init_25 qb_96 ?_
  refine x_newa d5_init_27 rfl (by decide) rfl ac_boolean (by decide) (N := 96) (by decide) (by decide) ⟨by decide, by decide⟩ ?_
  refine xm_ad (show xm_nx M8 = b + 106 from hP.1) ?_
  refine xm_nm (fun M10 e9 => ?_)
  have hP : xm_pg b 107 [(55, 1, 105), (55, 0, 56), (0, 2, 53), (53, 0, 54), (0, 1, 51), (51, 0, 52), (0, 0, 1), (1, 1, 2)] [(56, 48), (2, 48)] [(1, 0, lv)] 0 M10 := by rw [e9]; exact hP.new rfl (by simp) (by decide)
  refine x_putFR d5_init_29 ff5_20 rfl (fun _ _ => rfl) rfl rfl (hP.sh (k := 55) (by decide) rfl) ?_
  refine xm_nm (fun M12 e11 => ?_)
  have hP : xm_pg b 107 [(55, 2, 106), (55, 1, 105), (55, 0, 56), (0, 2, 53), (53, 0, 54), (0, 1, 51), (51, 0, 52), (0, 0, 1), (1, 1, 2)] [(56, 48), (2, 48)] [(1, 0, lv)] 0 M12 := by rw [e11]; exact hP.pr (by decide) (by decide) (by decide)
  refine x_aload_n d5_init_32 0 rfl rfl ?_
  refine x_sipush d5_init_33 qs_4800 ?_
  refine x_newa d5_init_36 rfl (by decide) rfl ac_boolean (by decide) (N := 4800) (by decide) (by decide) ⟨by decide, by decide⟩ ?_
  refine xm_ad (show xm_nx M12 = b + 107 from hP.1) ?_
  refine xm_nm (fun M14 e13 => ?_)
  have hP : xm_pg b 108 [(55, 2, 106), (55, 1, 105), (55, 0, 56), (0, 2, 53), (53, 0, 54), (0, 1, 51), (51, 0, 52), (0, 0, 1), (1, 1, 2)] [(56, 48), (2, 48)] [(1, 0, lv)] 0 M14 := by rw [e13]; exact hP.new rfl (by simp) (by decide)
  refine x_putFR d5_init_38 ff5_23 rfl (fun _ _ => rfl) rfl rfl (hP.sh (k := 55) (by decide) rfl) ?_
  refine xm_nm (fun M16 e15 => ?_)
  have hP : xm_pg b 108 [(55, 3, 107), (55, 2, 106), (55, 1, 105), (55, 0, 56), (0, 2, 53), (53, 0, 54), (0, 1, 51), (51, 0, 52), (0, 0, 1), (1, 1, 2)] [(56, 48), (2, 48)] [(1, 0, lv)] 0 M16 := by rw [e15]; exact hP.pr (by decide) (by decide) (by decide)
  refine x_aload_n d5_init_41 0 rfl rfl ?_
  refine x_bipush d5_init_42 qb_48 ?_
  refine x_newa d5_init_44 rfl (by decide) rfl ac_int (by decide) (N := 48) (by decide) (by decide) ⟨by decide, by decide⟩ ?_
  refine xm_ad (show xm_nx M16 = b + 108 from hP.1) ?_
  refine xm_nm (fun M18 e17 => ?_)
  have hP : xm_pg b 109 [(55, 3, 107), (55, 2, 106), (55, 1, 105), (55, 0, 56), (0, 2, 53), (53, 0, 54), (0, 1, 51), (51, 0, 52), (0, 0, 1), (1, 1, 2)] [(56, 48), (2, 48)] [(1, 0, lv)] 0 M18 := by rw [e17]; exact hP.new rfl (by simp) (by decide)
  refine x_putFR d5_init_46 ff5_26 rfl (fun _ _ => rfl) rfl rfl (hP.sh (k := 55) (by decide) rfl) ?_
  refine xm_nm (fun M20 e19 => ?_)
  have hP : xm_pg b 109 [(55, 4, 108), (55, 3, 107), (55, 2, 106), (55, 1, 105), (55, 0, 56), (0, 2, 53), (53, 0, 54), (0, 1, 51), (51, 0, 52), (0, 0, 1), (1, 1, 2)] [(56, 48), (2, 48)] [(1, 0, lv)] 0 M20 := by rw [e19]; exact hP.pr (by decide) (by decide) (by decide)
  refine x_aload_n d5_init_49 0 rfl rfl ?_
  refine x_bipush d5_init_50 qb_100 ?_
  refine x_newa d5_init_52 rfl (by decide) rfl ac_int (by decide) (N := 100) (by decide) (by decide) ⟨by decide, by decide⟩ ?_
  refine xm_ad (show xm_nx M20 = b + 109 from hP.1) ?_
  refine xm_nm (fun M22 e21 => ?_)
  have hP : xm_pg b 110 [(55, 4, 108), (55, 3, 107), (55, 2, 106), (55, 1, 105), (55, 0, 56), (0, 2, 53), (53, 0, 54), (0, 1, 51), (51, 0, 52), (0, 0, 1), (1, 1, 2)] [(56, 48), (2, 48)] [(1, 0, lv)] 0 M22 := by rw [e21]; exact hP.new rfl (by simp) (by decide)
  refine x_putFR d5_init_54 ff5_30 rfl (fun _ _ => rfl) rfl rfl (hP.sh (k := 55) (by decide) rfl) ?_
  refine xm_nm (fun M24 e23 => ?_)
  have hP : xm_pg b 110 [(55, 5, 109), (55, 4, 108), (55, 3, 107), (55, 2, 106), (55, 1, 105), (55, 0, 56), (0, 2, 53), (53, 0, 54), (0, 1, 51), (51, 0, 52), (0, 0, 1), (1, 1, 2)] [(56, 48), (2, 48)] [(1, 0, lv)] 0 M24 := by rw [e23]; exact hP.pr (by decide) (by decide) (by decide)
  refine x_aload_n d5_init_57 0 rfl rfl ?_
  refine x_new d5_init_58 ci5_33 ⟨by decide, by decide⟩ ?_
  refine xm_ad (show xm_nx M24 = b + 110 from hP.1) ?_
  refine xm_nm (fun M26 e25 => ?_)
  have hP : xm_pg b 111 [(55, 5, 109), (55, 4, 108), (55, 3, 107), (55, 2, 106), (55, 1, 105), (55, 0, 56), (0, 2, 53), (53, 0, 54), (0, 1, 51), (51, 0, 52), (0, 0, 1), (1, 1, 2)] [(56, 48), (2, 48)] [(1, 0, lv)] 0 M26 := by rw [e25]; exact hP.new rfl (by simp) (by decide)
  refine x_dup d5_init_61 rfl ?_
  refine x_callIN (Z := y6_init) (S := rm6_init) (P := fun r M1 => r = none ∧ xm_pg b 129 [(110, 8, 128), (110, 7, 127), (110, 6, 126), (110, 5, 115), (110, 3, 114), (110, 2, 113), (110, 1, 112), (110, 0, 111), (55, 5, 109), (55, 4, 108), (55, 3, 107), (55, 2, 106), (55, 1, 105), (55, 0, 56), (0, 2, 53), (53, 0, 54), (0, 1, 51), (51, 0, 52), (0, 0, 1), (1, 1, 2)] [(115, 10), (56, 48), (2, 48)] [(1, 0, lv)] 0 M1) (As := []) (b := (b + 110)) (rest := [.ref (b + 110), .ref (b + 55)]) d5_init_62 ml5_35 k6_init rfl rfl (Nat.le_of_ble_eq_true rfl) ⟨⟨by decide, by decide⟩, by decide, by decide⟩ (c6_init  hP (fun M1 hP => ⟨rfl, hP⟩)) (fun r M27 h1 => ?_)
  obtain ⟨rfl, hP⟩ := h1
  refine x_putFR d5_init_65 ff5_36 rfl (fun _ _ => rfl) rfl rfl (hP.sh (k := 55) (by decide) rfl) ?_
  refine xm_nm (fun M29 e28 => ?_)
  have hP : xm_pg b 129 [(55, 6, 110), (110, 8, 128), (110, 7, 127), (110, 6, 126), (110, 5, 115), (110, 3, 114), (110, 2, 113), (110, 1, 112), (110, 0, 111), (55, 5, 109), (55, 4, 108), (55, 3, 107), (55, 2, 106), (55, 1, 105), (55, 0, 56), (0, 2, 53), (53, 0, 54), (0, 1, 51), (51, 0, 52), (0, 0, 1), (1, 1, 2)] [(115, 10), (56, 48), (2, 48)] [(1, 0, lv)] 0 M29 := by rw [e28]; exact hP.pr (by decide) (by decide) (by decide)
  refine x_aload_n d5_init_68 0 rfl rfl ?_
  refine x_new d5_init_69 ci5_40 ⟨by decide, by decide⟩ ?_
  refine xm_ad (show xm_nx M29 = b + 129 from hP.1) ?_
  refine xm_nm (fun M31 e30 => ?_)
  have hP : xm_pg b 130 [(55, 6, 110), (110, 8, 128), (110, 7, 127), (110, 6, 126), (110, 5, 115), (110, 3, 114), (110, 2, 113), (110, 1, 112), (110, 0, 111), (55, 5, 109), (55, 4, 108), (55, 3, 107), (55, 2, 106), (55, 1, 105), (55, 0, 56), (0, 2, 53), (53, 0, 54), (0, 1, 51), (51, 0, 52), (0, 0, 1), (1, 1, 2)] [(115, 10), (56, 48), (2, 48)] [(1, 0, lv)] 0 M31 := by rw [e30]; exact hP.new rfl (by simp) (by decide)
  refine x_dup d5_init_72 rfl ?_
  refine x_callIN (Z := y8_init) (S := rm8_init) (P := fun r M1 => r = none ∧ xm_pg b 145 [(129, 1, 144), (129, 0, 130), (55, 6, 110), (110, 8, 128), (110, 7, 127), (110, 6, 126), (110, 5, 115), (110, 3, 114), (110, 2, 113), (110, 1, 112), (110, 0, 111), (55, 5, 109), (55, 4, 108), (55, 3, 107), (55, 2, 106), (55, 1, 105), (55, 0, 56), (0, 2, 53), (53, 0, 54), (0, 1, 51), (51, 0, 52), (0, 0, 1), (1, 1, 2)] [(130, 13), (115, 10), (56, 48), (2, 48)] [(1, 0, lv)] 0 M1) (As := []) (b := (b + 129)) (rest := [.ref (b + 129), .ref (b + 55)]) d5_init_73 ml5_42 k8_init rfl rfl (Nat.le_of_ble_eq_true rfl) ⟨⟨by decide, by decide⟩, by decide, by decide⟩ (c8_init  hP (fun M1 hP => ⟨rfl, hP⟩)) (fun r M32 h1 => ?_)
  obtain ⟨rfl, hP⟩ := h1
  refine x_putFR d5_init_76 ff5_43 rfl (fun _ _ => rfl) rfl rfl (hP.sh (k := 55) (by decide) rfl) ?_
  refine xm_nm (fun M34 e33 => ?_)
  have hP : xm_pg b 145 [(55, 7, 129), (129, 1, 144), (129, 0, 130), (55, 6, 110), (110, 8, 128), (110, 7, 127), (110, 6, 126), (110, 5, 115), (110, 3, 114), (110, 2, 113), (110, 1, 112), (110, 0, 111), (55, 5, 109), (55, 4, 108), (55, 3, 107), (55, 2, 106), (55, 1, 105), (55, 0, 56), (0, 2, 53), (53, 0, 54), (0, 1, 51), (51, 0, 52), (0, 0, 1), (1, 1, 2)] [(130, 13), (115, 10), (56, 48), (2, 48)] [(1, 0, lv)] 0 M34 := by rw [e33]; exact hP.pr (by decide) (by decide) (by decide)
  refine x_iconst d5_init_79 qi_0 ?_
  refine x_istore_n d5_init_80 rfl (by decide) (L' := [(1, .int (0 : Int32)), (0, .ref (b + 55))]) rfl ?_
  exact xm_X.sub [1, 0] rfl (c5_loop ⟨by decide, by decide⟩ h 48 0 M34 rfl hP)

set_option maxRecDepth 20000 in
theorem c9_init {l : Launch} {E : xm_E} {b : Nat} {Q : Option Value → xm_M → Prop} {M : xm_M} {lv : Int32} (hP : xm_pg b 146 [(0, 3, 55), (55, 7, 129), (129, 1, 144), (129, 0, 130), (55, 6, 110), (110, 8, 128), (110, 7, 127), (110, 6, 126), (110, 5, 115), (110, 3, 114), (110, 2, 113), (110, 1, 112), (110, 0, 111), (55, 5, 109), (55, 4, 108), (55, 3, 107), (55, 2, 106), (55, 1, 105), (55, 0, 56), (0, 2, 53), (53, 0, 54), (0, 1, 51), (51, 0, 52), (0, 0, 1), (1, 1, 2)] [(130, 13), (115, 10), (56, 48), (2, 48)] [(1, 0, lv)] 48 M) (h : ∀ M1, xm_pg b 151 [(145, 4, 150), (145, 3, 149), (145, 2, 148), (145, 1, 147), (145, 0, 146), (0, 3, 55), (55, 7, 129), (129, 1, 144), (129, 0, 130), (55, 6, 110), (110, 8, 128), (110, 7, 127), (110, 6, 126), (110, 5, 115), (110, 3, 114), (110, 2, 113), (110, 1, 112), (110, 0, 111), (55, 5, 109), (55, 4, 108), (55, 3, 107), (55, 2, 106), (55, 1, 105), (55, 0, 56), (0, 2, 53), (53, 0, 54), (0, 1, 51), (51, 0, 52), (0, 0, 1), (1, 1, 2)] [(130, 13), (115, 10), (56, 48), (2, 48)] [(1, 0, lv)] 48 M1 → Q none M1) : xm_C l E y9_init rm9_init [.ref (b + 145)] M Q := by
  refine xm_enter (by decide) (Nat.le_of_ble_eq_true rfl) (show xm_X l E y9_init rm9_init Q 0 [(0, .ref (b + 145))] [] 0 0 M from ?_)
  refine x_aload_n d9_init_0 0 rfl rfl ?_
  refine x_objInit d9_init_1 ml9_3 oi_1 oi_2 (Nat.le_of_ble_eq_true rfl) ⟨by decide, by decide⟩ ?_
  refine x_aload_n d9_init_4 0 rfl rfl ?_
  refine x_bipush d9_init_5 qb_48 ?_
  refine x_newa d9_init_7 rfl (by decide) rfl ac_int (by decide) (N := 48) (by decide) (by decide) ⟨by decide, by decide⟩ ?_
  refine xm_ad (show xm_nx M = b + 146 from hP.1) ?_
  refine xm_nm (fun M2 e1 => ?_)
  have hP : xm_pg b 147 [(0, 3, 55), (55, 7, 129), (129, 1, 144), (129, 0, 130), (55, 6, 110), (110, 8, 128), (110, 7, 127), (110, 6, 126), (110, 5, 115), (110, 3, 114), (110, 2, 113), (110, 1, 112), (110, 0, 111), (55, 5, 109), (55, 4, 108), (55, 3, 107), (55, 2, 106), (55, 1, 105), (55, 0, 56), (0, 2, 53), (53, 0, 54), (0, 1, 51), (51, 0, 52), (0, 0, 1), (1, 1, 2)] [(130, 13), (115, 10), (56, 48), (2, 48)] [(1, 0, lv)] 48 M2 := by rw [e1]; exact hP.new rfl (by simp) (by decide)
  refine x_putFR d9_init_9 ff9_9 rfl (fun _ _ => rfl) rfl rfl (hP.sh (k := 145) (by decide) rfl) ?_
  refine xm_nm (fun M4 e3 => ?_)
  have hP : xm_pg b 147 [(145, 0, 146), (0, 3, 55), (55, 7, 129), (129, 1, 144), (129, 0, 130), (55, 6, 110), (110, 8, 128), (110, 7, 127), (110, 6, 126), (110, 5, 115), (110, 3, 114), (110, 2, 113), (110, 1, 112), (110, 0, 111), (55, 5, 109), (55, 4, 108), (55, 3, 107), (55, 2, 106), (55, 1, 105), (55, 0, 56), (0, 2, 53), (53, 0, 54), (0, 1, 51), (51, 0, 52), (0, 0, 1), (1, 1, 2)] [(130, 13), (115, 10), (56, 48), (2, 48)] [(1, 0, lv)] 48 M4 := by rw [e3]; exact hP.pr (by decide) (by decide) (by decide)
  refine x_aload_n d9_init_12 0 rfl rfl ?_
  refine x_bipush d9_init_13 qb_48 ?_
  refine x_newa d9_init_15 rfl (by decide) rfl ac_int (by decide) (N := 48) (by decide) (by decide) ⟨by decide, by decide⟩ ?_
  refine xm_ad (show xm_nx M4 = b + 147 from hP.1) ?_
  refine xm_nm (fun M6 e5 => ?_)
  have hP : xm_pg b 148 [(145, 0, 146), (0, 3, 55), (55, 7, 129), (129, 1, 144), (129, 0, 130), (55, 6, 110), (110, 8, 128), (110, 7, 127), (110, 6, 126), (110, 5, 115), (110, 3, 114), (110, 2, 113), (110, 1, 112), (110, 0, 111), (55, 5, 109), (55, 4, 108), (55, 3, 107), (55, 2, 106), (55, 1, 105), (55, 0, 56), (0, 2, 53), (53, 0, 54), (0, 1, 51), (51, 0, 52), (0, 0, 1), (1, 1, 2)] [(130, 13), (115, 10), (56, 48), (2, 48)] [(1, 0, lv)] 48 M6 := by rw [e5]; exact hP.new rfl (by simp) (by decide)
  refine x_putFR d9_init_17 ff9_15 rfl (fun _ _ => rfl) rfl rfl (hP.sh (k := 145) (by decide) rfl) ?_
  refine xm_nm (fun M8 e7 => ?_)
  have hP : xm_pg b 148 [(145, 1, 147), (145, 0, 146), (0, 3, 55), (55, 7, 129), (129, 1, 144), (129, 0, 130), (55, 6, 110), (110, 8, 128), (110, 7, 127), (110, 6, 126), (110, 5, 115), (110, 3, 114), (110, 2, 113), (110, 1, 112), (110, 0, 111), (55, 5, 109), (55, 4, 108), (55, 3, 107), (55, 2, 106), (55, 1, 105), (55, 0, 56), (0, 2, 53), (53, 0, 54), (0, 1, 51), (51, 0, 52), (0, 0, 1), (1, 1, 2)] [(130, 13), (115, 10), (56, 48), (2, 48)] [(1, 0, lv)] 48 M8 := by rw [e7]; exact hP.pr (by decide) (by decide) (by decide)
  refine x_aload_n d9_init_20 0 rfl rfl ?_
  refine x_new d9_init_21 ci9_18 ⟨by decide, by decide⟩ ?_
  refine xm_ad (show xm_nx M8 = b + 148 from hP.1) ?_
  refine xm_nm (fun M10 e9 => ?_)
  have hP : xm_pg b 149 [(145, 1, 147), (145, 0, 146), (0, 3, 55), (55, 7, 129), (129, 1, 144), (129, 0, 130), (55, 6, 110), (110, 8, 128), (110, 7, 127), (110, 6, 126), (110, 5, 115), (110, 3, 114), (110, 2, 113), (110, 1, 112), (110, 0, 111), (55, 5, 109), (55, 4, 108), (55, 3, 107), (55, 2, 106), (55, 1, 105), (55, 0, 56), (0, 2, 53), (53, 0, 54), (0, 1, 51), (51, 0, 52), (0, 0, 1), (1, 1, 2)] [(130, 13), (115, 10), (56, 48), (2, 48)] [(1, 0, lv)] 48 M10 := by rw [e9]; exact hP.new rfl (by simp) (by decide)
  refine x_dup d9_init_24 rfl ?_
  refine x_callIN (Z := y7_init) (S := rm7_init) (P := fun r M1 => r = none ∧ M1 = M10) (As := []) (b := (b + 148)) (rest := [.ref (b + 148), .ref (b + 145)]) d9_init_25 ml9_20 k7_init rfl rfl (Nat.le_of_ble_eq_true rfl) ⟨⟨by decide, by decide⟩, by decide, by decide⟩ (c7_init ⟨rfl, rfl⟩) (fun r M11 h1 => ?_)
  obtain ⟨rfl, hq⟩ := h1
  rw [hq]
  clear hq
  refine x_putFR d9_init_28 ff9_21 rfl (fun _ _ => rfl) rfl rfl (hP.sh (k := 145) (by decide) rfl) ?_
  refine xm_nm (fun M13 e12 => ?_)
  have hP : xm_pg b 149 [(145, 2, 148), (145, 1, 147), (145, 0, 146), (0, 3, 55), (55, 7, 129), (129, 1, 144), (129, 0, 130), (55, 6, 110), (110, 8, 128), (110, 7, 127), (110, 6, 126), (110, 5, 115), (110, 3, 114), (110, 2, 113), (110, 1, 112), (110, 0, 111), (55, 5, 109), (55, 4, 108), (55, 3, 107), (55, 2, 106), (55, 1, 105), (55, 0, 56), (0, 2, 53), (53, 0, 54), (0, 1, 51), (51, 0, 52), (0, 0, 1), (1, 1, 2)] [(130, 13), (115, 10), (56, 48), (2, 48)] [(1, 0, lv)] 48 M13 := by rw [e12]; exact hP.pr (by decide) (by decide) (by decide)
  refine x_aload_n d9_init_31 0 rfl rfl ?_
  refine x_new d9_init_32 ci9_18 ⟨by decide, by decide⟩ ?_
  refine xm_ad (show xm_nx M13 = b + 149 from hP.1) ?_
  refine xm_nm (fun M15 e14 => ?_)
  have hP : xm_pg b 150 [(145, 2, 148), (145, 1, 147), (145, 0, 146), (0, 3, 55), (55, 7, 129), (129, 1, 144), (129, 0, 130), (55, 6, 110), (110, 8, 128), (110, 7, 127), (110, 6, 126), (110, 5, 115), (110, 3, 114), (110, 2, 113), (110, 1, 112), (110, 0, 111), (55, 5, 109), (55, 4, 108), (55, 3, 107), (55, 2, 106), (55, 1, 105), (55, 0, 56), (0, 2, 53), (53, 0, 54), (0, 1, 51), (51, 0, 52), (0, 0, 1), (1, 1, 2)] [(130, 13), (115, 10), (56, 48), (2, 48)] [(1, 0, lv)] 48 M15 := by rw [e14]; exact hP.new rfl (by simp) (by decide)
  refine x_dup d9_init_35 rfl ?_
  refine x_callIN (Z := y7_init) (S := rm7_init) (P := fun r M1 => r = none ∧ M1 = M15) (As := []) (b := (b + 149)) (rest := [.ref (b + 149), .ref (b + 145)]) d9_init_36 ml9_20 k7_init rfl rfl (Nat.le_of_ble_eq_true rfl) ⟨⟨by decide, by decide⟩, by decide, by decide⟩ (c7_init ⟨rfl, rfl⟩) (fun r M16 h1 => ?_)
  obtain ⟨rfl, hq⟩ := h1
  rw [hq]
  clear hq
  refine x_putFR d9_init_39 ff9_25 rfl (fun _ _ => rfl) rfl rfl (hP.sh (k := 145) (by decide) rfl) ?_
  refine xm_nm (fun M18 e17 => ?_)
  have hP : xm_pg b 150 [(145, 3, 149), (145, 2, 148), (145, 1, 147), (145, 0, 146), (0, 3, 55), (55, 7, 129), (129, 1, 144), (129, 0, 130), (55, 6, 110), (110, 8, 128), (110, 7, 127), (110, 6, 126), (110, 5, 115), (110, 3, 114), (110, 2, 113), (110, 1, 112), (110, 0, 111), (55, 5, 109), (55, 4, 108), (55, 3, 107), (55, 2, 106), (55, 1, 105), (55, 0, 56), (0, 2, 53), (53, 0, 54), (0, 1, 51), (51, 0, 52), (0, 0, 1), (1, 1, 2)] [(130, 13), (115, 10), (56, 48), (2, 48)] [(1, 0, lv)] 48 M18 := by rw [e17]; exact hP.pr (by decide) (by decide) (by decide)
  refine x_aload_n d9_init_42 0 rfl rfl ?_
  refine x_new d9_init_43 ci9_18 ⟨by decide, by decide⟩ ?_
  refine xm_ad (show xm_nx M18 = b + 150 from hP.1) ?_
  refine xm_nm (fun M20 e19 => ?_)
  have hP : xm_pg b 151 [(145, 3, 149), (145, 2, 148), (145, 1, 147), (145, 0, 146), (0, 3, 55), (55, 7, 129), (129, 1, 144), (129, 0, 130), (55, 6, 110), (110, 8, 128), (110, 7, 127), (110, 6, 126), (110, 5, 115), (110, 3, 114), (110, 2, 113), (110, 1, 112), (110, 0, 111), (55, 5, 109), (55, 4, 108), (55, 3, 107), (55, 2, 106), (55, 1, 105), (55, 0, 56), (0, 2, 53), (53, 0, 54), (0, 1, 51), (51, 0, 52), (0, 0, 1), (1, 1, 2)] [(130, 13), (115, 10), (56, 48), (2, 48)] [(1, 0, lv)] 48 M20 := by rw [e19]; exact hP.new rfl (by simp) (by decide)
  refine x_dup d9_init_46 rfl ?_
  refine x_callIN (Z := y7_init) (S := rm7_init) (P := fun r M1 => r = none ∧ M1 = M20) (As := []) (b := (b + 150)) (rest := [.ref (b + 150), .ref (b + 145)]) d9_init_47 ml9_20 k7_init rfl rfl (Nat.le_of_ble_eq_true rfl) ⟨⟨by decide, by decide⟩, by decide, by decide⟩ (c7_init ⟨rfl, rfl⟩) (fun r M21 h1 => ?_)
  obtain ⟨rfl, hq⟩ := h1
  rw [hq]
  clear hq
  refine x_putFR d9_init_50 ff9_28 rfl (fun _ _ => rfl) rfl rfl (hP.sh (k := 145) (by decide) rfl) ?_
  refine xm_nm (fun M23 e22 => ?_)
  have hP : xm_pg b 151 [(145, 4, 150), (145, 3, 149), (145, 2, 148), (145, 1, 147), (145, 0, 146), (0, 3, 55), (55, 7, 129), (129, 1, 144), (129, 0, 130), (55, 6, 110), (110, 8, 128), (110, 7, 127), (110, 6, 126), (110, 5, 115), (110, 3, 114), (110, 2, 113), (110, 1, 112), (110, 0, 111), (55, 5, 109), (55, 4, 108), (55, 3, 107), (55, 2, 106), (55, 1, 105), (55, 0, 56), (0, 2, 53), (53, 0, 54), (0, 1, 51), (51, 0, 52), (0, 0, 1), (1, 1, 2)] [(130, 13), (115, 10), (56, 48), (2, 48)] [(1, 0, lv)] 48 M23 := by rw [e22]; exact hP.pr (by decide) (by decide) (by decide)
  exact x_ret (r := none) d9_init_53 xm_rN rfl ⟨by decide, by decide⟩ (h _ hP)
set_option maxRecDepth 20000 in
theorem c10_init {l : Launch} {E : xm_E} {b : Nat} {Q : Option Value → xm_M → Prop} {M : xm_M} {lv : Int32} (hP : xm_pg b 152 [(0, 4, 145), (145, 4, 150), (145, 3, 149), (145, 2, 148), (145, 1, 147), (145, 0, 146), (0, 3, 55), (55, 7, 129), (129, 1, 144), (129, 0, 130), (55, 6, 110), (110, 8, 128), (110, 7, 127), (110, 6, 126), (110, 5, 115), (110, 3, 114), (110, 2, 113), (110, 1, 112), (110, 0, 111), (55, 5, 109), (55, 4, 108), (55, 3, 107), (55, 2, 106), (55, 1, 105), (55, 0, 56), (0, 2, 53), (53, 0, 54), (0, 1, 51), (51, 0, 52), (0, 0, 1), (1, 1, 2)] [(130, 13), (115, 10), (56, 48), (2, 48)] [(1, 0, lv)] 48 M) (h : ∀ M1, xm_pg b 154 [(151, 1, 153), (151, 0, 152), (0, 4, 145), (145, 4, 150), (145, 3, 149), (145, 2, 148), (145, 1, 147), (145, 0, 146), (0, 3, 55), (55, 7, 129), (129, 1, 144), (129, 0, 130), (55, 6, 110), (110, 8, 128), (110, 7, 127), (110, 6, 126), (110, 5, 115), (110, 3, 114), (110, 2, 113), (110, 1, 112), (110, 0, 111), (55, 5, 109), (55, 4, 108), (55, 3, 107), (55, 2, 106), (55, 1, 105), (55, 0, 56), (0, 2, 53), (53, 0, 54), (0, 1, 51), (51, 0, 52), (0, 0, 1), (1, 1, 2)] [(130, 13), (115, 10), (56, 48), (2, 48)] [(1, 0, lv)] 48 M1 → Q none M1) : xm_C l E y10_init rm10_init [.ref (b + 151)] M Q := by
  refine xm_enter (by decide) (Nat.le_of_ble_eq_true rfl) (show xm_X l E y10_init rm10_init Q 0 [(0, .ref (b + 151))] [] 0 0 M from ?_)
  refine x_aload_n d10_init_0 0 rfl rfl ?_
  refine x_objInit d10_init_1 ml10_3 oi_1 oi_2 (Nat.le_of_ble_eq_true rfl) ⟨by decide, by decide⟩ ?_
  refine x_aload_n d10_init_4 0 rfl rfl ?_
  refine x_bipush d10_init_5 qb_8 ?_
  refine x_newa d10_init_7 rfl (by decide) rfl ac_int (by decide) (N := 8) (by decide) (by decide) ⟨by decide, by decide⟩ ?_
  refine xm_ad (show xm_nx M = b + 152 from hP.1) ?_
  refine xm_nm (fun M2 e1 => ?_)
  have hP : xm_pg b 153 [(0, 4, 145), (145, 4, 150), (145, 3, 149), (145, 2, 148), (145, 1, 147), (145, 0, 146), (0, 3, 55), (55, 7, 129), (129, 1, 144), (129, 0, 130), (55, 6, 110), (110, 8, 128), (110, 7, 127), (110, 6, 126), (110, 5, 115), (110, 3, 114), (110, 2, 113), (110, 1, 112), (110, 0, 111), (55, 5, 109), (55, 4, 108), (55, 3, 107), (55, 2, 106), (55, 1, 105), (55, 0, 56), (0, 2, 53), (53, 0, 54), (0, 1, 51), (51, 0, 52), (0, 0, 1), (1, 1, 2)] [(130, 13), (115, 10), (56, 48), (2, 48)] [(1, 0, lv)] 48 M2 := by rw [e1]; exact hP.new rfl (by simp) (by decide)
  refine x_putFR d10_init_9 ff10_9 rfl (fun _ _ => rfl) rfl rfl (hP.sh (k := 151) (by decide) rfl) ?_
  refine xm_nm (fun M4 e3 => ?_)
  have hP : xm_pg b 153 [(151, 0, 152), (0, 4, 145), (145, 4, 150), (145, 3, 149), (145, 2, 148), (145, 1, 147), (145, 0, 146), (0, 3, 55), (55, 7, 129), (129, 1, 144), (129, 0, 130), (55, 6, 110), (110, 8, 128), (110, 7, 127), (110, 6, 126), (110, 5, 115), (110, 3, 114), (110, 2, 113), (110, 1, 112), (110, 0, 111), (55, 5, 109), (55, 4, 108), (55, 3, 107), (55, 2, 106), (55, 1, 105), (55, 0, 56), (0, 2, 53), (53, 0, 54), (0, 1, 51), (51, 0, 52), (0, 0, 1), (1, 1, 2)] [(130, 13), (115, 10), (56, 48), (2, 48)] [(1, 0, lv)] 48 M4 := by rw [e3]; exact hP.pr (by decide) (by decide) (by decide)
  refine x_aload_n d10_init_12 0 rfl rfl ?_
  refine x_bipush d10_init_13 qb_32 ?_
  refine x_newa d10_init_15 rfl (by decide) rfl ac_byte (by decide) (N := 32) (by decide) (by decide) ⟨by decide, by decide⟩ ?_
  refine xm_ad (show xm_nx M4 = b + 153 from hP.1) ?_
  refine xm_nm (fun M6 e5 => ?_)
  have hP : xm_pg b 154 [(151, 0, 152), (0, 4, 145), (145, 4, 150), (145, 3, 149), (145, 2, 148), (145, 1, 147), (145, 0, 146), (0, 3, 55), (55, 7, 129), (129, 1, 144), (129, 0, 130), (55, 6, 110), (110, 8, 128), (110, 7, 127), (110, 6, 126), (110, 5, 115), (110, 3, 114), (110, 2, 113), (110, 1, 112), (110, 0, 111), (55, 5, 109), (55, 4, 108), (55, 3, 107), (55, 2, 106), (55, 1, 105), (55, 0, 56), (0, 2, 53), (53, 0, 54), (0, 1, 51), (51, 0, 52), (0, 0, 1), (1, 1, 2)] [(130, 13), (115, 10), (56, 48), (2, 48)] [(1, 0, lv)] 48 M6 := by rw [e5]; exact hP.new rfl (by simp) (by decide)
  refine x_putFR d10_init_17 ff10_15 rfl (fun _ _ => rfl) rfl rfl (hP.sh (k := 151) (by decide) rfl) ?_
  refine xm_nm (fun M8 e7 => ?_)
  have hP : xm_pg b 154 [(151, 1, 153), (151, 0, 152), (0, 4, 145), (145, 4, 150), (145, 3, 149), (145, 2, 148), (145, 1, 147), (145, 0, 146), (0, 3, 55), (55, 7, 129), (129, 1, 144), (129, 0, 130), (55, 6, 110), (110, 8, 128), (110, 7, 127), (110, 6, 126), (110, 5, 115), (110, 3, 114), (110, 2, 113), (110, 1, 112), (110, 0, 111), (55, 5, 109), (55, 4, 108), (55, 3, 107), (55, 2, 106), (55, 1, 105), (55, 0, 56), (0, 2, 53), (53, 0, 54), (0, 1, 51), (51, 0, 52), (0, 0, 1), (1, 1, 2)] [(130, 13), (115, 10), (56, 48), (2, 48)] [(1, 0, lv)] 48 M8 := by rw [e7]; exact hP.pr (by decide) (by decide) (by decide)
  exact x_ret (r := none) d10_init_20 xm_rN rfl ⟨by decide, by decide⟩ (h _ hP)
set_option maxRecDepth 20000 in
theorem c0_init {l : Launch} {E : xm_E} {b : Nat} {Q : Option Value → xm_M → Prop} {M : xm_M} (lv : Int32) (hP : xm_pg b 1 [] [] [] 0 M) (h : ∀ M1, xm_pg b 154 [(0, 5, 151), (151, 1, 153), (151, 0, 152), (0, 4, 145), (145, 4, 150), (145, 3, 149), (145, 2, 148), (145, 1, 147), (145, 0, 146), (0, 3, 55), (55, 7, 129), (129, 1, 144), (129, 0, 130), (55, 6, 110), (110, 8, 128), (110, 7, 127), (110, 6, 126), (110, 5, 115), (110, 3, 114), (110, 2, 113), (110, 1, 112), (110, 0, 111), (55, 5, 109), (55, 4, 108), (55, 3, 107), (55, 2, 106), (55, 1, 105), (55, 0, 56), (0, 2, 53), (53, 0, 54), (0, 1, 51), (51, 0, 52), (0, 0, 1), (1, 1, 2)] [(130, 13), (115, 10), (56, 48), (2, 48)] [(0, 6, (-2 : Int32)), (1, 0, (if (if (1024 : Int32) ≤ lv then (1024 : Int32) else lv) ≤ (0 : Int32) then (0 : Int32) else (if (1024 : Int32) ≤ lv then (1024 : Int32) else lv)))] 48 M1 → Q none M1) : xm_C l E y0_init rm0_init [.ref (b + 0), .int lv] M Q := by
  refine xm_enter (by decide) (Nat.le_of_ble_eq_true rfl) (show xm_X l E y0_init rm0_init Q 0 [(0, .ref (b + 0)), (1, .int lv)] [] 0 0 M from ?_)
  refine x_aload_n d0_init_0 0 rfl rfl ?_
  refine x_objInit d0_init_1 ml0_3 oi_1 oi_2 (Nat.le_of_ble_eq_true rfl) ⟨by decide, by decide⟩ ?_
  refine x_aload_n d0_init_4 0 rfl rfl ?_
  refine x_new d0_init_5 ci0_9 ⟨by decide, by decide⟩ ?_
  refine xm_ad (show xm_nx M = b + 1 from hP.1) ?_
  refine xm_nm (fun M2 e1 => ?_)
  have hP : xm_pg b 2 [] [] [] 0 M2 := by rw [e1]; exact hP.new rfl (by simp) (by decide)
  refine x_dup d0_init_8 rfl ?_
  refine x_iconst d0_init_9 qi_0 ?_
  refine x_sipush d0_init_10 qs_1024 ?_
  refine x_iload_n d0_init_13 1 rfl rfl ?_
  refine x_cSI (Z := ym_min_I) (S := rmm_min_I) (P := fun v M1 => v = (if (1024 : Int32) ≤ lv then (1024 : Int32) else lv) ∧ M1 = M2) (As := [.int (1024 : Int32), .int lv]) (rest := [.int (0 : Int32), .ref (b + 1), .ref (b + 1), .ref (b + 0)]) d0_init_14 ml0_11 km_min_I rfl rfl (Nat.le_of_ble_eq_true rfl) ⟨⟨by decide, by decide⟩, by decide, by decide⟩ ⟨rfl, rfl⟩ (s_min_I ⟨_, rfl, rfl, rfl⟩) (fun r4 M3 h1 => ?_)
  obtain ⟨rfl, hq⟩ := h1
  rw [hq]
  clear hq
  refine x_cSI (Z := ym_max_I) (S := rmm_max_I) (P := fun v M1 => v = (if (if (1024 : Int32) ≤ lv then (1024 : Int32) else lv) ≤ (0 : Int32) then (0 : Int32) else (if (1024 : Int32) ≤ lv then (1024 : Int32) else lv)) ∧ M1 = M2) (As := [.int (0 : Int32), .int (if (1024 : Int32) ≤ lv then (1024 : Int32) else lv)]) (rest := [.ref (b + 1), .ref (b + 1), .ref (b + 0)]) d0_init_17 ml0_17 km_max_I rfl rfl (Nat.le_of_ble_eq_true rfl) ⟨⟨by decide, by decide⟩, by decide, by decide⟩ ⟨rfl, rfl⟩ (s_max_I ⟨_, rfl, rfl, rfl⟩) (fun r6 M5 h1 => ?_)
  obtain ⟨rfl, hq⟩ := h1
  rw [hq]
  clear hq
  refine x_callI (Z := y1_init) (S := rm1_init) (P := fun r M1 => r = none ∧ xm_pg b 51 [(1, 1, 2)] [(2, 48)] [(1, 0, (if (if (1024 : Int32) ≤ lv then (1024 : Int32) else lv) ≤ (0 : Int32) then (0 : Int32) else (if (1024 : Int32) ≤ lv then (1024 : Int32) else lv)))] 0 M1) (As := [.int (if (if (1024 : Int32) ≤ lv then (1024 : Int32) else lv) ≤ (0 : Int32) then (0 : Int32) else (if (1024 : Int32) ≤ lv then (1024 : Int32) else lv))]) (b := (b + 1)) (rest := [.ref (b + 1), .ref (b + 0)]) d0_init_20 ml0_20 k1_init rfl rfl (Nat.le_of_ble_eq_true rfl) ⟨⟨by decide, by decide⟩, by decide, by decide⟩ (c1_init _  hP (fun M1 hP => ⟨rfl, hP⟩)) (fun r M7 h1 => ?_)
  obtain ⟨rfl, hP⟩ := h1
  refine x_putFR d0_init_23 ff0_23 rfl (fun _ _ => rfl) rfl rfl (hP.sh (k := 0) (by decide) rfl) ?_
  refine xm_nm (fun M9 e8 => ?_)
  have hP : xm_pg b 51 [(0, 0, 1), (1, 1, 2)] [(2, 48)] [(1, 0, (if (if (1024 : Int32) ≤ lv then (1024 : Int32) else lv) ≤ (0 : Int32) then (0 : Int32) else (if (1024 : Int32) ≤ lv then (1024 : Int32) else lv)))] 0 M9 := by rw [e8]; exact hP.pr (by decide) (by decide) (by decide)
  refine x_aload_n d0_init_26 0 rfl rfl ?_
  refine x_new d0_init_27 ci0_27 ⟨by decide, by decide⟩ ?_
  refine xm_ad (show xm_nx M9 = b + 51 from hP.1) ?_
  refine xm_nm (fun M11 e10 => ?_)
  have hP : xm_pg b 52 [(0, 0, 1), (1, 1, 2)] [(2, 48)] [(1, 0, (if (if (1024 : Int32) ≤ lv then (1024 : Int32) else lv) ≤ (0 : Int32) then (0 : Int32) else (if (1024 : Int32) ≤ lv then (1024 : Int32) else lv)))] 0 M11 := by rw [e10]; exact hP.new rfl (by simp) (by decide)
  refine x_dup d0_init_30 rfl ?_
  refine x_callIN (Z := y3_init) (S := rm3_init) (P := fun r M1 => r = none ∧ xm_pg b 53 [(51, 0, 52), (0, 0, 1), (1, 1, 2)] [(2, 48)] [(1, 0, (if (if (1024 : Int32) ≤ lv then (1024 : Int32) else lv) ≤ (0 : Int32) then (0 : Int32) else (if (1024 : Int32) ≤ lv then (1024 : Int32) else lv)))] 0 M1) (As := []) (b := (b + 51)) (rest := [.ref (b + 51), .ref (b + 0)]) d0_init_31 ml0_29 k3_init rfl rfl (Nat.le_of_ble_eq_true rfl) ⟨⟨by decide, by decide⟩, by decide, by decide⟩ (c3_init  hP (fun M1 hP => ⟨rfl, hP⟩)) (fun r M12 h1 => ?_)
  obtain ⟨rfl, hP⟩ := h1
  refine x_putFR d0_init_34 ff0_30 rfl (fun _ _ => rfl) rfl rfl (hP.sh (k := 0) (by decide) rfl) ?_
  refine xm_nm (fun M14 e13 => ?_)
  have hP : xm_pg b 53 [(0, 1, 51), (51, 0, 52), (0, 0, 1), (1, 1, 2)] [(2, 48)] [(1, 0, (if (if (1024 : Int32) ≤ lv then (1024 : Int32) else lv) ≤ (0 : Int32) then (0 : Int32) else (if (1024 : Int32) ≤ lv then (1024 : Int32) else lv)))] 0 M14 := by rw [e13]; exact hP.pr (by decide) (by decide) (by decide)
  refine x_aload_n d0_init_37 0 rfl rfl ?_
  refine x_new d0_init_38 ci0_34 ⟨by decide, by decide⟩ ?_
  refine xm_ad (show xm_nx M14 = b + 53 from hP.1) ?_
  refine xm_nm (fun M16 e15 => ?_)
  have hP : xm_pg b 54 [(0, 1, 51), (51, 0, 52), (0, 0, 1), (1, 1, 2)] [(2, 48)] [(1, 0, (if (if (1024 : Int32) ≤ lv then (1024 : Int32) else lv) ≤ (0 : Int32) then (0 : Int32) else (if (1024 : Int32) ≤ lv then (1024 : Int32) else lv)))] 0 M16 := by rw [e15]; exact hP.new rfl (by simp) (by decide)
  refine x_dup d0_init_41 rfl ?_
  refine x_callIN (Z := y4_init) (S := rm4_init) (P := fun r M1 => r = none ∧ xm_pg b 55 [(53, 0, 54), (0, 1, 51), (51, 0, 52), (0, 0, 1), (1, 1, 2)] [(2, 48)] [(1, 0, (if (if (1024 : Int32) ≤ lv then (1024 : Int32) else lv) ≤ (0 : Int32) then (0 : Int32) else (if (1024 : Int32) ≤ lv then (1024 : Int32) else lv)))] 0 M1) (As := []) (b := (b + 53)) (rest := [.ref (b + 53), .ref (b + 0)]) d0_init_42 ml0_36 k4_init rfl rfl (Nat.le_of_ble_eq_true rfl) ⟨⟨by decide, by decide⟩, by decide, by decide⟩ (c4_init  hP (fun M1 hP => ⟨rfl, hP⟩)) (fun r M17 h1 => ?_)
  obtain ⟨rfl, hP⟩ := h1
  refine x_putFR d0_init_45 ff0_37 rfl (fun _ _ => rfl) rfl rfl (hP.sh (k := 0) (by decide) rfl) ?_
  refine xm_nm (fun M19 e18 => ?_)
  have hP : xm_pg b 55 [(0, 2, 53), (53, 0, 54), (0, 1, 51), (51, 0, 52), (0, 0, 1), (1, 1, 2)] [(2, 48)] [(1, 0, (if (if (1024 : Int32) ≤ lv then (1024 : Int32) else lv) ≤ (0 : Int32) then (0 : Int32) else (if (1024 : Int32) ≤ lv then (1024 : Int32) else lv)))] 0 M19 := by rw [e18]; exact hP.pr (by decide) (by decide) (by decide)
  refine x_aload_n d0_init_48 0 rfl rfl ?_
  refine x_new d0_init_49 ci0_41 ⟨by decide, by decide⟩ ?_
  refine xm_ad (show xm_nx M19 = b + 55 from hP.1) ?_
  refine xm_nm (fun M21 e20 => ?_)
  have hP : xm_pg b 56 [(0, 2, 53), (53, 0, 54), (0, 1, 51), (51, 0, 52), (0, 0, 1), (1, 1, 2)] [(2, 48)] [(1, 0, (if (if (1024 : Int32) ≤ lv then (1024 : Int32) else lv) ≤ (0 : Int32) then (0 : Int32) else (if (1024 : Int32) ≤ lv then (1024 : Int32) else lv)))] 0 M21 := by rw [e20]; exact hP.new rfl (by simp) (by decide)
  refine x_dup d0_init_52 rfl ?_
  refine x_callI (Z := y5_init) (S := rm5_init) (P := fun r M1 => r = none ∧ xm_pg b 145 [(55, 7, 129), (129, 1, 144), (129, 0, 130), (55, 6, 110), (110, 8, 128), (110, 7, 127), (110, 6, 126), (110, 5, 115), (110, 3, 114), (110, 2, 113), (110, 1, 112), (110, 0, 111), (55, 5, 109), (55, 4, 108), (55, 3, 107), (55, 2, 106), (55, 1, 105), (55, 0, 56), (0, 2, 53), (53, 0, 54), (0, 1, 51), (51, 0, 52), (0, 0, 1), (1, 1, 2)] [(130, 13), (115, 10), (56, 48), (2, 48)] [(1, 0, (if (if (1024 : Int32) ≤ lv then (1024 : Int32) else lv) ≤ (0 : Int32) then (0 : Int32) else (if (1024 : Int32) ≤ lv then (1024 : Int32) else lv)))] 48 M1) (As := []) (b := (b + 55)) (rest := [.ref (b + 55), .ref (b + 0)]) d0_init_53 ml0_43 k5_init rfl rfl (Nat.le_of_ble_eq_true rfl) ⟨⟨by decide, by decide⟩, by decide, by decide⟩ (c5_init  hP (fun M1 hP => ⟨rfl, hP⟩)) (fun r M22 h1 => ?_)
  obtain ⟨rfl, hP⟩ := h1
  refine x_putFR d0_init_56 ff0_44 rfl (fun _ _ => rfl) rfl rfl (hP.sh (k := 0) (by decide) rfl) ?_
  refine xm_nm (fun M24 e23 => ?_)
  have hP : xm_pg b 145 [(0, 3, 55), (55, 7, 129), (129, 1, 144), (129, 0, 130), (55, 6, 110), (110, 8, 128), (110, 7, 127), (110, 6, 126), (110, 5, 115), (110, 3, 114), (110, 2, 113), (110, 1, 112), (110, 0, 111), (55, 5, 109), (55, 4, 108), (55, 3, 107), (55, 2, 106), (55, 1, 105), (55, 0, 56), (0, 2, 53), (53, 0, 54), (0, 1, 51), (51, 0, 52), (0, 0, 1), (1, 1, 2)] [(130, 13), (115, 10), (56, 48), (2, 48)] [(1, 0, (if (if (1024 : Int32) ≤ lv then (1024 : Int32) else lv) ≤ (0 : Int32) then (0 : Int32) else (if (1024 : Int32) ≤ lv then (1024 : Int32) else lv)))] 48 M24 := by rw [e23]; exact hP.pr (by decide) (by decide) (by decide)
  refine x_aload_n d0_init_59 0 rfl rfl ?_
  refine x_new d0_init_60 ci0_48 ⟨by decide, by decide⟩ ?_
  refine xm_ad (show xm_nx M24 = b + 145 from hP.1) ?_
  refine xm_nm (fun M26 e25 => ?_)
  have hP : xm_pg b 146 [(0, 3, 55), (55, 7, 129), (129, 1, 144), (129, 0, 130), (55, 6, 110), (110, 8, 128), (110, 7, 127), (110, 6, 126), (110, 5, 115), (110, 3, 114), (110, 2, 113), (110, 1, 112), (110, 0, 111), (55, 5, 109), (55, 4, 108), (55, 3, 107), (55, 2, 106), (55, 1, 105), (55, 0, 56), (0, 2, 53), (53, 0, 54), (0, 1, 51), (51, 0, 52), (0, 0, 1), (1, 1, 2)] [(130, 13), (115, 10), (56, 48), (2, 48)] [(1, 0, (if (if (1024 : Int32) ≤ lv then (1024 : Int32) else lv) ≤ (0 : Int32) then (0 : Int32) else (if (1024 : Int32) ≤ lv then (1024 : Int32) else lv)))] 48 M26 := by rw [e25]; exact hP.new rfl (by simp) (by decide)
  refine x_dup d0_init_63 rfl ?_
  refine x_callIN (Z := y9_init) (S := rm9_init) (P := fun r M1 => r = none ∧ xm_pg b 151 [(145, 4, 150), (145, 3, 149), (145, 2, 148), (145, 1, 147), (145, 0, 146), (0, 3, 55), (55, 7, 129), (129, 1, 144), (129, 0, 130), (55, 6, 110), (110, 8, 128), (110, 7, 127), (110, 6, 126), (110, 5, 115), (110, 3, 114), (110, 2, 113), (110, 1, 112), (110, 0, 111), (55, 5, 109), (55, 4, 108), (55, 3, 107), (55, 2, 106), (55, 1, 105), (55, 0, 56), (0, 2, 53), (53, 0, 54), (0, 1, 51), (51, 0, 52), (0, 0, 1), (1, 1, 2)] [(130, 13), (115, 10), (56, 48), (2, 48)] [(1, 0, (if (if (1024 : Int32) ≤ lv then (1024 : Int32) else lv) ≤ (0 : Int32) then (0 : Int32) else (if (1024 : Int32) ≤ lv then (1024 : Int32) else lv)))] 48 M1) (As := []) (b := (b + 145)) (rest := [.ref (b + 145), .ref (b + 0)]) d0_init_64 ml0_50 k9_init rfl rfl (Nat.le_of_ble_eq_true rfl) ⟨⟨by decide, by decide⟩, by decide, by decide⟩ (c9_init  hP (fun M1 hP => ⟨rfl, hP⟩)) (fun r M27 h1 => ?_)
  obtain ⟨rfl, hP⟩ := h1
  refine x_putFR d0_init_67 ff0_51 rfl (fun _ _ => rfl) rfl rfl (hP.sh (k := 0) (by decide) rfl) ?_
  refine xm_nm (fun M29 e28 => ?_)
  have hP : xm_pg b 151 [(0, 4, 145), (145, 4, 150), (145, 3, 149), (145, 2, 148), (145, 1, 147), (145, 0, 146), (0, 3, 55), (55, 7, 129), (129, 1, 144), (129, 0, 130), (55, 6, 110), (110, 8, 128), (110, 7, 127), (110, 6, 126), (110, 5, 115), (110, 3, 114), (110, 2, 113), (110, 1, 112), (110, 0, 111), (55, 5, 109), (55, 4, 108), (55, 3, 107), (55, 2, 106), (55, 1, 105), (55, 0, 56), (0, 2, 53), (53, 0, 54), (0, 1, 51), (51, 0, 52), (0, 0, 1), (1, 1, 2)] [(130, 13), (115, 10), (56, 48), (2, 48)] [(1, 0, (if (if (1024 : Int32) ≤ lv then (1024 : Int32) else lv) ≤ (0 : Int32) then (0 : Int32) else (if (1024 : Int32) ≤ lv then (1024 : Int32) else lv)))] 48 M29 := by rw [e28]; exact hP.pr (by decide) (by decide) (by decide)
  refine x_aload_n d0_init_70 0 rfl rfl ?_
  refine x_new d0_init_71 ci0_55 ⟨by decide, by decide⟩ ?_
  refine xm_ad (show xm_nx M29 = b + 151 from hP.1) ?_
  refine xm_nm (fun M31 e30 => ?_)
  have hP : xm_pg b 152 [(0, 4, 145), (145, 4, 150), (145, 3, 149), (145, 2, 148), (145, 1, 147), (145, 0, 146), (0, 3, 55), (55, 7, 129), (129, 1, 144), (129, 0, 130), (55, 6, 110), (110, 8, 128), (110, 7, 127), (110, 6, 126), (110, 5, 115), (110, 3, 114), (110, 2, 113), (110, 1, 112), (110, 0, 111), (55, 5, 109), (55, 4, 108), (55, 3, 107), (55, 2, 106), (55, 1, 105), (55, 0, 56), (0, 2, 53), (53, 0, 54), (0, 1, 51), (51, 0, 52), (0, 0, 1), (1, 1, 2)] [(130, 13), (115, 10), (56, 48), (2, 48)] [(1, 0, (if (if (1024 : Int32) ≤ lv then (1024 : Int32) else lv) ≤ (0 : Int32) then (0 : Int32) else (if (1024 : Int32) ≤ lv then (1024 : Int32) else lv)))] 48 M31 := by rw [e30]; exact hP.new rfl (by simp) (by decide)
  refine x_dup d0_init_74 rfl ?_
  refine x_callIN (Z := y10_init) (S := rm10_init) (P := fun r M1 => r = none ∧ xm_pg b 154 [(151, 1, 153), (151, 0, 152), (0, 4, 145), (145, 4, 150), (145, 3, 149), (145, 2, 148), (145, 1, 147), (145, 0, 146), (0, 3, 55), (55, 7, 129), (129, 1, 144), (129, 0, 130), (55, 6, 110), (110, 8, 128), (110, 7, 127), (110, 6, 126), (110, 5, 115), (110, 3, 114), (110, 2, 113), (110, 1, 112), (110, 0, 111), (55, 5, 109), (55, 4, 108), (55, 3, 107), (55, 2, 106), (55, 1, 105), (55, 0, 56), (0, 2, 53), (53, 0, 54), (0, 1, 51), (51, 0, 52), (0, 0, 1), (1, 1, 2)] [(130, 13), (115, 10), (56, 48), (2, 48)] [(1, 0, (if (if (1024 : Int32) ≤ lv then (1024 : Int32) else lv) ≤ (0 : Int32) then (0 : Int32) else (if (1024 : Int32) ≤ lv then (1024 : Int32) else lv)))] 48 M1) (As := []) (b := (b + 151)) (rest := [.ref (b + 151), .ref (b + 0)]) d0_init_75 ml0_57 k10_init rfl rfl (Nat.le_of_ble_eq_true rfl) ⟨⟨by decide, by decide⟩, by decide, by decide⟩ (c10_init  hP (fun M1 hP => ⟨rfl, hP⟩)) (fun r M32 h1 => ?_)
  obtain ⟨rfl, hP⟩ := h1
  refine x_putFR d0_init_78 ff0_58 rfl (fun _ _ => rfl) rfl rfl (hP.sh (k := 0) (by decide) rfl) ?_
  refine xm_nm (fun M34 e33 => ?_)
  have hP : xm_pg b 154 [(0, 5, 151), (151, 1, 153), (151, 0, 152), (0, 4, 145), (145, 4, 150), (145, 3, 149), (145, 2, 148), (145, 1, 147), (145, 0, 146), (0, 3, 55), (55, 7, 129), (129, 1, 144), (129, 0, 130), (55, 6, 110), (110, 8, 128), (110, 7, 127), (110, 6, 126), (110, 5, 115), (110, 3, 114), (110, 2, 113), (110, 1, 112), (110, 0, 111), (55, 5, 109), (55, 4, 108), (55, 3, 107), (55, 2, 106), (55, 1, 105), (55, 0, 56), (0, 2, 53), (53, 0, 54), (0, 1, 51), (51, 0, 52), (0, 0, 1), (1, 1, 2)] [(130, 13), (115, 10), (56, 48), (2, 48)] [(1, 0, (if (if (1024 : Int32) ≤ lv then (1024 : Int32) else lv) ≤ (0 : Int32) then (0 : Int32) else (if (1024 : Int32) ≤ lv then (1024 : Int32) else lv)))] 48 M34 := by rw [e33]; exact hP.pr (by decide) (by decide) (by decide)
  refine x_aload_n d0_init_81 0 rfl rfl ?_
  refine x_bipush d0_init_82 qb_n2 ?_
  refine x_putI d0_init_84 fw0_62 (fun _ _ => rfl) rfl rfl (hP.sh (k := 0) (by decide) rfl) ?_
  refine xm_nm (fun M36 e35 => ?_)
  have hP : xm_pg b 154 [(0, 5, 151), (151, 1, 153), (151, 0, 152), (0, 4, 145), (145, 4, 150), (145, 3, 149), (145, 2, 148), (145, 1, 147), (145, 0, 146), (0, 3, 55), (55, 7, 129), (129, 1, 144), (129, 0, 130), (55, 6, 110), (110, 8, 128), (110, 7, 127), (110, 6, 126), (110, 5, 115), (110, 3, 114), (110, 2, 113), (110, 1, 112), (110, 0, 111), (55, 5, 109), (55, 4, 108), (55, 3, 107), (55, 2, 106), (55, 1, 105), (55, 0, 56), (0, 2, 53), (53, 0, 54), (0, 1, 51), (51, 0, 52), (0, 0, 1), (1, 1, 2)] [(130, 13), (115, 10), (56, 48), (2, 48)] [(0, 6, (-2 : Int32)), (1, 0, (if (if (1024 : Int32) ≤ lv then (1024 : Int32) else lv) ≤ (0 : Int32) then (0 : Int32) else (if (1024 : Int32) ≤ lv then (1024 : Int32) else lv)))] 48 M36 := by rw [e35]; exact hP.pi
  exact x_ret (r := none) d0_init_87 xm_rN rfl ⟨by decide, by decide⟩ (h _ hP)
/-- the least length, between 0 and 1024 -/
def xm_cla (v : Int32) : Int32 := if 0 ≤ v then (if v ≤ 1024 then v else 1024) else 0
set_option maxRecDepth 20000 in
theorem c11_init {l : Launch} {E : xm_E} {b : Nat} {Q : Option Value → xm_M → Prop} {M : xm_M} {lv : Int32} (v : Int32) (hP : xm_pg b 155 [(0, 5, 151), (151, 1, 153), (151, 0, 152), (0, 4, 145), (145, 4, 150), (145, 3, 149), (145, 2, 148), (145, 1, 147), (145, 0, 146), (0, 3, 55), (55, 7, 129), (129, 1, 144), (129, 0, 130), (55, 6, 110), (110, 8, 128), (110, 7, 127), (110, 6, 126), (110, 5, 115), (110, 3, 114), (110, 2, 113), (110, 1, 112), (110, 0, 111), (55, 5, 109), (55, 4, 108), (55, 3, 107), (55, 2, 106), (55, 1, 105), (55, 0, 56), (0, 2, 53), (53, 0, 54), (0, 1, 51), (51, 0, 52), (0, 0, 1), (1, 1, 2)] [(130, 13), (115, 10), (56, 48), (2, 48)] [(0, 6, (-2 : Int32)), (1, 0, lv)] 48 M) (h : ∀ M1, xm_pg b 178 [(154, 35, 177), (154, 34, 176), (154, 33, 175), (154, 32, 174), (154, 28, 173), (154, 27, 172), (154, 25, 171), (154, 24, 170), (154, 23, 169), (154, 22, 168), (154, 21, 167), (154, 20, 166), (154, 18, 165), (154, 17, 164), (154, 16, 163), (154, 15, 162), (154, 10, 161), (154, 7, 160), (154, 6, 159), (154, 5, 158), (154, 4, 157), (154, 3, 156), (154, 2, 155), (0, 5, 151), (151, 1, 153), (151, 0, 152), (0, 4, 145), (145, 4, 150), (145, 3, 149), (145, 2, 148), (145, 1, 147), (145, 0, 146), (0, 3, 55), (55, 7, 129), (129, 1, 144), (129, 0, 130), (55, 6, 110), (110, 8, 128), (110, 7, 127), (110, 6, 126), (110, 5, 115), (110, 3, 114), (110, 2, 113), (110, 1, 112), (110, 0, 111), (55, 5, 109), (55, 4, 108), (55, 3, 107), (55, 2, 106), (55, 1, 105), (55, 0, 56), (0, 2, 53), (53, 0, 54), (0, 1, 51), (51, 0, 52), (0, 0, 1), (1, 1, 2)] [(130, 13), (115, 10), (56, 48), (2, 48)] [(154, 0, xm_cla v), (154, 9, (-2 : Int32)), (0, 6, (-2 : Int32)), (1, 0, lv)] 48 M1 → Q none M1) : xm_C l E y11_init rm11_init [.ref (b + 154), .int v] M Q := by
  refine xm_enter (by decide) (Nat.le_of_ble_eq_true rfl) (show xm_X l E y11_init rm11_init Q 0 [(0, .ref (b + 154)), (1, .int v)] [] 0 0 M from ?_)
  refine x_aload_n d11_init_0 0 rfl rfl ?_
  refine x_objInit d11_init_1 ml11_1 oi_1 oi_2 (Nat.le_of_ble_eq_true rfl) ⟨by decide, by decide⟩ ?_
  refine x_aload_n d11_init_4 0 rfl rfl ?_
  refine x_bipush d11_init_5 qb_48 ?_
  refine x_newa d11_init_7 rfl (by decide) rfl ac_int (by decide) (N := 48) (by decide) (by decide) ⟨by decide, by decide⟩ ?_
  refine xm_ad (show xm_nx M = b + 155 from hP.1) ?_
  refine xm_nm (fun M2 e1 => ?_)
  have hP : xm_pg b 156 [(0, 5, 151), (151, 1, 153), (151, 0, 152), (0, 4, 145), (145, 4, 150), (145, 3, 149), (145, 2, 148), (145, 1, 147), (145, 0, 146), (0, 3, 55), (55, 7, 129), (129, 1, 144), (129, 0, 130), (55, 6, 110), (110, 8, 128), (110, 7, 127), (110, 6, 126), (110, 5, 115), (110, 3, 114), (110, 2, 113), (110, 1, 112), (110, 0, 111), (55, 5, 109), (55, 4, 108), (55, 3, 107), (55, 2, 106), (55, 1, 105), (55, 0, 56), (0, 2, 53), (53, 0, 54), (0, 1, 51), (51, 0, 52), (0, 0, 1), (1, 1, 2)] [(130, 13), (115, 10), (56, 48), (2, 48)] [(0, 6, (-2 : Int32)), (1, 0, lv)] 48 M2 := by rw [e1]; exact hP.new rfl (by simp) (by decide)
  refine x_putFR d11_init_9 ff11_7 rfl (fun _ _ => rfl) rfl rfl (hP.sh (k := 154) (by decide) rfl) ?_
  refine xm_nm (fun M4 e3 => ?_)
  have hP : xm_pg b 156 [(154, 2, 155), (0, 5, 151), (151, 1, 153), (151, 0, 152), (0, 4, 145), (145, 4, 150), (145, 3, 149), (145, 2, 148), (145, 1, 147), (145, 0, 146), (0, 3, 55), (55, 7, 129), (129, 1, 144), (129, 0, 130), (55, 6, 110), (110, 8, 128), (110, 7, 127), (110, 6, 126), (110, 5, 115), (110, 3, 114), (110, 2, 113), (110, 1, 112), (110, 0, 111), (55, 5, 109), (55, 4, 108), (55, 3, 107), (55, 2, 106), (55, 1, 105), (55, 0, 56), (0, 2, 53), (53, 0, 54), (0, 1, 51), (51, 0, 52), (0, 0, 1), (1, 1, 2)] [(130, 13), (115, 10), (56, 48), (2, 48)] [(0, 6, (-2 : Int32)), (1, 0, lv)] 48 M4 := by rw [e3]; exact hP.pr (by decide) (by decide) (by decide)
  refine x_aload_n d11_init_12 0 rfl rfl ?_
  refine x_bipush d11_init_13 qb_48 ?_
  refine x_newa d11_init_15 rfl (by decide) rfl ac_int (by decide) (N := 48) (by decide) (by decide) ⟨by decide, by decide⟩ ?_
  refine xm_ad (show xm_nx M4 = b + 156 from hP.1) ?_
  refine xm_nm (fun M6 e5 => ?_)
  have hP : xm_pg b 157 [(154, 2, 155), (0, 5, 151), (151, 1, 153), (151, 0, 152), (0, 4, 145), (145, 4, 150), (145, 3, 149), (145, 2, 148), (145, 1, 147), (145, 0, 146), (0, 3, 55), (55, 7, 129), (129, 1, 144), (129, 0, 130), (55, 6, 110), (110, 8, 128), (110, 7, 127), (110, 6, 126), (110, 5, 115), (110, 3, 114), (110, 2, 113), (110, 1, 112), (110, 0, 111), (55, 5, 109), (55, 4, 108), (55, 3, 107), (55, 2, 106), (55, 1, 105), (55, 0, 56), (0, 2, 53), (53, 0, 54), (0, 1, 51), (51, 0, 52), (0, 0, 1), (1, 1, 2)] [(130, 13), (115, 10), (56, 48), (2, 48)] [(0, 6, (-2 : Int32)), (1, 0, lv)] 48 M6 := by rw [e5]; exact hP.new rfl (by simp) (by decide)
  refine x_putFR d11_init_17 ff11_13 rfl (fun _ _ => rfl) rfl rfl (hP.sh (k := 154) (by decide) rfl) ?_
  refine xm_nm (fun M8 e7 => ?_)
  have hP : xm_pg b 157 [(154, 3, 156), (154, 2, 155), (0, 5, 151), (151, 1, 153), (151, 0, 152), (0, 4, 145), (145, 4, 150), (145, 3, 149), (145, 2, 148), (145, 1, 147), (145, 0, 146), (0, 3, 55), (55, 7, 129), (129, 1, 144), (129, 0, 130), (55, 6, 110), (110, 8, 128), (110, 7, 127), (110, 6, 126), (110, 5, 115), (110, 3, 114), (110, 2, 113), (110, 1, 112), (110, 0, 111), (55, 5, 109), (55, 4, 108), (55, 3, 107), (55, 2, 106), (55, 1, 105), (55, 0, 56), (0, 2, 53), (53, 0, 54), (0, 1, 51), (51, 0, 52), (0, 0, 1), (1, 1, 2)] [(130, 13), (115, 10), (56, 48), (2, 48)] [(0, 6, (-2 : Int32)), (1, 0, lv)] 48 M8 := by rw [e7]; exact hP.pr (by decide) (by decide) (by decide)
  refine x_aload_n d11_init_20 0 rfl rfl ?_
  refine x_bipush d11_init_21 qb_48 ?_
  refine x_newa d11_init_23 rfl (by decide) rfl ac_int (by decide) (N := 48) (by decide) (by decide) ⟨by decide, by decide⟩ ?_
  refine xm_ad (show xm_nx M8 = b + 157 from hP.1) ?_
  refine xm_nm (fun M10 e9 => ?_)
  have hP : xm_pg b 158 [(154, 3, 156), (154, 2, 155), (0, 5, 151), (151, 1, 153), (151, 0, 152), (0, 4, 145), (145, 4, 150), (145, 3, 149), (145, 2, 148), (145, 1, 147), (145, 0, 146), (0, 3, 55), (55, 7, 129), (129, 1, 144), (129, 0, 130), (55, 6, 110), (110, 8, 128), (110, 7, 127), (110, 6, 126), (110, 5, 115), (110, 3, 114), (110, 2, 113), (110, 1, 112), (110, 0, 111), (55, 5, 109), (55, 4, 108), (55, 3, 107), (55, 2, 106), (55, 1, 105), (55, 0, 56), (0, 2, 53), (53, 0, 54), (0, 1, 51), (51, 0, 52), (0, 0, 1), (1, 1, 2)] [(130, 13), (115, 10), (56, 48), (2, 48)] [(0, 6, (-2 : Int32)), (1, 0, lv)] 48 M10 := by rw [e9]; exact hP.new rfl (by simp) (by decide)
  refine x_putFR d11_init_25 ff11_16 rfl (fun _ _ => rfl) rfl rfl (hP.sh (k := 154) (by decide) rfl) ?_
  refine xm_nm (fun M12 e11 => ?_)
  have hP : xm_pg b 158 [(154, 4, 157), (154, 3, 156), (154, 2, 155), (0, 5, 151), (151, 1, 153), (151, 0, 152), (0, 4, 145), (145, 4, 150), (145, 3, 149), (145, 2, 148), (145, 1, 147), (145, 0, 146), (0, 3, 55), (55, 7, 129), (129, 1, 144), (129, 0, 130), (55, 6, 110), (110, 8, 128), (110, 7, 127), (110, 6, 126), (110, 5, 115), (110, 3, 114), (110, 2, 113), (110, 1, 112), (110, 0, 111), (55, 5, 109), (55, 4, 108), (55, 3, 107), (55, 2, 106), (55, 1, 105), (55, 0, 56), (0, 2, 53), (53, 0, 54), (0, 1, 51), (51, 0, 52), (0, 0, 1), (1, 1, 2)] [(130, 13), (115, 10), (56, 48), (2, 48)] [(0, 6, (-2 : Int32)), (1, 0, lv)] 48 M12 := by rw [e11]; exact hP.pr (by decide) (by decide) (by decide)
  refine x_aload_n d11_init_28 0 rfl rfl ?_
  refine x_bipush d11_init_29 qb_48 ?_
  refine x_newa d11_init_31 rfl (by decide) rfl ac_int (by decide) (N := 48) (by decide) (by decide) ⟨by decide, by decide⟩ ?_
  refine xm_ad (show xm_nx M12 = b + 158 from hP.1) ?_
  refine xm_nm (fun M14 e13 => ?_)
  have hP : xm_pg b 159 [(154, 4, 157), (154, 3, 156), (154, 2, 155), (0, 5, 151), (151, 1, 153), (151, 0, 152), (0, 4, 145), (145, 4, 150), (145, 3, 149), (145, 2, 148), (145, 1, 147), (145, 0, 146), (0, 3, 55), (55, 7, 129), (129, 1, 144), (129, 0, 130), (55, 6, 110), (110, 8, 128), (110, 7, 127), (110, 6, 126), (110, 5, 115), (110, 3, 114), (110, 2, 113), (110, 1, 112), (110, 0, 111), (55, 5, 109), (55, 4, 108), (55, 3, 107), (55, 2, 106), (55, 1, 105), (55, 0, 56), (0, 2, 53), (53, 0, 54), (0, 1, 51), (51, 0, 52), (0, 0, 1), (1, 1, 2)] [(130, 13), (115, 10), (56, 48), (2, 48)] [(0, 6, (-2 : Int32)), (1, 0, lv)] 48 M14 := by rw [e13]; exact hP.new rfl (by simp) (by decide)
  refine x_putFR d11_init_33 ff11_19 rfl (fun _ _ => rfl) rfl rfl (hP.sh (k := 154) (by decide) rfl) ?_
  refine xm_nm (fun M16 e15 => ?_)
  have hP : xm_pg b 159 [(154, 5, 158), (154, 4, 157), (154, 3, 156), (154, 2, 155), (0, 5, 151), (151, 1, 153), (151, 0, 152), (0, 4, 145), (145, 4, 150), (145, 3, 149), (145, 2, 148), (145, 1, 147), (145, 0, 146), (0, 3, 55), (55, 7, 129), (129, 1, 144), (129, 0, 130), (55, 6, 110), (110, 8, 128), (110, 7, 127), (110, 6, 126), (110, 5, 115), (110, 3, 114), (110, 2, 113), (110, 1, 112), (110, 0, 111), (55, 5, 109), (55, 4, 108), (55, 3, 107), (55, 2, 106), (55, 1, 105), (55, 0, 56), (0, 2, 53), (53, 0, 54), (0, 1, 51), (51, 0, 52), (0, 0, 1), (1, 1, 2)] [(130, 13), (115, 10), (56, 48), (2, 48)] [(0, 6, (-2 : Int32)), (1, 0, lv)] 48 M16 := by rw [e15]; exact hP.pr (by decide) (by decide) (by decide)
  refine x_aload_n d11_init_36 0 rfl rfl ?_
  refine x_bipush d11_init_37 qb_48 ?_
  refine x_newa d11_init_39 rfl (by decide) rfl ac_int (by decide) (N := 48) (by decide) (by decide) ⟨by decide, by decide⟩ ?_
  refine xm_ad (show xm_nx M16 = b + 159 from hP.1) ?_
  refine xm_nm (fun M18 e17 => ?_)
  have hP : xm_pg b 160 [(154, 5, 158), (154, 4, 157), (154, 3, 156), (154, 2, 155), (0, 5, 151), (151, 1, 153), (151, 0, 152), (0, 4, 145), (145, 4, 150), (145, 3, 149), (145, 2, 148), (145, 1, 147), (145, 0, 146), (0, 3, 55), (55, 7, 129), (129, 1, 144), (129, 0, 130), (55, 6, 110), (110, 8, 128), (110, 7, 127), (110, 6, 126), (110, 5, 115), (110, 3, 114), (110, 2, 113), (110, 1, 112), (110, 0, 111), (55, 5, 109), (55, 4, 108), (55, 3, 107), (55, 2, 106), (55, 1, 105), (55, 0, 56), (0, 2, 53), (53, 0, 54), (0, 1, 51), (51, 0, 52), (0, 0, 1), (1, 1, 2)] [(130, 13), (115, 10), (56, 48), (2, 48)] [(0, 6, (-2 : Int32)), (1, 0, lv)] 48 M18 := by rw [e17]; exact hP.new rfl (by simp) (by decide)
  refine x_putFR d11_init_41 ff11_22 rfl (fun _ _ => rfl) rfl rfl (hP.sh (k := 154) (by decide) rfl) ?_
  refine xm_nm (fun M20 e19 => ?_)
  have hP : xm_pg b 160 [(154, 6, 159), (154, 5, 158), (154, 4, 157), (154, 3, 156), (154, 2, 155), (0, 5, 151), (151, 1, 153), (151, 0, 152), (0, 4, 145), (145, 4, 150), (145, 3, 149), (145, 2, 148), (145, 1, 147), (145, 0, 146), (0, 3, 55), (55, 7, 129), (129, 1, 144), (129, 0, 130), (55, 6, 110), (110, 8, 128), (110, 7, 127), (110, 6, 126), (110, 5, 115), (110, 3, 114), (110, 2, 113), (110, 1, 112), (110, 0, 111), (55, 5, 109), (55, 4, 108), (55, 3, 107), (55, 2, 106), (55, 1, 105), (55, 0, 56), (0, 2, 53), (53, 0, 54), (0, 1, 51), (51, 0, 52), (0, 0, 1), (1, 1, 2)] [(130, 13), (115, 10), (56, 48), (2, 48)] [(0, 6, (-2 : Int32)), (1, 0, lv)] 48 M20 := by rw [e19]; exact hP.pr (by decide) (by decide) (by decide)
  refine x_aload_n d11_init_44 0 rfl rfl ?_
  refine x_sipush d11_init_45 qs_20000 ?_
  refine x_newa d11_init_48 rfl (by decide) rfl ac_int (by decide) (N := 20000) (by decide) (by decide) ⟨by decide, by decide⟩ ?_
  refine xm_ad (show xm_nx M20 = b + 160 from hP.1) ?_
  refine xm_nm (fun M22 e21 => ?_)
  have hP : xm_pg b 161 [(154, 6, 159), (154, 5, 158), (154, 4, 157), (154, 3, 156), (154, 2, 155), (0, 5, 151), (151, 1, 153), (151, 0, 152), (0, 4, 145), (145, 4, 150), (145, 3, 149), (145, 2, 148), (145, 1, 147), (145, 0, 146), (0, 3, 55), (55, 7, 129), (129, 1, 144), (129, 0, 130), (55, 6, 110), (110, 8, 128), (110, 7, 127), (110, 6, 126), (110, 5, 115), (110, 3, 114), (110, 2, 113), (110, 1, 112), (110, 0, 111), (55, 5, 109), (55, 4, 108), (55, 3, 107), (55, 2, 106), (55, 1, 105), (55, 0, 56), (0, 2, 53), (53, 0, 54), (0, 1, 51), (51, 0, 52), (0, 0, 1), (1, 1, 2)] [(130, 13), (115, 10), (56, 48), (2, 48)] [(0, 6, (-2 : Int32)), (1, 0, lv)] 48 M22 := by rw [e21]; exact hP.new rfl (by simp) (by decide)
  refine x_putFR d11_init_50 ff11_25 rfl (fun _ _ => rfl) rfl rfl (hP.sh (k := 154) (by decide) rfl) ?_
  refine xm_nm (fun M24 e23 => ?_)
  have hP : xm_pg b 161 [(154, 7, 160), (154, 6, 159), (154, 5, 158), (154, 4, 157), (154, 3, 156), (154, 2, 155), (0, 5, 151), (151, 1, 153), (151, 0, 152), (0, 4, 145), (145, 4, 150), (145, 3, 149), (145, 2, 148), (145, 1, 147), (145, 0, 146), (0, 3, 55), (55, 7, 129), (129, 1, 144), (129, 0, 130), (55, 6, 110), (110, 8, 128), (110, 7, 127), (110, 6, 126), (110, 5, 115), (110, 3, 114), (110, 2, 113), (110, 1, 112), (110, 0, 111), (55, 5, 109), (55, 4, 108), (55, 3, 107), (55, 2, 106), (55, 1, 105), (55, 0, 56), (0, 2, 53), (53, 0, 54), (0, 1, 51), (51, 0, 52), (0, 0, 1), (1, 1, 2)] [(130, 13), (115, 10), (56, 48), (2, 48)] [(0, 6, (-2 : Int32)), (1, 0, lv)] 48 M24 := by rw [e23]; exact hP.pr (by decide) (by decide) (by decide)
  refine x_aload_n d11_init_53 0 rfl rfl ?_
  refine x_bipush d11_init_54 qb_n2 ?_
  refine x_putI d11_init_56 fw11_28 (fun _ _ => rfl) rfl rfl (hP.sh (k := 154) (by decide) rfl) ?_
  refine xm_nm (fun M26 e25 => ?_)
  have hP : xm_pg b 161 [(154, 7, 160), (154, 6, 159), (154, 5, 158), (154, 4, 157), (154, 3, 156), (154, 2, 155), (0, 5, 151), (151, 1, 153), (151, 0, 152), (0, 4, 145), (145, 4, 150), (145, 3, 149), (145, 2, 148), (145, 1, 147), (145, 0, 146), (0, 3, 55), (55, 7, 129), (129, 1, 144), (129, 0, 130), (55, 6, 110), (110, 8, 128), (110, 7, 127), (110, 6, 126), (110, 5, 115), (110, 3, 114), (110, 2, 113), (110, 1, 112), (110, 0, 111), (55, 5, 109), (55, 4, 108), (55, 3, 107), (55, 2, 106), (55, 1, 105), (55, 0, 56), (0, 2, 53), (53, 0, 54), (0, 1, 51), (51, 0, 52), (0, 0, 1), (1, 1, 2)] [(130, 13), (115, 10), (56, 48), (2, 48)] [(154, 9, (-2 : Int32)), (0, 6, (-2 : Int32)), (1, 0, lv)] 48 M26 := by rw [e25]; exact hP.pi
  refine x_aload_n d11_init_59 0 rfl rfl ?_
  refine x_sipush d11_init_60 qs_1024 ?_
  refine x_newa d11_init_63 rfl (by decide) rfl ac_byte (by decide) (N := 1024) (by decide) (by decide) ⟨by decide, by decide⟩ ?_
  refine xm_ad (show xm_nx M26 = b + 161 from hP.1) ?_
  refine xm_nm (fun M28 e27 => ?_)
  have hP : xm_pg b 162 [(154, 7, 160), (154, 6, 159), (154, 5, 158), (154, 4, 157), (154, 3, 156), (154, 2, 155), (0, 5, 151), (151, 1, 153), (151, 0, 152), (0, 4, 145), (145, 4, 150), (145, 3, 149), (145, 2, 148), (145, 1, 147), (145, 0, 146), (0, 3, 55), (55, 7, 129), (129, 1, 144), (129, 0, 130), (55, 6, 110), (110, 8, 128), (110, 7, 127), (110, 6, 126), (110, 5, 115), (110, 3, 114), (110, 2, 113), (110, 1, 112), (110, 0, 111), (55, 5, 109), (55, 4, 108), (55, 3, 107), (55, 2, 106), (55, 1, 105), (55, 0, 56), (0, 2, 53), (53, 0, 54), (0, 1, 51), (51, 0, 52), (0, 0, 1), (1, 1, 2)] [(130, 13), (115, 10), (56, 48), (2, 48)] [(154, 9, (-2 : Int32)), (0, 6, (-2 : Int32)), (1, 0, lv)] 48 M28 := by rw [e27]; exact hP.new rfl (by simp) (by decide)
  refine x_putFR d11_init_65 ff11_32 rfl (fun _ _ => rfl) rfl rfl (hP.sh (k := 154) (by decide) rfl) ?_
  refine xm_nm (fun M30 e29 => ?_)
  have hP : xm_pg b 162 [(154, 10, 161), (154, 7, 160), (154, 6, 159), (154, 5, 158), (154, 4, 157), (154, 3, 156), (154, 2, 155), (0, 5, 151), (151, 1, 153), (151, 0, 152), (0, 4, 145), (145, 4, 150), (145, 3, 149), (145, 2, 148), (145, 1, 147), (145, 0, 146), (0, 3, 55), (55, 7, 129), (129, 1, 144), (129, 0, 130), (55, 6, 110), (110, 8, 128), (110, 7, 127), (110, 6, 126), (110, 5, 115), (110, 3, 114), (110, 2, 113), (110, 1, 112), (110, 0, 111), (55, 5, 109), (55, 4, 108), (55, 3, 107), (55, 2, 106), (55, 1, 105), (55, 0, 56), (0, 2, 53), (53, 0, 54), (0, 1, 51), (51, 0, 52), (0, 0, 1), (1, 1, 2)] [(130, 13), (115, 10), (56, 48), (2, 48)] [(154, 9, (-2 : Int32)), (0, 6, (-2 : Int32)), (1, 0, lv)] 48 M30 := by rw [e29]; exact hP.pr (by decide) (by decide) (by decide)
  refine x_aload_n d11_init_68 0 rfl rfl ?_
  refine x_sipush d11_init_69 qs_1200 ?_
  refine x_newa d11_init_72 rfl (by decide) rfl ac_int (by decide) (N := 1200) (by decide) (by decide) ⟨by decide, by decide⟩ ?_
  refine xm_ad (show xm_nx M30 = b + 162 from hP.1) ?_
  refine xm_nm (fun M32 e31 => ?_)
  have hP : xm_pg b 163 [(154, 10, 161), (154, 7, 160), (154, 6, 159), (154, 5, 158), (154, 4, 157), (154, 3, 156), (154, 2, 155), (0, 5, 151), (151, 1, 153), (151, 0, 152), (0, 4, 145), (145, 4, 150), (145, 3, 149), (145, 2, 148), (145, 1, 147), (145, 0, 146), (0, 3, 55), (55, 7, 129), (129, 1, 144), (129, 0, 130), (55, 6, 110), (110, 8, 128), (110, 7, 127), (110, 6, 126), (110, 5, 115), (110, 3, 114), (110, 2, 113), (110, 1, 112), (110, 0, 111), (55, 5, 109), (55, 4, 108), (55, 3, 107), (55, 2, 106), (55, 1, 105), (55, 0, 56), (0, 2, 53), (53, 0, 54), (0, 1, 51), (51, 0, 52), (0, 0, 1), (1, 1, 2)] [(130, 13), (115, 10), (56, 48), (2, 48)] [(154, 9, (-2 : Int32)), (0, 6, (-2 : Int32)), (1, 0, lv)] 48 M32 := by rw [e31]; exact hP.new rfl (by simp) (by decide)
  refine x_putFR d11_init_74 ff11_36 rfl (fun _ _ => rfl) rfl rfl (hP.sh (k := 154) (by decide) rfl) ?_
  refine xm_nm (fun M34 e33 => ?_)
  have hP : xm_pg b 163 [(154, 15, 162), (154, 10, 161), (154, 7, 160), (154, 6, 159), (154, 5, 158), (154, 4, 157), (154, 3, 156), (154, 2, 155), (0, 5, 151), (151, 1, 153), (151, 0, 152), (0, 4, 145), (145, 4, 150), (145, 3, 149), (145, 2, 148), (145, 1, 147), (145, 0, 146), (0, 3, 55), (55, 7, 129), (129, 1, 144), (129, 0, 130), (55, 6, 110), (110, 8, 128), (110, 7, 127), (110, 6, 126), (110, 5, 115), (110, 3, 114), (110, 2, 113), (110, 1, 112), (110, 0, 111), (55, 5, 109), (55, 4, 108), (55, 3, 107), (55, 2, 106), (55, 1, 105), (55, 0, 56), (0, 2, 53), (53, 0, 54), (0, 1, 51), (51, 0, 52), (0, 0, 1), (1, 1, 2)] [(130, 13), (115, 10), (56, 48), (2, 48)] [(154, 9, (-2 : Int32)), (0, 6, (-2 : Int32)), (1, 0, lv)] 48 M34 := by rw [e33]; exact hP.pr (by decide) (by decide) (by decide)
  refine x_aload_n d11_init_77 0 rfl rfl ?_
  refine x_sipush d11_init_78 qs_1200 ?_
  refine x_newa d11_init_81 rfl (by decide) rfl ac_int (by decide) (N := 1200) (by decide) (by decide) ⟨by decide, by decide⟩ ?_
  refine xm_ad (show xm_nx M34 = b + 163 from hP.1) ?_
  refine xm_nm (fun M36 e35 => ?_)
  have hP : xm_pg b 164 [(154, 15, 162), (154, 10, 161), (154, 7, 160), (154, 6, 159), (154, 5, 158), (154, 4, 157), (154, 3, 156), (154, 2, 155), (0, 5, 151), (151, 1, 153), (151, 0, 152), (0, 4, 145), (145, 4, 150), (145, 3, 149), (145, 2, 148), (145, 1, 147), (145, 0, 146), (0, 3, 55), (55, 7, 129), (129, 1, 144), (129, 0, 130), (55, 6, 110), (110, 8, 128), (110, 7, 127), (110, 6, 126), (110, 5, 115), (110, 3, 114), (110, 2, 113), (110, 1, 112), (110, 0, 111), (55, 5, 109), (55, 4, 108), (55, 3, 107), (55, 2, 106), (55, 1, 105), (55, 0, 56), (0, 2, 53), (53, 0, 54), (0, 1, 51), (51, 0, 52), (0, 0, 1), (1, 1, 2)] [(130, 13), (115, 10), (56, 48), (2, 48)] [(154, 9, (-2 : Int32)), (0, 6, (-2 : Int32)), (1, 0, lv)] 48 M36 := by rw [e35]; exact hP.new rfl (by simp) (by decide)
  refine x_putFR d11_init_83 ff11_39 rfl (fun _ _ => rfl) rfl rfl (hP.sh (k := 154) (by decide) rfl) ?_
  refine xm_nm (fun M38 e37 => ?_)
  have hP : xm_pg b 164 [(154, 16, 163), (154, 15, 162), (154, 10, 161), (154, 7, 160), (154, 6, 159), (154, 5, 158), (154, 4, 157), (154, 3, 156), (154, 2, 155), (0, 5, 151), (151, 1, 153), (151, 0, 152), (0, 4, 145), (145, 4, 150), (145, 3, 149), (145, 2, 148), (145, 1, 147), (145, 0, 146), (0, 3, 55), (55, 7, 129), (129, 1, 144), (129, 0, 130), (55, 6, 110), (110, 8, 128), (110, 7, 127), (110, 6, 126), (110, 5, 115), (110, 3, 114), (110, 2, 113), (110, 1, 112), (110, 0, 111), (55, 5, 109), (55, 4, 108), (55, 3, 107), (55, 2, 106), (55, 1, 105), (55, 0, 56), (0, 2, 53), (53, 0, 54), (0, 1, 51), (51, 0, 52), (0, 0, 1), (1, 1, 2)] [(130, 13), (115, 10), (56, 48), (2, 48)] [(154, 9, (-2 : Int32)), (0, 6, (-2 : Int32)), (1, 0, lv)] 48 M38 := by rw [e37]; exact hP.pr (by decide) (by decide) (by decide)
  refine x_aload_n d11_init_86 0 rfl rfl ?_
  refine x_sipush d11_init_87 qs_1200 ?_
  refine x_newa d11_init_90 rfl (by decide) rfl ac_int (by decide) (N := 1200) (by decide) (by decide) ⟨by decide, by decide⟩ ?_
  refine xm_ad (show xm_nx M38 = b + 164 from hP.1) ?_
  refine xm_nm (fun M40 e39 => ?_)
  have hP : xm_pg b 165 [(154, 16, 163), (154, 15, 162), (154, 10, 161), (154, 7, 160), (154, 6, 159), (154, 5, 158), (154, 4, 157), (154, 3, 156), (154, 2, 155), (0, 5, 151), (151, 1, 153), (151, 0, 152), (0, 4, 145), (145, 4, 150), (145, 3, 149), (145, 2, 148), (145, 1, 147), (145, 0, 146), (0, 3, 55), (55, 7, 129), (129, 1, 144), (129, 0, 130), (55, 6, 110), (110, 8, 128), (110, 7, 127), (110, 6, 126), (110, 5, 115), (110, 3, 114), (110, 2, 113), (110, 1, 112), (110, 0, 111), (55, 5, 109), (55, 4, 108), (55, 3, 107), (55, 2, 106), (55, 1, 105), (55, 0, 56), (0, 2, 53), (53, 0, 54), (0, 1, 51), (51, 0, 52), (0, 0, 1), (1, 1, 2)] [(130, 13), (115, 10), (56, 48), (2, 48)] [(154, 9, (-2 : Int32)), (0, 6, (-2 : Int32)), (1, 0, lv)] 48 M40 := by rw [e39]; exact hP.new rfl (by simp) (by decide)
  refine x_putFR d11_init_92 ff11_42 rfl (fun _ _ => rfl) rfl rfl (hP.sh (k := 154) (by decide) rfl) ?_
  refine xm_nm (fun M42 e41 => ?_)
  have hP : xm_pg b 165 [(154, 17, 164), (154, 16, 163), (154, 15, 162), (154, 10, 161), (154, 7, 160), (154, 6, 159), (154, 5, 158), (154, 4, 157), (154, 3, 156), (154, 2, 155), (0, 5, 151), (151, 1, 153), (151, 0, 152), (0, 4, 145), (145, 4, 150), (145, 3, 149), (145, 2, 148), (145, 1, 147), (145, 0, 146), (0, 3, 55), (55, 7, 129), (129, 1, 144), (129, 0, 130), (55, 6, 110), (110, 8, 128), (110, 7, 127), (110, 6, 126), (110, 5, 115), (110, 3, 114), (110, 2, 113), (110, 1, 112), (110, 0, 111), (55, 5, 109), (55, 4, 108), (55, 3, 107), (55, 2, 106), (55, 1, 105), (55, 0, 56), (0, 2, 53), (53, 0, 54), (0, 1, 51), (51, 0, 52), (0, 0, 1), (1, 1, 2)] [(130, 13), (115, 10), (56, 48), (2, 48)] [(154, 9, (-2 : Int32)), (0, 6, (-2 : Int32)), (1, 0, lv)] 48 M42 := by rw [e41]; exact hP.pr (by decide) (by decide) (by decide)
  refine x_aload_n d11_init_95 0 rfl rfl ?_
  refine x_sipush d11_init_96 qs_1200 ?_
  refine x_newa d11_init_99 rfl (by decide) rfl ac_long (by decide) (N := 1200) (by decide) (by decide) ⟨by decide, by decide⟩ ?_
  refine xm_ad (show xm_nx M42 = b + 165 from hP.1) ?_
  refine xm_nm (fun M44 e43 => ?_)
  have hP : xm_pg b 166 [(154, 17, 164), (154, 16, 163), (154, 15, 162), (154, 10, 161), (154, 7, 160), (154, 6, 159), (154, 5, 158), (154, 4, 157), (154, 3, 156), (154, 2, 155), (0, 5, 151), (151, 1, 153), (151, 0, 152), (0, 4, 145), (145, 4, 150), (145, 3, 149), (145, 2, 148), (145, 1, 147), (145, 0, 146), (0, 3, 55), (55, 7, 129), (129, 1, 144), (129, 0, 130), (55, 6, 110), (110, 8, 128), (110, 7, 127), (110, 6, 126), (110, 5, 115), (110, 3, 114), (110, 2, 113), (110, 1, 112), (110, 0, 111), (55, 5, 109), (55, 4, 108), (55, 3, 107), (55, 2, 106), (55, 1, 105), (55, 0, 56), (0, 2, 53), (53, 0, 54), (0, 1, 51), (51, 0, 52), (0, 0, 1), (1, 1, 2)] [(130, 13), (115, 10), (56, 48), (2, 48)] [(154, 9, (-2 : Int32)), (0, 6, (-2 : Int32)), (1, 0, lv)] 48 M44 := by rw [e43]; exact hP.new rfl (by simp) (by decide)
  refine x_putFR d11_init_101 ff11_45 rfl (fun _ _ => rfl) rfl rfl (hP.sh (k := 154) (by decide) rfl) ?_
  refine xm_nm (fun M46 e45 => ?_)
  have hP : xm_pg b 166 [(154, 18, 165), (154, 17, 164), (154, 16, 163), (154, 15, 162), (154, 10, 161), (154, 7, 160), (154, 6, 159), (154, 5, 158), (154, 4, 157), (154, 3, 156), (154, 2, 155), (0, 5, 151), (151, 1, 153), (151, 0, 152), (0, 4, 145), (145, 4, 150), (145, 3, 149), (145, 2, 148), (145, 1, 147), (145, 0, 146), (0, 3, 55), (55, 7, 129), (129, 1, 144), (129, 0, 130), (55, 6, 110), (110, 8, 128), (110, 7, 127), (110, 6, 126), (110, 5, 115), (110, 3, 114), (110, 2, 113), (110, 1, 112), (110, 0, 111), (55, 5, 109), (55, 4, 108), (55, 3, 107), (55, 2, 106), (55, 1, 105), (55, 0, 56), (0, 2, 53), (53, 0, 54), (0, 1, 51), (51, 0, 52), (0, 0, 1), (1, 1, 2)] [(130, 13), (115, 10), (56, 48), (2, 48)] [(154, 9, (-2 : Int32)), (0, 6, (-2 : Int32)), (1, 0, lv)] 48 M46 := by rw [e45]; exact hP.pr (by decide) (by decide) (by decide)
  refine x_aload_n d11_init_104 0 rfl rfl ?_
  refine x_sipush d11_init_105 qs_4800 ?_
  refine x_newa d11_init_108 rfl (by decide) rfl ac_long (by decide) (N := 4800) (by decide) (by decide) ⟨by decide, by decide⟩ ?_
  refine xm_ad (show xm_nx M46 = b + 166 from hP.1) ?_
  refine xm_nm (fun M48 e47 => ?_)
  have hP : xm_pg b 167 [(154, 18, 165), (154, 17, 164), (154, 16, 163), (154, 15, 162), (154, 10, 161), (154, 7, 160), (154, 6, 159), (154, 5, 158), (154, 4, 157), (154, 3, 156), (154, 2, 155), (0, 5, 151), (151, 1, 153), (151, 0, 152), (0, 4, 145), (145, 4, 150), (145, 3, 149), (145, 2, 148), (145, 1, 147), (145, 0, 146), (0, 3, 55), (55, 7, 129), (129, 1, 144), (129, 0, 130), (55, 6, 110), (110, 8, 128), (110, 7, 127), (110, 6, 126), (110, 5, 115), (110, 3, 114), (110, 2, 113), (110, 1, 112), (110, 0, 111), (55, 5, 109), (55, 4, 108), (55, 3, 107), (55, 2, 106), (55, 1, 105), (55, 0, 56), (0, 2, 53), (53, 0, 54), (0, 1, 51), (51, 0, 52), (0, 0, 1), (1, 1, 2)] [(130, 13), (115, 10), (56, 48), (2, 48)] [(154, 9, (-2 : Int32)), (0, 6, (-2 : Int32)), (1, 0, lv)] 48 M48 := by rw [e47]; exact hP.new rfl (by simp) (by decide)
  refine x_putFR d11_init_110 ff11_49 rfl (fun _ _ => rfl) rfl rfl (hP.sh (k := 154) (by decide) rfl) ?_
  refine xm_nm (fun M50 e49 => ?_)
  have hP : xm_pg b 167 [(154, 20, 166), (154, 18, 165), (154, 17, 164), (154, 16, 163), (154, 15, 162), (154, 10, 161), (154, 7, 160), (154, 6, 159), (154, 5, 158), (154, 4, 157), (154, 3, 156), (154, 2, 155), (0, 5, 151), (151, 1, 153), (151, 0, 152), (0, 4, 145), (145, 4, 150), (145, 3, 149), (145, 2, 148), (145, 1, 147), (145, 0, 146), (0, 3, 55), (55, 7, 129), (129, 1, 144), (129, 0, 130), (55, 6, 110), (110, 8, 128), (110, 7, 127), (110, 6, 126), (110, 5, 115), (110, 3, 114), (110, 2, 113), (110, 1, 112), (110, 0, 111), (55, 5, 109), (55, 4, 108), (55, 3, 107), (55, 2, 106), (55, 1, 105), (55, 0, 56), (0, 2, 53), (53, 0, 54), (0, 1, 51), (51, 0, 52), (0, 0, 1), (1, 1, 2)] [(130, 13), (115, 10), (56, 48), (2, 48)] [(154, 9, (-2 : Int32)), (0, 6, (-2 : Int32)), (1, 0, lv)] 48 M50 := by rw [e49]; exact hP.pr (by decide) (by decide) (by decide)
  refine x_aload_n d11_init_113 0 rfl rfl ?_
  refine x_bipush d11_init_114 qb_48 ?_
  refine x_newa d11_init_116 rfl (by decide) rfl ac_boolean (by decide) (N := 48) (by decide) (by decide) ⟨by decide, by decide⟩ ?_
  refine xm_ad (show xm_nx M50 = b + 167 from hP.1) ?_
  refine xm_nm (fun M52 e51 => ?_)
  have hP : xm_pg b 168 [(154, 20, 166), (154, 18, 165), (154, 17, 164), (154, 16, 163), (154, 15, 162), (154, 10, 161), (154, 7, 160), (154, 6, 159), (154, 5, 158), (154, 4, 157), (154, 3, 156), (154, 2, 155), (0, 5, 151), (151, 1, 153), (151, 0, 152), (0, 4, 145), (145, 4, 150), (145, 3, 149), (145, 2, 148), (145, 1, 147), (145, 0, 146), (0, 3, 55), (55, 7, 129), (129, 1, 144), (129, 0, 130), (55, 6, 110), (110, 8, 128), (110, 7, 127), (110, 6, 126), (110, 5, 115), (110, 3, 114), (110, 2, 113), (110, 1, 112), (110, 0, 111), (55, 5, 109), (55, 4, 108), (55, 3, 107), (55, 2, 106), (55, 1, 105), (55, 0, 56), (0, 2, 53), (53, 0, 54), (0, 1, 51), (51, 0, 52), (0, 0, 1), (1, 1, 2)] [(130, 13), (115, 10), (56, 48), (2, 48)] [(154, 9, (-2 : Int32)), (0, 6, (-2 : Int32)), (1, 0, lv)] 48 M52 := by rw [e51]; exact hP.new rfl (by simp) (by decide)
  refine x_putFR d11_init_118 ff11_52 rfl (fun _ _ => rfl) rfl rfl (hP.sh (k := 154) (by decide) rfl) ?_
  refine xm_nm (fun M54 e53 => ?_)
  have hP : xm_pg b 168 [(154, 21, 167), (154, 20, 166), (154, 18, 165), (154, 17, 164), (154, 16, 163), (154, 15, 162), (154, 10, 161), (154, 7, 160), (154, 6, 159), (154, 5, 158), (154, 4, 157), (154, 3, 156), (154, 2, 155), (0, 5, 151), (151, 1, 153), (151, 0, 152), (0, 4, 145), (145, 4, 150), (145, 3, 149), (145, 2, 148), (145, 1, 147), (145, 0, 146), (0, 3, 55), (55, 7, 129), (129, 1, 144), (129, 0, 130), (55, 6, 110), (110, 8, 128), (110, 7, 127), (110, 6, 126), (110, 5, 115), (110, 3, 114), (110, 2, 113), (110, 1, 112), (110, 0, 111), (55, 5, 109), (55, 4, 108), (55, 3, 107), (55, 2, 106), (55, 1, 105), (55, 0, 56), (0, 2, 53), (53, 0, 54), (0, 1, 51), (51, 0, 52), (0, 0, 1), (1, 1, 2)] [(130, 13), (115, 10), (56, 48), (2, 48)] [(154, 9, (-2 : Int32)), (0, 6, (-2 : Int32)), (1, 0, lv)] 48 M54 := by rw [e53]; exact hP.pr (by decide) (by decide) (by decide)
  refine x_aload_n d11_init_121 0 rfl rfl ?_
  refine x_bipush d11_init_122 qb_96 ?_
  refine x_newa d11_init_124 rfl (by decide) rfl ac_boolean (by decide) (N := 96) (by decide) (by decide) ⟨by decide, by decide⟩ ?_
  refine xm_ad (show xm_nx M54 = b + 168 from hP.1) ?_
  refine xm_nm (fun M56 e55 => ?_)
  have hP : xm_pg b 169 [(154, 21, 167), (154, 20, 166), (154, 18, 165), (154, 17, 164), (154, 16, 163), (154, 15, 162), (154, 10, 161), (154, 7, 160), (154, 6, 159), (154, 5, 158), (154, 4, 157), (154, 3, 156), (154, 2, 155), (0, 5, 151), (151, 1, 153), (151, 0, 152), (0, 4, 145), (145, 4, 150), (145, 3, 149), (145, 2, 148), (145, 1, 147), (145, 0, 146), (0, 3, 55), (55, 7, 129), (129, 1, 144), (129, 0, 130), (55, 6, 110), (110, 8, 128), (110, 7, 127), (110, 6, 126), (110, 5, 115), (110, 3, 114), (110, 2, 113), (110, 1, 112), (110, 0, 111), (55, 5, 109), (55, 4, 108), (55, 3, 107), (55, 2, 106), (55, 1, 105), (55, 0, 56), (0, 2, 53), (53, 0, 54), (0, 1, 51), (51, 0, 52), (0, 0, 1), (1, 1, 2)] [(130, 13), (115, 10), (56, 48), (2, 48)] [(154, 9, (-2 : Int32)), (0, 6, (-2 : Int32)), (1, 0, lv)] 48 M56 := by rw [e55]; exact hP.new rfl (by simp) (by decide)
  refine x_putFR d11_init_126 ff11_56 rfl (fun _ _ => rfl) rfl rfl (hP.sh (k := 154) (by decide) rfl) ?_
  refine xm_nm (fun M58 e57 => ?_)
  have hP : xm_pg b 169 [(154, 22, 168), (154, 21, 167), (154, 20, 166), (154, 18, 165), (154, 17, 164), (154, 16, 163), (154, 15, 162), (154, 10, 161), (154, 7, 160), (154, 6, 159), (154, 5, 158), (154, 4, 157), (154, 3, 156), (154, 2, 155), (0, 5, 151), (151, 1, 153), (151, 0, 152), (0, 4, 145), (145, 4, 150), (145, 3, 149), (145, 2, 148), (145, 1, 147), (145, 0, 146), (0, 3, 55), (55, 7, 129), (129, 1, 144), (129, 0, 130), (55, 6, 110), (110, 8, 128), (110, 7, 127), (110, 6, 126), (110, 5, 115), (110, 3, 114), (110, 2, 113), (110, 1, 112), (110, 0, 111), (55, 5, 109), (55, 4, 108), (55, 3, 107), (55, 2, 106), (55, 1, 105), (55, 0, 56), (0, 2, 53), (53, 0, 54), (0, 1, 51), (51, 0, 52), (0, 0, 1), (1, 1, 2)] [(130, 13), (115, 10), (56, 48), (2, 48)] [(154, 9, (-2 : Int32)), (0, 6, (-2 : Int32)), (1, 0, lv)] 48 M58 := by rw [e57]; exact hP.pr (by decide) (by decide) (by decide)
  refine x_aload_n d11_init_129 0 rfl rfl ?_
  refine x_bipush d11_init_130 qb_100 ?_
  refine x_newa d11_init_132 rfl (by decide) rfl ac_long (by decide) (N := 100) (by decide) (by decide) ⟨by decide, by decide⟩ ?_
  refine xm_ad (show xm_nx M58 = b + 169 from hP.1) ?_
  refine xm_nm (fun M60 e59 => ?_)
  have hP : xm_pg b 170 [(154, 22, 168), (154, 21, 167), (154, 20, 166), (154, 18, 165), (154, 17, 164), (154, 16, 163), (154, 15, 162), (154, 10, 161), (154, 7, 160), (154, 6, 159), (154, 5, 158), (154, 4, 157), (154, 3, 156), (154, 2, 155), (0, 5, 151), (151, 1, 153), (151, 0, 152), (0, 4, 145), (145, 4, 150), (145, 3, 149), (145, 2, 148), (145, 1, 147), (145, 0, 146), (0, 3, 55), (55, 7, 129), (129, 1, 144), (129, 0, 130), (55, 6, 110), (110, 8, 128), (110, 7, 127), (110, 6, 126), (110, 5, 115), (110, 3, 114), (110, 2, 113), (110, 1, 112), (110, 0, 111), (55, 5, 109), (55, 4, 108), (55, 3, 107), (55, 2, 106), (55, 1, 105), (55, 0, 56), (0, 2, 53), (53, 0, 54), (0, 1, 51), (51, 0, 52), (0, 0, 1), (1, 1, 2)] [(130, 13), (115, 10), (56, 48), (2, 48)] [(154, 9, (-2 : Int32)), (0, 6, (-2 : Int32)), (1, 0, lv)] 48 M60 := by rw [e59]; exact hP.new rfl (by simp) (by decide)
  refine x_putFR d11_init_134 ff11_59 rfl (fun _ _ => rfl) rfl rfl (hP.sh (k := 154) (by decide) rfl) ?_
  refine xm_nm (fun M62 e61 => ?_)
  have hP : xm_pg b 170 [(154, 23, 169), (154, 22, 168), (154, 21, 167), (154, 20, 166), (154, 18, 165), (154, 17, 164), (154, 16, 163), (154, 15, 162), (154, 10, 161), (154, 7, 160), (154, 6, 159), (154, 5, 158), (154, 4, 157), (154, 3, 156), (154, 2, 155), (0, 5, 151), (151, 1, 153), (151, 0, 152), (0, 4, 145), (145, 4, 150), (145, 3, 149), (145, 2, 148), (145, 1, 147), (145, 0, 146), (0, 3, 55), (55, 7, 129), (129, 1, 144), (129, 0, 130), (55, 6, 110), (110, 8, 128), (110, 7, 127), (110, 6, 126), (110, 5, 115), (110, 3, 114), (110, 2, 113), (110, 1, 112), (110, 0, 111), (55, 5, 109), (55, 4, 108), (55, 3, 107), (55, 2, 106), (55, 1, 105), (55, 0, 56), (0, 2, 53), (53, 0, 54), (0, 1, 51), (51, 0, 52), (0, 0, 1), (1, 1, 2)] [(130, 13), (115, 10), (56, 48), (2, 48)] [(154, 9, (-2 : Int32)), (0, 6, (-2 : Int32)), (1, 0, lv)] 48 M62 := by rw [e61]; exact hP.pr (by decide) (by decide) (by decide)
  refine x_aload_n d11_init_137 0 rfl rfl ?_
  refine x_sipush d11_init_138 qs_130 ?_
  refine x_newa d11_init_141 rfl (by decide) rfl ac_long (by decide) (N := 130) (by decide) (by decide) ⟨by decide, by decide⟩ ?_
  refine xm_ad (show xm_nx M62 = b + 170 from hP.1) ?_
  refine xm_nm (fun M64 e63 => ?_)
  have hP : xm_pg b 171 [(154, 23, 169), (154, 22, 168), (154, 21, 167), (154, 20, 166), (154, 18, 165), (154, 17, 164), (154, 16, 163), (154, 15, 162), (154, 10, 161), (154, 7, 160), (154, 6, 159), (154, 5, 158), (154, 4, 157), (154, 3, 156), (154, 2, 155), (0, 5, 151), (151, 1, 153), (151, 0, 152), (0, 4, 145), (145, 4, 150), (145, 3, 149), (145, 2, 148), (145, 1, 147), (145, 0, 146), (0, 3, 55), (55, 7, 129), (129, 1, 144), (129, 0, 130), (55, 6, 110), (110, 8, 128), (110, 7, 127), (110, 6, 126), (110, 5, 115), (110, 3, 114), (110, 2, 113), (110, 1, 112), (110, 0, 111), (55, 5, 109), (55, 4, 108), (55, 3, 107), (55, 2, 106), (55, 1, 105), (55, 0, 56), (0, 2, 53), (53, 0, 54), (0, 1, 51), (51, 0, 52), (0, 0, 1), (1, 1, 2)] [(130, 13), (115, 10), (56, 48), (2, 48)] [(154, 9, (-2 : Int32)), (0, 6, (-2 : Int32)), (1, 0, lv)] 48 M64 := by rw [e63]; exact hP.new rfl (by simp) (by decide)
  refine x_putFR d11_init_143 ff11_62 rfl (fun _ _ => rfl) rfl rfl (hP.sh (k := 154) (by decide) rfl) ?_
  refine xm_nm (fun M66 e65 => ?_)
  have hP : xm_pg b 171 [(154, 24, 170), (154, 23, 169), (154, 22, 168), (154, 21, 167), (154, 20, 166), (154, 18, 165), (154, 17, 164), (154, 16, 163), (154, 15, 162), (154, 10, 161), (154, 7, 160), (154, 6, 159), (154, 5, 158), (154, 4, 157), (154, 3, 156), (154, 2, 155), (0, 5, 151), (151, 1, 153), (151, 0, 152), (0, 4, 145), (145, 4, 150), (145, 3, 149), (145, 2, 148), (145, 1, 147), (145, 0, 146), (0, 3, 55), (55, 7, 129), (129, 1, 144), (129, 0, 130), (55, 6, 110), (110, 8, 128), (110, 7, 127), (110, 6, 126), (110, 5, 115), (110, 3, 114), (110, 2, 113), (110, 1, 112), (110, 0, 111), (55, 5, 109), (55, 4, 108), (55, 3, 107), (55, 2, 106), (55, 1, 105), (55, 0, 56), (0, 2, 53), (53, 0, 54), (0, 1, 51), (51, 0, 52), (0, 0, 1), (1, 1, 2)] [(130, 13), (115, 10), (56, 48), (2, 48)] [(154, 9, (-2 : Int32)), (0, 6, (-2 : Int32)), (1, 0, lv)] 48 M66 := by rw [e65]; exact hP.pr (by decide) (by decide) (by decide)
  refine x_aload_n d11_init_146 0 rfl rfl ?_
  refine x_bipush d11_init_147 qb_12 ?_
  refine x_newa d11_init_149 rfl (by decide) rfl ac_int (by decide) (N := 12) (by decide) (by decide) ⟨by decide, by decide⟩ ?_
  refine xm_ad (show xm_nx M66 = b + 171 from hP.1) ?_
  refine xm_nm (fun M68 e67 => ?_)
  have hP : xm_pg b 172 [(154, 24, 170), (154, 23, 169), (154, 22, 168), (154, 21, 167), (154, 20, 166), (154, 18, 165), (154, 17, 164), (154, 16, 163), (154, 15, 162), (154, 10, 161), (154, 7, 160), (154, 6, 159), (154, 5, 158), (154, 4, 157), (154, 3, 156), (154, 2, 155), (0, 5, 151), (151, 1, 153), (151, 0, 152), (0, 4, 145), (145, 4, 150), (145, 3, 149), (145, 2, 148), (145, 1, 147), (145, 0, 146), (0, 3, 55), (55, 7, 129), (129, 1, 144), (129, 0, 130), (55, 6, 110), (110, 8, 128), (110, 7, 127), (110, 6, 126), (110, 5, 115), (110, 3, 114), (110, 2, 113), (110, 1, 112), (110, 0, 111), (55, 5, 109), (55, 4, 108), (55, 3, 107), (55, 2, 106), (55, 1, 105), (55, 0, 56), (0, 2, 53), (53, 0, 54), (0, 1, 51), (51, 0, 52), (0, 0, 1), (1, 1, 2)] [(130, 13), (115, 10), (56, 48), (2, 48)] [(154, 9, (-2 : Int32)), (0, 6, (-2 : Int32)), (1, 0, lv)] 48 M68 := by rw [e67]; exact hP.new rfl (by simp) (by decide)
  refine x_putFR d11_init_151 ff11_65 rfl (fun _ _ => rfl) rfl rfl (hP.sh (k := 154) (by decide) rfl) ?_
  refine xm_nm (fun M70 e69 => ?_)
  have hP : xm_pg b 172 [(154, 25, 171), (154, 24, 170), (154, 23, 169), (154, 22, 168), (154, 21, 167), (154, 20, 166), (154, 18, 165), (154, 17, 164), (154, 16, 163), (154, 15, 162), (154, 10, 161), (154, 7, 160), (154, 6, 159), (154, 5, 158), (154, 4, 157), (154, 3, 156), (154, 2, 155), (0, 5, 151), (151, 1, 153), (151, 0, 152), (0, 4, 145), (145, 4, 150), (145, 3, 149), (145, 2, 148), (145, 1, 147), (145, 0, 146), (0, 3, 55), (55, 7, 129), (129, 1, 144), (129, 0, 130), (55, 6, 110), (110, 8, 128), (110, 7, 127), (110, 6, 126), (110, 5, 115), (110, 3, 114), (110, 2, 113), (110, 1, 112), (110, 0, 111), (55, 5, 109), (55, 4, 108), (55, 3, 107), (55, 2, 106), (55, 1, 105), (55, 0, 56), (0, 2, 53), (53, 0, 54), (0, 1, 51), (51, 0, 52), (0, 0, 1), (1, 1, 2)] [(130, 13), (115, 10), (56, 48), (2, 48)] [(154, 9, (-2 : Int32)), (0, 6, (-2 : Int32)), (1, 0, lv)] 48 M70 := by rw [e69]; exact hP.pr (by decide) (by decide) (by decide)
  refine x_aload_n d11_init_154 0 rfl rfl ?_
  refine x_sipush d11_init_155 qs_4800 ?_
  refine x_newa d11_init_158 rfl (by decide) rfl ac_boolean (by decide) (N := 4800) (by decide) (by decide) ⟨by decide, by decide⟩ ?_
  refine xm_ad (show xm_nx M70 = b + 172 from hP.1) ?_
  refine xm_nm (fun M72 e71 => ?_)
  have hP : xm_pg b 173 [(154, 25, 171), (154, 24, 170), (154, 23, 169), (154, 22, 168), (154, 21, 167), (154, 20, 166), (154, 18, 165), (154, 17, 164), (154, 16, 163), (154, 15, 162), (154, 10, 161), (154, 7, 160), (154, 6, 159), (154, 5, 158), (154, 4, 157), (154, 3, 156), (154, 2, 155), (0, 5, 151), (151, 1, 153), (151, 0, 152), (0, 4, 145), (145, 4, 150), (145, 3, 149), (145, 2, 148), (145, 1, 147), (145, 0, 146), (0, 3, 55), (55, 7, 129), (129, 1, 144), (129, 0, 130), (55, 6, 110), (110, 8, 128), (110, 7, 127), (110, 6, 126), (110, 5, 115), (110, 3, 114), (110, 2, 113), (110, 1, 112), (110, 0, 111), (55, 5, 109), (55, 4, 108), (55, 3, 107), (55, 2, 106), (55, 1, 105), (55, 0, 56), (0, 2, 53), (53, 0, 54), (0, 1, 51), (51, 0, 52), (0, 0, 1), (1, 1, 2)] [(130, 13), (115, 10), (56, 48), (2, 48)] [(154, 9, (-2 : Int32)), (0, 6, (-2 : Int32)), (1, 0, lv)] 48 M72 := by rw [e71]; exact hP.new rfl (by simp) (by decide)
  refine x_putFR d11_init_160 ff11_68 rfl (fun _ _ => rfl) rfl rfl (hP.sh (k := 154) (by decide) rfl) ?_
  refine xm_nm (fun M74 e73 => ?_)
  have hP : xm_pg b 173 [(154, 27, 172), (154, 25, 171), (154, 24, 170), (154, 23, 169), (154, 22, 168), (154, 21, 167), (154, 20, 166), (154, 18, 165), (154, 17, 164), (154, 16, 163), (154, 15, 162), (154, 10, 161), (154, 7, 160), (154, 6, 159), (154, 5, 158), (154, 4, 157), (154, 3, 156), (154, 2, 155), (0, 5, 151), (151, 1, 153), (151, 0, 152), (0, 4, 145), (145, 4, 150), (145, 3, 149), (145, 2, 148), (145, 1, 147), (145, 0, 146), (0, 3, 55), (55, 7, 129), (129, 1, 144), (129, 0, 130), (55, 6, 110), (110, 8, 128), (110, 7, 127), (110, 6, 126), (110, 5, 115), (110, 3, 114), (110, 2, 113), (110, 1, 112), (110, 0, 111), (55, 5, 109), (55, 4, 108), (55, 3, 107), (55, 2, 106), (55, 1, 105), (55, 0, 56), (0, 2, 53), (53, 0, 54), (0, 1, 51), (51, 0, 52), (0, 0, 1), (1, 1, 2)] [(130, 13), (115, 10), (56, 48), (2, 48)] [(154, 9, (-2 : Int32)), (0, 6, (-2 : Int32)), (1, 0, lv)] 48 M74 := by rw [e73]; exact hP.pr (by decide) (by decide) (by decide)
  refine x_aload_n d11_init_163 0 rfl rfl ?_
  refine x_sipush d11_init_164 qs_20000 ?_
  refine x_newa d11_init_167 rfl (by decide) rfl ac_int (by decide) (N := 20000) (by decide) (by decide) ⟨by decide, by decide⟩ ?_
  refine xm_ad (show xm_nx M74 = b + 173 from hP.1) ?_
  refine xm_nm (fun M76 e75 => ?_)
  have hP : xm_pg b 174 [(154, 27, 172), (154, 25, 171), (154, 24, 170), (154, 23, 169), (154, 22, 168), (154, 21, 167), (154, 20, 166), (154, 18, 165), (154, 17, 164), (154, 16, 163), (154, 15, 162), (154, 10, 161), (154, 7, 160), (154, 6, 159), (154, 5, 158), (154, 4, 157), (154, 3, 156), (154, 2, 155), (0, 5, 151), (151, 1, 153), (151, 0, 152), (0, 4, 145), (145, 4, 150), (145, 3, 149), (145, 2, 148), (145, 1, 147), (145, 0, 146), (0, 3, 55), (55, 7, 129), (129, 1, 144), (129, 0, 130), (55, 6, 110), (110, 8, 128), (110, 7, 127), (110, 6, 126), (110, 5, 115), (110, 3, 114), (110, 2, 113), (110, 1, 112), (110, 0, 111), (55, 5, 109), (55, 4, 108), (55, 3, 107), (55, 2, 106), (55, 1, 105), (55, 0, 56), (0, 2, 53), (53, 0, 54), (0, 1, 51), (51, 0, 52), (0, 0, 1), (1, 1, 2)] [(130, 13), (115, 10), (56, 48), (2, 48)] [(154, 9, (-2 : Int32)), (0, 6, (-2 : Int32)), (1, 0, lv)] 48 M76 := by rw [e75]; exact hP.new rfl (by simp) (by decide)
  refine x_putFR d11_init_169 ff11_71 rfl (fun _ _ => rfl) rfl rfl (hP.sh (k := 154) (by decide) rfl) ?_
  refine xm_nm (fun M78 e77 => ?_)
  have hP : xm_pg b 174 [(154, 28, 173), (154, 27, 172), (154, 25, 171), (154, 24, 170), (154, 23, 169), (154, 22, 168), (154, 21, 167), (154, 20, 166), (154, 18, 165), (154, 17, 164), (154, 16, 163), (154, 15, 162), (154, 10, 161), (154, 7, 160), (154, 6, 159), (154, 5, 158), (154, 4, 157), (154, 3, 156), (154, 2, 155), (0, 5, 151), (151, 1, 153), (151, 0, 152), (0, 4, 145), (145, 4, 150), (145, 3, 149), (145, 2, 148), (145, 1, 147), (145, 0, 146), (0, 3, 55), (55, 7, 129), (129, 1, 144), (129, 0, 130), (55, 6, 110), (110, 8, 128), (110, 7, 127), (110, 6, 126), (110, 5, 115), (110, 3, 114), (110, 2, 113), (110, 1, 112), (110, 0, 111), (55, 5, 109), (55, 4, 108), (55, 3, 107), (55, 2, 106), (55, 1, 105), (55, 0, 56), (0, 2, 53), (53, 0, 54), (0, 1, 51), (51, 0, 52), (0, 0, 1), (1, 1, 2)] [(130, 13), (115, 10), (56, 48), (2, 48)] [(154, 9, (-2 : Int32)), (0, 6, (-2 : Int32)), (1, 0, lv)] 48 M78 := by rw [e77]; exact hP.pr (by decide) (by decide) (by decide)
  refine x_aload_n d11_init_172 0 rfl rfl ?_
  refine x_bipush d11_init_173 qb_48 ?_
  refine x_newa d11_init_175 rfl (by decide) rfl ac_int (by decide) (N := 48) (by decide) (by decide) ⟨by decide, by decide⟩ ?_
  refine xm_ad (show xm_nx M78 = b + 174 from hP.1) ?_
  refine xm_nm (fun M80 e79 => ?_)
  have hP : xm_pg b 175 [(154, 28, 173), (154, 27, 172), (154, 25, 171), (154, 24, 170), (154, 23, 169), (154, 22, 168), (154, 21, 167), (154, 20, 166), (154, 18, 165), (154, 17, 164), (154, 16, 163), (154, 15, 162), (154, 10, 161), (154, 7, 160), (154, 6, 159), (154, 5, 158), (154, 4, 157), (154, 3, 156), (154, 2, 155), (0, 5, 151), (151, 1, 153), (151, 0, 152), (0, 4, 145), (145, 4, 150), (145, 3, 149), (145, 2, 148), (145, 1, 147), (145, 0, 146), (0, 3, 55), (55, 7, 129), (129, 1, 144), (129, 0, 130), (55, 6, 110), (110, 8, 128), (110, 7, 127), (110, 6, 126), (110, 5, 115), (110, 3, 114), (110, 2, 113), (110, 1, 112), (110, 0, 111), (55, 5, 109), (55, 4, 108), (55, 3, 107), (55, 2, 106), (55, 1, 105), (55, 0, 56), (0, 2, 53), (53, 0, 54), (0, 1, 51), (51, 0, 52), (0, 0, 1), (1, 1, 2)] [(130, 13), (115, 10), (56, 48), (2, 48)] [(154, 9, (-2 : Int32)), (0, 6, (-2 : Int32)), (1, 0, lv)] 48 M80 := by rw [e79]; exact hP.new rfl (by simp) (by decide)
  refine x_putFR d11_init_177 ff11_74 rfl (fun _ _ => rfl) rfl rfl (hP.sh (k := 154) (by decide) rfl) ?_
  refine xm_nm (fun M82 e81 => ?_)
  have hP : xm_pg b 175 [(154, 32, 174), (154, 28, 173), (154, 27, 172), (154, 25, 171), (154, 24, 170), (154, 23, 169), (154, 22, 168), (154, 21, 167), (154, 20, 166), (154, 18, 165), (154, 17, 164), (154, 16, 163), (154, 15, 162), (154, 10, 161), (154, 7, 160), (154, 6, 159), (154, 5, 158), (154, 4, 157), (154, 3, 156), (154, 2, 155), (0, 5, 151), (151, 1, 153), (151, 0, 152), (0, 4, 145), (145, 4, 150), (145, 3, 149), (145, 2, 148), (145, 1, 147), (145, 0, 146), (0, 3, 55), (55, 7, 129), (129, 1, 144), (129, 0, 130), (55, 6, 110), (110, 8, 128), (110, 7, 127), (110, 6, 126), (110, 5, 115), (110, 3, 114), (110, 2, 113), (110, 1, 112), (110, 0, 111), (55, 5, 109), (55, 4, 108), (55, 3, 107), (55, 2, 106), (55, 1, 105), (55, 0, 56), (0, 2, 53), (53, 0, 54), (0, 1, 51), (51, 0, 52), (0, 0, 1), (1, 1, 2)] [(130, 13), (115, 10), (56, 48), (2, 48)] [(154, 9, (-2 : Int32)), (0, 6, (-2 : Int32)), (1, 0, lv)] 48 M82 := by rw [e81]; exact hP.pr (by decide) (by decide) (by decide)
  refine x_aload_n d11_init_180 0 rfl rfl ?_
  refine x_bipush d11_init_181 qb_48 ?_
  refine x_newa d11_init_183 rfl (by decide) rfl ac_int (by decide) (N := 48) (by decide) (by decide) ⟨by decide, by decide⟩ ?_
  refine xm_ad (show xm_nx M82 = b + 175 from hP.1) ?_
  refine xm_nm (fun M84 e83 => ?_)
  have hP : xm_pg b 176 [(154, 32, 174), (154, 28, 173), (154, 27, 172), (154, 25, 171), (154, 24, 170), (154, 23, 169), (154, 22, 168), (154, 21, 167), (154, 20, 166), (154, 18, 165), (154, 17, 164), (154, 16, 163), (154, 15, 162), (154, 10, 161), (154, 7, 160), (154, 6, 159), (154, 5, 158), (154, 4, 157), (154, 3, 156), (154, 2, 155), (0, 5, 151), (151, 1, 153), (151, 0, 152), (0, 4, 145), (145, 4, 150), (145, 3, 149), (145, 2, 148), (145, 1, 147), (145, 0, 146), (0, 3, 55), (55, 7, 129), (129, 1, 144), (129, 0, 130), (55, 6, 110), (110, 8, 128), (110, 7, 127), (110, 6, 126), (110, 5, 115), (110, 3, 114), (110, 2, 113), (110, 1, 112), (110, 0, 111), (55, 5, 109), (55, 4, 108), (55, 3, 107), (55, 2, 106), (55, 1, 105), (55, 0, 56), (0, 2, 53), (53, 0, 54), (0, 1, 51), (51, 0, 52), (0, 0, 1), (1, 1, 2)] [(130, 13), (115, 10), (56, 48), (2, 48)] [(154, 9, (-2 : Int32)), (0, 6, (-2 : Int32)), (1, 0, lv)] 48 M84 := by rw [e83]; exact hP.new rfl (by simp) (by decide)
  refine x_putFR d11_init_185 ff11_77 rfl (fun _ _ => rfl) rfl rfl (hP.sh (k := 154) (by decide) rfl) ?_
  refine xm_nm (fun M86 e85 => ?_)
  have hP : xm_pg b 176 [(154, 33, 175), (154, 32, 174), (154, 28, 173), (154, 27, 172), (154, 25, 171), (154, 24, 170), (154, 23, 169), (154, 22, 168), (154, 21, 167), (154, 20, 166), (154, 18, 165), (154, 17, 164), (154, 16, 163), (154, 15, 162), (154, 10, 161), (154, 7, 160), (154, 6, 159), (154, 5, 158), (154, 4, 157), (154, 3, 156), (154, 2, 155), (0, 5, 151), (151, 1, 153), (151, 0, 152), (0, 4, 145), (145, 4, 150), (145, 3, 149), (145, 2, 148), (145, 1, 147), (145, 0, 146), (0, 3, 55), (55, 7, 129), (129, 1, 144), (129, 0, 130), (55, 6, 110), (110, 8, 128), (110, 7, 127), (110, 6, 126), (110, 5, 115), (110, 3, 114), (110, 2, 113), (110, 1, 112), (110, 0, 111), (55, 5, 109), (55, 4, 108), (55, 3, 107), (55, 2, 106), (55, 1, 105), (55, 0, 56), (0, 2, 53), (53, 0, 54), (0, 1, 51), (51, 0, 52), (0, 0, 1), (1, 1, 2)] [(130, 13), (115, 10), (56, 48), (2, 48)] [(154, 9, (-2 : Int32)), (0, 6, (-2 : Int32)), (1, 0, lv)] 48 M86 := by rw [e85]; exact hP.pr (by decide) (by decide) (by decide)
  refine x_aload_n d11_init_188 0 rfl rfl ?_
  refine x_bipush d11_init_189 qb_8 ?_
  refine x_newa d11_init_191 rfl (by decide) rfl ac_int (by decide) (N := 8) (by decide) (by decide) ⟨by decide, by decide⟩ ?_
  refine xm_ad (show xm_nx M86 = b + 176 from hP.1) ?_
  refine xm_nm (fun M88 e87 => ?_)
  have hP : xm_pg b 177 [(154, 33, 175), (154, 32, 174), (154, 28, 173), (154, 27, 172), (154, 25, 171), (154, 24, 170), (154, 23, 169), (154, 22, 168), (154, 21, 167), (154, 20, 166), (154, 18, 165), (154, 17, 164), (154, 16, 163), (154, 15, 162), (154, 10, 161), (154, 7, 160), (154, 6, 159), (154, 5, 158), (154, 4, 157), (154, 3, 156), (154, 2, 155), (0, 5, 151), (151, 1, 153), (151, 0, 152), (0, 4, 145), (145, 4, 150), (145, 3, 149), (145, 2, 148), (145, 1, 147), (145, 0, 146), (0, 3, 55), (55, 7, 129), (129, 1, 144), (129, 0, 130), (55, 6, 110), (110, 8, 128), (110, 7, 127), (110, 6, 126), (110, 5, 115), (110, 3, 114), (110, 2, 113), (110, 1, 112), (110, 0, 111), (55, 5, 109), (55, 4, 108), (55, 3, 107), (55, 2, 106), (55, 1, 105), (55, 0, 56), (0, 2, 53), (53, 0, 54), (0, 1, 51), (51, 0, 52), (0, 0, 1), (1, 1, 2)] [(130, 13), (115, 10), (56, 48), (2, 48)] [(154, 9, (-2 : Int32)), (0, 6, (-2 : Int32)), (1, 0, lv)] 48 M88 := by rw [e87]; exact hP.new rfl (by simp) (by decide)
  refine x_putFR d11_init_193 ff11_80 rfl (fun _ _ => rfl) rfl rfl (hP.sh (k := 154) (by decide) rfl) ?_
  refine xm_nm (fun M90 e89 => ?_)
  have hP : xm_pg b 177 [(154, 34, 176), (154, 33, 175), (154, 32, 174), (154, 28, 173), (154, 27, 172), (154, 25, 171), (154, 24, 170), (154, 23, 169), (154, 22, 168), (154, 21, 167), (154, 20, 166), (154, 18, 165), (154, 17, 164), (154, 16, 163), (154, 15, 162), (154, 10, 161), (154, 7, 160), (154, 6, 159), (154, 5, 158), (154, 4, 157), (154, 3, 156), (154, 2, 155), (0, 5, 151), (151, 1, 153), (151, 0, 152), (0, 4, 145), (145, 4, 150), (145, 3, 149), (145, 2, 148), (145, 1, 147), (145, 0, 146), (0, 3, 55), (55, 7, 129), (129, 1, 144), (129, 0, 130), (55, 6, 110), (110, 8, 128), (110, 7, 127), (110, 6, 126), (110, 5, 115), (110, 3, 114), (110, 2, 113), (110, 1, 112), (110, 0, 111), (55, 5, 109), (55, 4, 108), (55, 3, 107), (55, 2, 106), (55, 1, 105), (55, 0, 56), (0, 2, 53), (53, 0, 54), (0, 1, 51), (51, 0, 52), (0, 0, 1), (1, 1, 2)] [(130, 13), (115, 10), (56, 48), (2, 48)] [(154, 9, (-2 : Int32)), (0, 6, (-2 : Int32)), (1, 0, lv)] 48 M90 := by rw [e89]; exact hP.pr (by decide) (by decide) (by decide)
  refine x_aload_n d11_init_196 0 rfl rfl ?_
  refine x_bipush d11_init_197 qb_32 ?_
  refine x_newa d11_init_199 rfl (by decide) rfl ac_int (by decide) (N := 32) (by decide) (by decide) ⟨by decide, by decide⟩ ?_
  refine xm_ad (show xm_nx M90 = b + 177 from hP.1) ?_
  refine xm_nm (fun M92 e91 => ?_)
  have hP : xm_pg b 178 [(154, 34, 176), (154, 33, 175), (154, 32, 174), (154, 28, 173), (154, 27, 172), (154, 25, 171), (154, 24, 170), (154, 23, 169), (154, 22, 168), (154, 21, 167), (154, 20, 166), (154, 18, 165), (154, 17, 164), (154, 16, 163), (154, 15, 162), (154, 10, 161), (154, 7, 160), (154, 6, 159), (154, 5, 158), (154, 4, 157), (154, 3, 156), (154, 2, 155), (0, 5, 151), (151, 1, 153), (151, 0, 152), (0, 4, 145), (145, 4, 150), (145, 3, 149), (145, 2, 148), (145, 1, 147), (145, 0, 146), (0, 3, 55), (55, 7, 129), (129, 1, 144), (129, 0, 130), (55, 6, 110), (110, 8, 128), (110, 7, 127), (110, 6, 126), (110, 5, 115), (110, 3, 114), (110, 2, 113), (110, 1, 112), (110, 0, 111), (55, 5, 109), (55, 4, 108), (55, 3, 107), (55, 2, 106), (55, 1, 105), (55, 0, 56), (0, 2, 53), (53, 0, 54), (0, 1, 51), (51, 0, 52), (0, 0, 1), (1, 1, 2)] [(130, 13), (115, 10), (56, 48), (2, 48)] [(154, 9, (-2 : Int32)), (0, 6, (-2 : Int32)), (1, 0, lv)] 48 M92 := by rw [e91]; exact hP.new rfl (by simp) (by decide)
  refine x_putFR d11_init_201 ff11_83 rfl (fun _ _ => rfl) rfl rfl (hP.sh (k := 154) (by decide) rfl) ?_
  refine xm_nm (fun M94 e93 => ?_)
  have hP : xm_pg b 178 [(154, 35, 177), (154, 34, 176), (154, 33, 175), (154, 32, 174), (154, 28, 173), (154, 27, 172), (154, 25, 171), (154, 24, 170), (154, 23, 169), (154, 22, 168), (154, 21, 167), (154, 20, 166), (154, 18, 165), (154, 17, 164), (154, 16, 163), (154, 15, 162), (154, 10, 161), (154, 7, 160), (154, 6, 159), (154, 5, 158), (154, 4, 157), (154, 3, 156), (154, 2, 155), (0, 5, 151), (151, 1, 153), (151, 0, 152), (0, 4, 145), (145, 4, 150), (145, 3, 149), (145, 2, 148), (145, 1, 147), (145, 0, 146), (0, 3, 55), (55, 7, 129), (129, 1, 144), (129, 0, 130), (55, 6, 110), (110, 8, 128), (110, 7, 127), (110, 6, 126), (110, 5, 115), (110, 3, 114), (110, 2, 113), (110, 1, 112), (110, 0, 111), (55, 5, 109), (55, 4, 108), (55, 3, 107), (55, 2, 106), (55, 1, 105), (55, 0, 56), (0, 2, 53), (53, 0, 54), (0, 1, 51), (51, 0, 52), (0, 0, 1), (1, 1, 2)] [(130, 13), (115, 10), (56, 48), (2, 48)] [(154, 9, (-2 : Int32)), (0, 6, (-2 : Int32)), (1, 0, lv)] 48 M94 := by rw [e93]; exact hP.pr (by decide) (by decide) (by decide)
  refine x_aload_n d11_init_204 0 rfl rfl ?_
  refine x_iload_n d11_init_205 1 rfl rfl ?_
  refine x_if_ge d11_init_206 (t := 213) (by decide) (fun g => ?_) (fun g => ?_)
  · refine x_iload_n d11_init_213 1 rfl rfl ?_
    refine x_sipush d11_init_214 qs_1024 ?_
    refine x_icmp_le d11_init_217 (t := 226) (by decide) (fun g2 => ?_) (fun g2 => ?_)
    · refine x_iload_n d11_init_226 1 rfl rfl ?_
      refine x_putFI d11_init_227 ff11_86 rfl (fun _ _ => rfl) rfl rfl (hP.sh (k := 154) (by decide) rfl) ?_
      have e : v = xm_cla v := by unfold xm_cla; rw [if_pos g, if_pos g2]
      exact x_ret (r := none) d11_init_230 xm_rN rfl ⟨by decide, by decide⟩ (h _ (by have := hP.pi (a := 154) (k := 0) (v := v); rw [← e]; exact this))
    · refine x_sipush d11_init_220 qs_1024 ?_
      refine x_goto d11_init_223 (t := 227) (by decide) ?_
      refine x_putFI d11_init_227 ff11_86 rfl (fun _ _ => rfl) rfl rfl (hP.sh (k := 154) (by decide) rfl) ?_
      have e : (1024 : Int32) = xm_cla v := by unfold xm_cla; rw [if_pos g, if_neg g2]
      exact x_ret (r := none) d11_init_230 xm_rN rfl ⟨by decide, by decide⟩ (h _ (by have := hP.pi (a := 154) (k := 0) (v := 1024); rw [← e]; exact this))
  · refine x_iconst d11_init_209 qi_0 ?_
    refine x_goto d11_init_210 (t := 227) (by decide) ?_
    refine x_putFI d11_init_227 ff11_86 rfl (fun _ _ => rfl) rfl rfl (hP.sh (k := 154) (by decide) rfl) ?_
    have e : (0 : Int32) = xm_cla v := by unfold xm_cla; rw [if_neg g]
    exact x_ret (r := none) d11_init_230 xm_rN rfl ⟨by decide, by decide⟩ (h _ (by have := hP.pi (a := 154) (k := 0) (v := 0); rw [← e]; exact this))

