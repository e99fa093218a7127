/-- the script's first int, 0 if it has none -/
def xm_c0 (E : xm_E) : Int32 := if Int32.ofNat E.2.2.2.2.1 ≤ 0 then 0 else E.2.2.2.2.2 0
theorem sL_cell {l : Launch} {E : xm_E} {Q : Option Value → xm_M → Prop} {M : xm_M} (h : Q (some (.int (xm_c0 E))) M) : xm_C l E yL_cell rmL_cell [.ref E.2.2.2.1, .int (0 : Int32)] M Q := by
  refine xm_enter (by decide) (Nat.le_of_ble_eq_true rfl) (tL_cell_0 M 0 ⟨fun g => ?_, fun g => ⟨?_, ?_⟩⟩)
  · unfold xm_c0 at h; rw [if_pos g] at h; exact h
  · intro q
    rcases q with q | q
    · exact absurd q (by decide)
    · have q : E.2.2.2.2.1 ≤ 0 := q
      have : E.2.2.2.2.1 = 0 := by omega
      rw [this] at g
      exact g (by decide)
  · unfold xm_c0 at h; rw [if_neg g] at h; exact h
/-- the world as the constructors leave it -/
def xm_born (E : xm_E) (b : Nat) (M : xm_M) : Prop := xm_pg b 178 [(154, 35, 177), (154, 34, 176), (154, 33, 175), (154, 32, 174), (154, 28, 173), (154, 27, 172), (154, 25, 171), (154, 24, 170), (154, 23, 169), (154, 22, 168), (154, 21, 167), (154, 20, 166), (154, 18, 165), (154, 17, 164), (154, 16, 163), (154, 15, 162), (154, 10, 161), (154, 7, 160), (154, 6, 159), (154, 5, 158), (154, 4, 157), (154, 3, 156), (154, 2, 155), (0, 5, 151), (151, 1, 153), (151, 0, 152), (0, 4, 145), (145, 4, 150), (145, 3, 149), (145, 2, 148), (145, 1, 147), (145, 0, 146), (0, 3, 55), (55, 7, 129), (129, 1, 144), (129, 0, 130), (55, 6, 110), (110, 8, 128), (110, 7, 127), (110, 6, 126), (110, 5, 115), (110, 3, 114), (110, 2, 113), (110, 1, 112), (110, 0, 111), (55, 5, 109), (55, 4, 108), (55, 3, 107), (55, 2, 106), (55, 1, 105), (55, 0, 56), (0, 2, 53), (53, 0, 54), (0, 1, 51), (51, 0, 52), (0, 0, 1), (1, 1, 2)] [(130, 13), (115, 10), (56, 48), (2, 48)] [(154, 0, (xm_cla (xm_c0 E))), (154, 9, (-2 : Int32)), (0, 6, (-2 : Int32)), (1, 0, (if (if (1024 : Int32) ≤ (xm_c0 E) then (1024 : Int32) else (xm_c0 E)) ≤ (0 : Int32) then (0 : Int32) else (if (1024 : Int32) ≤ (xm_c0 E) then (1024 : Int32) else (xm_c0 E))))] 48 M
set_option maxRecDepth 20000 in
theorem law_start {nm : String} {l : Launch} {E : xm_E} {b : Nat} {Q : Option Value → xm_M → Prop} {M : xm_M} (hP : xm_pg b 0 [] [] [] 0 M) (h : ∀ M1, xm_born E b M1 → xm_X l E (yL_law nm) rmL_law Q 28 [(0, .ref E.2.2.2.1), (1, .ref (b + 0)), (2, .ref (b + 154)), (3, .int (1 : Int32))] [] 178 88747 M1) : xm_X l E (yL_law nm) rmL_law Q 0 [(0, .ref E.2.2.2.1)] [] 0 0 M := by
  refine x_new dL_law_0 ciL_7 ⟨by decide, by decide⟩ ?_
  refine xm_ad (show xm_nx M = b + 0 from hP.1) ?_
  refine xm_nm (fun M1 e1 => ?_)
  have hP : xm_pg b 1 [] [] [] 0 M1 := by rw [e1]; exact hP.new rfl (by simp) (Or.inl rfl)
  refine x_dup dL_law_3 rfl ?_
  refine x_aload_n dL_law_4 0 rfl rfl ?_
  refine x_iconst dL_law_5 qi_0 ?_
  refine x_cSI (Z := yL_cell) (S := rmL_cell) (P := fun v M2 => v = xm_c0 E ∧ M2 = M1) (As := [.ref E.2.2.2.1, .int (0 : Int32)]) (rest := [.ref (b + 0), .ref (b + 0)]) dL_law_6 mlL_9 kL_cell rfl rfl (Nat.le_of_ble_eq_true rfl) ⟨⟨by decide, by decide⟩, by decide, by decide⟩ ⟨rfl, rfl⟩ (sL_cell ⟨_, rfl, rfl, rfl⟩) (fun r2 M2 h1 => ?_)
  obtain ⟨rfl, hq⟩ := h1
  rw [hq]
  clear hq
  refine x_callI (Z := y0_init) (S := rm0_init) (P := fun r M1 => r = none ∧ xm_pg b 154 [(0, 5, 151), (151, 1, 153), (151, 0, 152), (0, 4, 145), (145, 4, 150), (145, 3, 149), (145, 2, 148), (145, 1, 147), (145, 0, 146), (0, 3, 55), (55, 7, 129), (129, 1, 144), (129, 0, 130), (55, 6, 110), (110, 8, 128), (110, 7, 127), (110, 6, 126), (110, 5, 115), (110, 3, 114), (110, 2, 113), (110, 1, 112), (110, 0, 111), (55, 5, 109), (55, 4, 108), (55, 3, 107), (55, 2, 106), (55, 1, 105), (55, 0, 56), (0, 2, 53), (53, 0, 54), (0, 1, 51), (51, 0, 52), (0, 0, 1), (1, 1, 2)] [(130, 13), (115, 10), (56, 48), (2, 48)] [(0, 6, (-2 : Int32)), (1, 0, (if (if (1024 : Int32) ≤ (xm_c0 E) then (1024 : Int32) else (xm_c0 E)) ≤ (0 : Int32) then (0 : Int32) else (if (1024 : Int32) ≤ (xm_c0 E) then (1024 : Int32) else (xm_c0 E))))] 48 M1) (As := [.int (xm_c0 E)]) (b := b + 0) (rest := [.ref (b + 0)]) dL_law_9 mlL_15 k0_init rfl rfl (Nat.le_of_ble_eq_true rfl) ⟨⟨by decide, by decide⟩, by decide, by decide⟩ (c0_init _ hP (fun M1 hP => ⟨rfl, hP⟩)) (fun r M3 h1 => ?_)
  obtain ⟨rfl, hP⟩ := h1
  refine x_astore_n dL_law_12 rfl (Nat.le_of_ble_eq_true rfl) (L' := [(1, .ref (b + 0)), (0, .ref E.2.2.2.1)]) rfl ?_
  refine x_new dL_law_13 ciL_18 ⟨by decide, by decide⟩ ?_
  refine xm_ad (show xm_nx M3 = b + 154 from hP.1) ?_
  refine xm_nm (fun M4 e4 => ?_)
  have hP : xm_pg b 155 [(0, 5, 151), (151, 1, 153), (151, 0, 152), (0, 4, 145), (145, 4, 150), (145, 3, 149), (145, 2, 148), (145, 1, 147), (145, 0, 146), (0, 3, 55), (55, 7, 129), (129, 1, 144), (129, 0, 130), (55, 6, 110), (110, 8, 128), (110, 7, 127), (110, 6, 126), (110, 5, 115), (110, 3, 114), (110, 2, 113), (110, 1, 112), (110, 0, 111), (55, 5, 109), (55, 4, 108), (55, 3, 107), (55, 2, 106), (55, 1, 105), (55, 0, 56), (0, 2, 53), (53, 0, 54), (0, 1, 51), (51, 0, 52), (0, 0, 1), (1, 1, 2)] [(130, 13), (115, 10), (56, 48), (2, 48)] [(0, 6, (-2 : Int32)), (1, 0, (if (if (1024 : Int32) ≤ (xm_c0 E) then (1024 : Int32) else (xm_c0 E)) ≤ (0 : Int32) then (0 : Int32) else (if (1024 : Int32) ≤ (xm_c0 E) then (1024 : Int32) else (xm_c0 E))))] 48 M4 := by rw [e4]; exact hP.new rfl (by simp) (by decide)
  refine x_dup dL_law_16 rfl ?_
  refine x_aload_n dL_law_17 1 rfl rfl ?_
  refine x_iconst dL_law_18 qi_0 ?_
  refine x_cSI (Z := yL_cell) (S := rmL_cell) (P := fun v M2 => v = xm_c0 E ∧ M2 = M4) (As := [.ref E.2.2.2.1, .int (0 : Int32)]) (rest := [.ref (b + 154), .ref (b + 154)]) dL_law_19 mlL_9 kL_cell rfl rfl (Nat.le_of_ble_eq_true rfl) ⟨⟨by decide, by decide⟩, by decide, by decide⟩ ⟨rfl, rfl⟩ (sL_cell ⟨_, rfl, rfl, rfl⟩) (fun r5 M5 h1 => ?_)
  obtain ⟨rfl, hq⟩ := h1
  rw [hq]
  clear hq
  refine x_callI (Z := y11_init) (S := rm11_init) (P := fun r M1 => r = none ∧ xm_born E b M1) (As := [.int (xm_c0 E)]) (b := b + 154) (rest := [.ref (b + 154)]) dL_law_22 mlL_20 k11_init rfl rfl (Nat.le_of_ble_eq_true rfl) ⟨⟨by decide, by decide⟩, by decide, by decide⟩ (c11_init _ hP (fun M1 hP => ⟨rfl, hP⟩)) (fun r M6 h1 => ?_)
  obtain ⟨rfl, hP⟩ := h1
  refine x_astore_n dL_law_25 rfl (Nat.le_of_ble_eq_true rfl) (L' := [(2, .ref (b + 154)), (1, .ref (b + 0)), (0, .ref E.2.2.2.1)]) rfl ?_
  refine x_iconst dL_law_26 qi_1 ?_
  refine x_istore_n dL_law_27 rfl (Nat.le_of_ble_eq_true rfl) (L' := [(3, .int (1 : Int32)), (2, .ref (b + 154)), (1, .ref (b + 0)), (0, .ref E.2.2.2.1)]) rfl ?_
  exact xm_X.sub [3, 2, 1, 0] rfl (h _ hP)
