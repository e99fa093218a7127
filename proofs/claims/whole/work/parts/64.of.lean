/-! the tables at the law's entry -/
theorem lw_tb {w : Cond} {i : Nat} (h : tables_1[i]? = some w) : w ∈ lw_tbl := List.mem_append_right _ (List.mem_of_getElem? h)
theorem lw_inst (ci : Nat) (r : vw_C) (h : xm_cl[ci]? = some r) : ∃ n, Cond.instantiable r.1 n ∈ lw_tbl := by
  match ci, h with
  | 0, h => cases h; exact ⟨7, lw_tb (i := 16) (by decide +kernel)⟩
  | 1, h => cases h; exact ⟨3, lw_tb (i := 24) (by decide +kernel)⟩
  | 2, h => cases h; exact ⟨5, lw_tb (i := 37) (by decide +kernel)⟩
  | 3, h => cases h; exact ⟨2, lw_tb (i := 102) (by decide +kernel)⟩
  | 4, h => cases h; exact ⟨2, lw_tb (i := 118) (by decide +kernel)⟩
  | 5, h => cases h; exact ⟨12, lw_tb (i := 134) (by decide +kernel)⟩
  | 6, h => cases h; exact ⟨9, lw_tb (i := 142) (by decide +kernel)⟩
  | 7, h => cases h; exact ⟨3, lw_tb (i := 149) (by decide +kernel)⟩
  | 8, h => cases h; exact ⟨3, lw_tb (i := 207) (by decide +kernel)⟩
  | 9, h => cases h; exact ⟨11, lw_tb (i := 267) (by decide +kernel)⟩
  | 10, h => cases h; exact ⟨4, lw_tb (i := 310) (by decide +kernel)⟩
  | 11, h => cases h; exact ⟨37, lw_tb (i := 757) (by decide +kernel)⟩
  | n + 12, h => simp [xm_cl] at h
theorem lw_nest (w : String × Nat × MethodName) (h : w ∈ xm_nest) : Cond.methodLinkNest w.1 w.2.1 w.2.2 "FilterProof" ∈ lw_tbl := by
  simp only [xm_nest, List.mem_cons, List.not_mem_nil, or_false] at h
  rcases h with rfl | rfl | rfl | rfl | rfl | rfl | rfl | rfl | rfl
  · exact lw_tb (i := 38) (by decide +kernel)
  · exact lw_tb (i := 103) (by decide +kernel)
  · exact lw_tb (i := 119) (by decide +kernel)
  · exact lw_tb (i := 143) (by decide +kernel)
  · exact lw_tb (i := 150) (by decide +kernel)
  · exact lw_tb (i := 208) (by decide +kernel)
  · exact lw_tb (i := 268) (by decide +kernel)
  · exact lw_tb (i := 273) (by decide +kernel)
  · exact lw_tb (i := 311) (by decide +kernel)
theorem law_K {s : State} {b L : Nat} {xs : Nat → Int32} (hts : ∀ w ∈ lw_tbl, w.before #[Value.ref b] s = true) (hX : va_X b L xs s s.heap) (hb : b < s.heap.size) : ∃ (D : va_G) (cid : FieldType → ClassId), xm_K (D, cid, s.heap, b, L, xs) s := by
  have h1 : ∀ c : Nat, ∃ z : ClassId × (Nat → Nat), ∀ q, xm_cl[c]? = some q → u_Kn s q.1 q.2.1 q.2.2 z.1 z.2 := by
    intro c
    cases hc : xm_cl[c]? with
    | none => exact ⟨(0, fun _ => 0), fun q hq => by cases hq⟩
    | some r =>
      obtain ⟨n, hn⟩ := lw_inst c r hc
      obtain ⟨cC, iS, hu⟩ := u_known (ws := lw_tbl) hts (fun w hw => (List.mem_filter.mp ((xm_cl_ok c r hc).1 w hw)).1) (hts _ hn)
      exact ⟨(cC, iS), fun q hq => by cases hq; exact hu⟩
  obtain ⟨z, hz⟩ := Classical.axiomOfChoice h1
  have prim : ∀ ty, (Cond.arrayClass ty).before #[Value.ref b] s = true → ∃ cA, ArrOfT s cA ty ∧ s.vm.findClass ("[" ++ ty.toString) = some cA := by
    intro ty h
    obtain ⟨cA, kA, comp, f1, f2, f3⟩ := Cond.arrayClass_spec h
    exact ⟨cA, fun N z => ⟨(fun k h => by cases h), kA, f2, comp, f3⟩, f1⟩
  have h2 : ∀ ty : FieldType, ∃ cA : ClassId, ty ∈ xm_tys → ArrOfT s cA ty ∧ s.vm.findClass ("[" ++ ty.toString) = some cA := by
    intro ty
    by_cases ht : ty ∈ xm_tys
    · have ht' := ht
      simp only [xm_tys, List.mem_cons, List.not_mem_nil, or_false] at ht'
      rcases ht' with rfl | rfl | rfl | rfl | rfl | rfl
      · obtain ⟨cA, h⟩ := prim _ (hts (.arrayClass .int) (lw_tb (i := 116) (by decide +kernel)))
        exact ⟨cA, fun _ => h⟩
      · obtain ⟨cA, h⟩ := prim _ (hts (.arrayClass .byte) (lw_tb (i := 132) (by decide +kernel)))
        exact ⟨cA, fun _ => h⟩
      · obtain ⟨cA, h⟩ := prim _ (hts (.arrayClass .boolean) (lw_tb (i := 171) (by decide +kernel)))
        exact ⟨cA, fun _ => h⟩
      · obtain ⟨cA, h⟩ := prim _ (hts (.arrayClass .long) (lw_tb (i := 170) (by decide +kernel)))
        exact ⟨cA, fun _ => h⟩
      · obtain ⟨comp, cA, kA, k3, -, k1, k2, k4⟩ := Cond.arrayOver_spec (hts (.arrayOver (.object "FilterProof$Instruction")) (lw_tb (i := 36) (by decide +kernel)))
        exact ⟨cA, fun _ => ⟨fun N z => ⟨(fun k h => by cases h), kA, k1, comp, k2⟩, k4⟩⟩
      · obtain ⟨comp, cA, kA, k3, k1, k2, k4⟩ := Cond.arrayOver_specA (hts (.arrayOver (.array .long)) (lw_tb (i := 140) (by decide +kernel)))
        exact ⟨cA, fun _ => ⟨fun N z => ⟨(fun k h => by cases h), kA, k1, comp, k2⟩, k4⟩⟩
    · exact ⟨0, fun h => absurd h ht⟩
  obtain ⟨cid, hcid⟩ := Classical.axiomOfChoice h2
  refine ⟨(fun c => (z c).1, fun c => (z c).2), cid, fun c q hq => hz c q hq, fun ty hy => (hcid ty hy).1, fun ty hy => (hcid ty hy).2, fun w hw => va_Nw.of rfl (hts _ (lw_nest w hw)), hX, hb, va_AO.of (hts (.arrayOver (.object "FilterProof$Instruction")) (lw_tb (i := 36) (by decide +kernel))), hts (.arrayOver (.array .long)) (lw_tb (i := 140) (by decide +kernel))⟩
/-- the claim out of the law's loop -/
theorem whole_of (hloop : ∀ (l : Launch) (E : xm_E) (nm : String) (M : xm_M), E.2.2.2.2.1 ≤ 3073 → xm_born E (xm_B E).size M → xm_X l E (yL_law nm) rmL_law (fun r _ => r = some (.int 1)) 28 [(0, .ref E.2.2.2.1), (1, .ref ((xm_B E).size + 0)), (2, .ref ((xm_B E).size + 154)), (3, .int (1 : Int32))] [] 178 88747 M) {p : Program} {e : Env} {s : State} {m : MethodId} {below : List Frame} {meth : Method} {c : Code} (l : Launch) {b L : Nat} {xs : Nat → Int32} (hL : L ≤ 3073) (C0 : lw_At p s m meth c b L xs) : W p l e room_1 s m #[Value.ref b] below meth c s.heap [] 0 0 (lw_Z below #[Value.ref b] s) (entryFrame m ([Value.ref b] : List Value).toArray 4) := by
  obtain ⟨a1, a2, a3, a4, a5, a6, a7, a8, a9, -⟩ := C0
  obtain ⟨D, cid, hK⟩ := law_K a6 a7 a8
  have hl := lv_entry [Value.ref b] (n := 4) (Nat.le_of_ble_eq_true rfl)
  rw [lg_entry_eq]
  refine law_start (nm := meth.name) (E := (D, cid, s.heap, b, L, xs)) (b := s.heap.size) (M := ((s.heap.size, fun _ => none), fun _ _ => 0, fun _ _ => 0, fun _ _ => none)) ⟨rfl, fun k hk => absurd hk (Nat.not_lt_zero k), fun t ht => (by cases ht), fun g hg => (by cases hg), fun _ _ => rfl, fun a j => (if_neg (by omega)).symm⟩ (fun M1 h1 => hloop l _ meth.name M1 hL h1) p e s m #[Value.ref b] below meth c s.heap [] _ _ ⟨a1, a2, a4, a3, a9, rfl, a5, fun w hw => a6 w (List.mem_filter.mp hw).1, hK⟩ ⟨rfl, fun a q hq => (by cases hq), fun _ _ => rfl, Nat.le_refl _⟩ (fun q h => by cases h) hl ?_
  intro H locs cs sl pc ls M r ins hd hr hq hW h0 hc
  subst hq
  refine W.widen (k := 600000) (n := 7302250) hc.1 hc.2 ?_
  refine va_forget h0 ?_
  have hi : ins = .ireturn := by
    rcases hr with ⟨_, h, _⟩ | ⟨_, h, _⟩ | ⟨h, _⟩ | ⟨h, _⟩
    · exact h
    · exact h
    · cases h
    · cases h
  subst hi
  exact lw_ret a1 a2 a3 a9 hd
