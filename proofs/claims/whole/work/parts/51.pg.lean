/-! the building of the world: b + n is the next cell; references ps, rows of references gs, ints vs, r rows of bounds filled -/
def xm_iv (b : Nat) (vs : List (Nat × Nat × Int32)) (a j : Nat) : Int32 := match vs with
  | [] => 0
  | v :: r => if a = b + v.1 ∧ j = v.2.1 then v.2.2 else xm_iv b r a j
theorem xm_iv_0 {b a j : Nat} : ∀ {vs : List (Nat × Nat × Int32)}, (∀ v ∈ vs, a ≠ b + v.1) → xm_iv b vs a j = 0
  | [], _ => rfl
  | v :: r, h => by
    unfold xm_iv
    rw [if_neg (fun c => h v List.mem_cons_self c.1)]
    exact xm_iv_0 (fun v hv => h v (List.mem_cons_of_mem _ hv))
def xm_pg (b n : Nat) (ps : List (Nat × Nat × Nat)) (gs : List (Nat × Nat)) (vs : List (Nat × Nat × Int32)) (r : Nat) (M : xm_M) : Prop :=
  M.1.1 = b + n ∧ (∀ k : Nat, k < n → xm_sh M (b + k) = xS_o k) ∧ (∀ t ∈ ps, t.1 < n ∧ xm_gr M (b + t.1) t.2.1 = some (b + t.2.2)) ∧ (∀ g ∈ gs, g.1 < n ∧ ∀ j : Nat, j < g.2 → xm_gr M (b + g.1) j = some (b + (g.1 + 1) + j)) ∧ (∀ a j : Nat, xm_gi M a j = xm_iv b vs a j) ∧ (∀ a j : Nat, xm_gl M a j = if b + 57 ≤ a ∧ a < b + 57 + r ∧ j < 100 then 4611686018427387904 else 0)
section PG
variable {b n r : Nat} {ps : List (Nat × Nat × Nat)} {gs : List (Nat × Nat)} {vs : List (Nat × Nat × Int32)} {M : xm_M}
theorem xm_pg.sh {k : Nat} {q : xm_Sh} (h : xm_pg b n ps gs vs r M) (hk : k < n) (hq : xS_o k = some q) : xm_sh M (b + k) = some q := (h.2.1 k hk).trans hq
theorem xm_pg.new {q : xm_Sh} (h : xm_pg b n ps gs vs r M) (hq : xS_o n = some q) (hv : ∀ v ∈ vs, v.1 < n) (hr : r = 0 ∨ 57 + r ≤ n) : xm_pg b (n + 1) ps gs vs r (xm_new M q) := by
  obtain ⟨h1, h2, h3, h4, h5, h6⟩ := h
  refine ⟨by show M.1.1 + 1 = _; omega, fun k hk => ?_, fun t ht => ⟨by have := (h3 t ht).1; omega, ?_⟩, fun g hg => ⟨by have := (h4 g hg).1; omega, fun j hj => ?_⟩, fun a j => ?_, fun a j => ?_⟩
  · by_cases e : k = n
    · subst e
      exact (if_pos h1.symm).trans hq.symm
    · exact (if_neg (by rw [h1]; omega)).trans (h2 k (by omega))
  · refine (if_neg ?_).trans (h3 t ht).2
    rw [h1]; have := (h3 t ht).1; omega
  · refine (if_neg ?_).trans ((h4 g hg).2 j hj)
    rw [h1]; have := (h4 g hg).1; omega
  · by_cases e : a = M.1.1
    · refine (if_pos e).trans (xm_iv_0 fun v hv' => ?_).symm
      have := hv v hv'; omega
    · exact (if_neg e).trans (h5 a j)
  · by_cases e : a = M.1.1
    · refine (if_pos e).trans (if_neg ?_).symm
      omega
    · exact (if_neg e).trans (h6 a j)
theorem xm_pg.grid {N K : Nat} (h : xm_pg b n ps gs vs r M) (hq : xS_o n = some (.inl (N, .array .long))) (hq2 : ∀ j : Nat, j < N → xS_o (n + 1 + j) = some (.inl (K, .long))) (hv : ∀ v ∈ vs, v.1 < n) (hr : r = 0) : xm_pg b (n + 1 + N) ps ((n, N) :: gs) vs r (xm_grid M N K) := by
  obtain ⟨h1, h2, h3, h4, h5, h6⟩ := h
  refine ⟨by show M.1.1 + 1 + N = _; omega, fun k hk => ?_, fun t ht => ⟨by have := (h3 t ht).1; omega, ?_⟩, fun g hg => ?_, fun a j => ?_, fun a j => ?_⟩
  · by_cases e : k = n
    · subst e
      exact (if_pos h1.symm).trans hq.symm
    · by_cases e2 : n < k
      · refine (if_neg (by rw [h1]; omega)).trans ((if_pos ⟨by rw [h1]; omega, by rw [h1]; omega⟩).trans ?_)
        have := hq2 (k - (n + 1)) (by omega)
        rw [show n + 1 + (k - (n + 1)) = k by omega] at this
        exact this.symm
      · exact (if_neg (by rw [h1]; omega)).trans ((if_neg (by rw [h1]; omega)).trans (h2 k (by omega)))
  · have := (h3 t ht).1
    exact (if_neg (by rw [h1]; omega)).trans ((if_neg (by rw [h1]; omega)).trans (h3 t ht).2)
  · rcases List.mem_cons.mp hg with rfl | hg
    · refine ⟨by show n < _; omega, fun j hj => ?_⟩
      refine (if_pos h1.symm).trans ((if_pos hj).trans ?_)
      rw [h1]
      show some (b + n + 1 + j) = some (b + (n + 1) + j)
      exact congrArg some (by omega)
    · have := (h4 g hg).1
      exact ⟨by omega, fun j hj => (if_neg (by rw [h1]; omega)).trans ((if_neg (by rw [h1]; omega)).trans ((h4 g hg).2 j hj))⟩
  · by_cases e : M.1.1 ≤ a
    · refine (if_pos e).trans (xm_iv_0 fun v hv' => ?_).symm
      have := hv v hv'; omega
    · exact (if_neg e).trans (h5 a j)
  · by_cases e : M.1.1 ≤ a
    · refine (if_pos e).trans (if_neg ?_).symm
      omega
    · exact (if_neg e).trans (h6 a j)
theorem xm_pg.pr {a k q : Nat} (h : xm_pg b n ps gs vs r M) (ha : a < n) (hf : ∀ t ∈ ps, ¬ (t.1 = a ∧ t.2.1 = k)) (hg : ∀ g ∈ gs, g.1 ≠ a) : xm_pg b n ((a, k, q) :: ps) gs vs r (xm_pr M (b + a) k (some (b + q))) := by
  obtain ⟨h1, h2, h3, h4, h5, h6⟩ := h
  refine ⟨h1, h2, fun t ht => ?_, fun g hg' => ⟨(h4 g hg').1, fun j hj => (xm_gr_pr_ne ?_).trans ((h4 g hg').2 j hj)⟩, h5, h6⟩
  · rcases List.mem_cons.mp ht with rfl | ht
    · exact ⟨ha, xm_gr_pr _ _ _ _⟩
    · refine ⟨(h3 t ht).1, (xm_gr_pr_ne ?_).trans (h3 t ht).2⟩
      have := hf t ht; omega
  · have := hg g hg'; omega
theorem xm_pg.pi {a k : Nat} {v : Int32} (h : xm_pg b n ps gs vs r M) : xm_pg b n ps gs ((a, k, v) :: vs) r (xm_pi M (b + a) k v) := by
  obtain ⟨h1, h2, h3, h4, h5, h6⟩ := h
  refine ⟨h1, h2, h3, h4, fun x j => ?_, h6⟩
  show (if x = b + a ∧ j = k then v else M.2.1 x j) = if x = b + a ∧ j = k then v else xm_iv b vs x j
  rw [show M.2.1 x j = xm_iv b vs x j from h5 x j]
end PG
section XL
variable {l : Launch} {E : xm_E} {Y : xm_Y} {R : Room} {Q : Option Value → xm_M → Prop} {pc : Nat} {L : List (Nat × Value)} {st : List Value} {cs sl : Nat} {M : xm_M}
theorem x_slen (hd : decode Y.2.1 pc = .ok (.arraylength, 1)) (kk : xm_X l E Y R Q (pc + 1) L (.int (Int32.ofNat E.2.2.2.2.1) :: st) cs sl M) : xm_X l E Y R Q pc L (.ref E.2.2.2.1 :: st) cs sl M := fun p e s m args below meth c H locs ls Qf C hW h0 hl hR =>
  va_slen (A := fun q => (xm_B E).size ≤ q) C.1 C.2.1 C.2.2.2.2.2.2.2.2.2.2.2.2.1 C.2.2.2.2.2.2.2.2.2.2.2.2.2.1 (Nat.not_le.mpr C.2.2.2.2.2.2.2.2.2.2.2.2.2.1) ⟨hW.2.2.2, fun q h1 _ => hW.2.2.1 q h1, h0⟩ hd (kk p e s m args below meth c H locs ls Qf C hW h0 hl hR)
theorem x_land {x y : Int64} (hd : decode Y.2.1 pc = .ok (.land, 1)) (k : xm_X l E Y R Q (pc + 1) L (.long (x &&& y) :: st) cs sl M) : xm_X l E Y R Q pc L (.long y :: .long x :: st) cs sl M := fun p e s m args below meth c H locs ls Qf C hW h0 hl hR => lv_land C.1 C.2.1 hd (k p e s m args below meth c H locs ls Qf C hW h0 hl hR)
theorem x_lor {x y : Int64} (hd : decode Y.2.1 pc = .ok (.lor, 1)) (k : xm_X l E Y R Q (pc + 1) L (.long (x ||| y) :: st) cs sl M) : xm_X l E Y R Q pc L (.long y :: .long x :: st) cs sl M := fun p e s m args below meth c H locs ls Qf C hW h0 hl hR => lv_lor C.1 C.2.1 hd (k p e s m args below meth c H locs ls Qf C hW h0 hl hR)
/-- an address gets its name -/
theorem xm_ad {a a2 : Nat} {rest : List Value} (h : a = a2) (k : xm_X l E Y R Q pc L (.ref a2 :: rest) cs sl M) : xm_X l E Y R Q pc L (.ref a :: rest) cs sl M := h ▸ k
end XL
/-! the JDK's members -/
section XF
variable {l : Launch} {E : xm_E} {Y : xm_Y} {R : Room} {Q : Option Value → xm_M → Prop} {M : xm_M}
/-- the entry: the same of a library method -/
theorem xm_enterF {As : List Value} (hy : plainFor Y.1 = true) (hA : (lg_sl As).length ≤ Y.2.2.1) (k : xm_X l E Y R Q 0 (lv_args 0 As) [] 0 0 M) : xm_C l E Y R As M Q := by
  refine va_MetF (cc := Y.2.1) (maxL := Y.2.2.1) (ret := Y.2.2.2) hy rfl ?_
  intro p e s m args below meth c s₁ B hml hv
  obtain ⟨rfl, hW, hK⟩ := hv
  have hlk := B.notSynchronized
  have hl := lv_entry As (n := Y.2.2.1) hA
  rw [lg_entry_eq]
  refine k p e s m As.toArray below meth c s.heap [] _ _ ⟨B.exec, B.bytes, hml, B.returns, hlk, (name_of_methodNamed B.named B.method).1, findClass_of_methodNamed B.named, fun w hw => atoms_spec (ws := xm_ws Y) B.pre w (List.mem_cons_of_mem _ hw), hK⟩ hW (fun q h => by cases h) hl ?_
  intro H locs cs sl pc ls M r ins hd hr hq hW h0 hc
  refine W.widen hc.1 hc.2 ?_
  have hrt := B.returns
  rcases hr with ⟨h1, rfl, v, rfl⟩ | ⟨h1, rfl, h2⟩ | ⟨h1, rfl, v, rfl⟩ | ⟨h1, rfl, rfl⟩
  · exact W.iret B.exec B.bytes (hrt.trans h1) (fun t ht _ => ⟨_, M, rfl, hq, by rw [ht]; exact hW⟩) h0 hd hlk
  · rcases h2 with rfl | rfl
    · exact W.zret B.exec B.bytes (hrt.trans h1) narrow_b0 (fun t ht _ => ⟨_, M, rfl, hq, by rw [ht]; exact hW⟩) h0 hd hlk
    · exact W.zret B.exec B.bytes (hrt.trans h1) narrow_b1 (fun t ht _ => ⟨_, M, rfl, hq, by rw [ht]; exact hW⟩) h0 hd hlk
  · exact W.lret B.exec B.bytes (hrt.trans h1) (fun t ht _ => ⟨_, M, rfl, hq, by rw [ht]; exact hW⟩) h0 hd hlk
  · exact W.vret B.exec B.bytes (hrt.trans h1) (fun t ht _ => ⟨_, M, rfl, hq, by rw [ht]; exact hW⟩) h0 hd hlk
end XF
theorem s_min_I {l : Launch} {E : xm_E} {Q : Option Value → xm_M → Prop} {M : xm_M} {x y : Int32} (h : Q (some (.int (if x ≤ y then x else y))) M) : xm_C l E ym_min_I rmm_min_I [.int x, .int y] M Q :=
  xm_enterF (by decide +kernel) (Nat.le_of_ble_eq_true rfl) (tm_min_I_0 M x y ⟨fun g => by rw [if_neg (by rw [Int32.le_iff_toInt_le]; rw [Int32.lt_iff_toInt_lt] at g; omega)] at h; exact h, fun g => by rw [if_pos (by rw [Int32.le_iff_toInt_le]; rw [Int32.lt_iff_toInt_lt] at g; omega)] at h; exact h⟩)
