/-! new cells -/
def xm_okt (ty : FieldType) : Bool := match ty with
  | .int => true
  | .byte => true
  | .boolean => true
  | .long => true
  | .object _ => true
  | .array _ => true
  | _ => false
theorem xm_val_new {M : xm_M} {q : xm_Sh} {ty : FieldType} {k : Nat} (h : xm_okt ty = true) : defaultValue ty = xm_val ty (xm_new M q) M.1.1 k := by
  cases ty <;> first | exact absurd h (by decide) | simp [xm_val, xm_gi, xm_gl, xm_gr, xm_new, xm_z, defaultValue, va_rf]
theorem xm_val_old {M : xm_M} {q : xm_Sh} {ty : FieldType} {a k : Nat} (h : a ≠ M.1.1) : xm_val ty (xm_new M q) a k = xm_val ty M a k := by
  cases ty <;> simp [xm_val, xm_gi, xm_gl, xm_gr, xm_new, xm_z, h]
theorem xm_at.lt {E : xm_E} {M : xm_M} {H : Heap} {a : Nat} {q : xm_Sh} (h : xm_at E M H a q) : a < H.size := by
  rcases q with ⟨n, ty⟩ | ci
  · exact (Array.getElem?_eq_some_iff.mp h).1
  · obtain ⟨_, _, cell, h1, -⟩ := h
    exact (Array.getElem?_eq_some_iff.mp h1).1
theorem xm_W.push {E : xm_E} {M : xm_M} {H H1 : Heap} {q : xm_Sh} (h : xm_W E M H) (z1 : H1.size = M.1.1 + 1) (o1 : ∀ x : Nat, x < M.1.1 → H1[x]? = H[x]?) (hat : xm_at E (xm_new M q) H1 M.1.1 q) : xm_W E (xm_new M q) H1 := by
  obtain ⟨h1, h2, h3, h4⟩ := h
  refine ⟨z1, fun a q' hq => ?_, fun x hx => ?_, by rw [z1, ← h1]; omega⟩
  · by_cases ha : a = M.1.1
    · subst ha
      have hq : some q = some q' := (if_pos rfl).symm.trans hq
      cases hq
      exact ⟨by rw [← h1]; exact h4, hat⟩
    · have hq : M.1.2 a = some q' := (if_neg ha).symm.trans hq
      refine ⟨(h2 a q' hq).1, (h2 a q' hq).2.kept (fun ty j => xm_val_old ha) (o1 a ?_)⟩
      rw [← h1]; exact (h2 a q' hq).2.lt
  · rw [o1 x (by rw [← h1]; omega)]; exact h3 x hx
section XN
variable {l : Launch} {E : xm_E} {Y : xm_Y} {R : Room} {Q : Option Value → xm_M → Prop} {pc : Nat} {L : List (Nat × Value)} {st : List Value} {cs sl : Nat} {M : xm_M}
def xm_ci (own : String) (idx ci N : Nat) : Prop := ∃ r : vw_C, xm_cl[ci]? = some r ∧ r.2.2 = N ∧ Cond.classLink own idx r.1 ∈ xm_tbl ∧ Cond.instantiable r.1 N ∈ xm_tbl ∧ Cond.initialized r.1 ∈ xm_tbl ∧ ∀ k, k < N → xm_okt (xm_ft ci k) = true
theorem x_new {idx ci N : Nat} (hd : decode Y.2.1 pc = .ok (.new idx, 3)) (hc : xm_ci Y.1.cls idx ci N) (hR : cs + 1 ≤ R.cells ∧ sl + N ≤ R.slots) (kk : xm_X l E Y R Q (pc + 3) L (.ref (xm_nx M) :: st) (cs + 1) (sl + N) (xm_new M (.inr ci))) : xm_X l E Y R Q pc L st cs sl M := by
  intro p e s m args below meth c H locs ls Qf C hW h0 hl hRt
  obtain ⟨r, hr, rfl, w1, w2, w3, hk⟩ := hc
  obtain ⟨o1, o2, o3⟩ := xm_cl_ok ci r hr
  have C' := C
  obtain ⟨c1, c2, c3, c4, c5, c6, c7, c8, c9⟩ := C
  have hKn := c9.1 ci r hr
  refine W.newcK c1 c2 c7 (c8 _ w1) (c8 _ w2) (c8 _ w3) rfl hd hR.1 hR.2 hKn.2.1 hW.1 fun H1 kC hkC e1 z1 q1 => ?_
  refine kk p e s m args below meth c H1 locs ls Qf C' (hW.push z1 q1 ⟨r, hr, (u_born (xm_ft ci) c8 o1 hKn hkC e1 o2).to (fun k hk' => xm_val_new (hk k hk'))⟩) h0 hl hRt
theorem x_newa {atype : ArrayType} {n : Int32} {N : Nat} {ty : FieldType} (hd : decode Y.2.1 pc = .ok (.newarray atype, 2)) (hty : newarray.typeOf atype = ty) (hy : ty ∈ xm_tys) (ho : xm_okt ty = true) (hw : Cond.arrayClass ty ∈ xm_tbl) (hn : ¬ n < 0) (hN : n.toNatClampNeg = N) (hb : N * componentBytes ty ≤ 536870912) (hR : cs + 1 ≤ R.cells ∧ sl + N ≤ R.slots) (kk : xm_X l E Y R Q (pc + 2) L (.ref (xm_nx M) :: st) (cs + 1) (sl + N) (xm_new M (.inl (N, ty)))) : xm_X l E Y R Q pc L (.int n :: st) cs sl M := by
  intro p e s m args below meth c H locs ls Qf C hW h0 hl hRt
  subst hty
  have C' := C
  obtain ⟨c1, c2, c3, c4, c5, c6, c7, c8, c9⟩ := C
  refine va_newaK c1 c2 (c8 _ hw) rfl hd rfl hn hN hb hR.1 hR.2 hW.1 fun H1 cA e1 z1 q1 hAr hNm => ?_
  have hcA : cA = E.2.1 (newarray.typeOf atype) := Option.some.inj (hNm.symm.trans (c9.2.2.1 _ hy))
  subst hcA
  refine kk p e s m args below meth c H1 locs ls Qf C' (hW.push z1 q1 ?_) h0 hl hRt
  show H1[M.1.1]? = some (arrV _ N _)
  rw [e1]
  exact congrArg (fun g => some (arrV _ N g)) (funext fun j => xm_val_new ho)
theorem x_anew {idx : Nat} {n : Int32} {N : Nat} (hd : decode Y.2.1 pc = .ok (.anewarray idx, 3)) (hw : Cond.classLink Y.1.cls idx "FilterProof$Instruction" ∈ xm_tbl) (hn : ¬ n < 0) (hN : n.toNatClampNeg = N) (hb : N * 4 ≤ 536870912) (hR : cs + 1 ≤ R.cells ∧ sl + N ≤ R.slots) (kk : xm_X l E Y R Q (pc + 3) L (.ref (xm_nx M) :: st) (cs + 1) (sl + N) (xm_new M (.inl (N, .object "FilterProof$Instruction")))) : xm_X l E Y R Q pc L (.int n :: st) cs sl M := by
  intro p e s m args below meth c H locs ls Qf C hW h0 hl hRt
  subst hN
  have C' := C
  obtain ⟨c1, c2, c3, c4, c5, c6, c7, c8, c9⟩ := C
  refine W.anew c1 c2 c7 (c8 _ hw) (va_AO.use c9.2.2.2.2.2.2.1) rfl hd rfl hn hb hR.1 hR.2 fun cA kA comp f1 f2 f3 f4 => ?_
  have hcA : cA = E.2.1 (.object "FilterProof$Instruction") := Option.some.inj (f1.symm.trans (c9.2.2.1 _ (by decide)))
  subst hcA
  have z1 : (H.push ({ cls := E.2.1 (.object "FilterProof$Instruction"), slots := Array.replicate n.toNatClampNeg .null, vm := .none } : Cell)).size = M.1.1 + 1 := by rw [Array.size_push, hW.1]
  have k9 := kk p e s m args below meth c (H.push ({ cls := E.2.1 (.object "FilterProof$Instruction"), slots := Array.replicate n.toNatClampNeg .null, vm := .none } : Cell)) locs ls Qf C' (hW.push z1 (fun q hq => by rw [Array.getElem?_push, if_neg (Nat.ne_of_lt (by rw [hW.1]; exact hq))]) (by
    show (H.push _)[M.1.1]? = some (arrV _ _ _)
    rw [← hW.1, Array.getElem?_push_size, arrV_new]
    refine congrArg (fun g => some (arrV _ _ g)) (funext fun j => ?_)
    rw [hW.1]
    exact xm_val_new (ty := .object "FilterProof$Instruction") rfl)) h0 hl hRt
  rw [show H.size = xm_nx M from hW.1]
  exact k9
theorem x_aast {a n v : Nat} {i : Int32} (hd : decode Y.2.1 pc = .ok (.aastore, 1)) (hs : xm_sh M a = some (.inl (n, .object "FilterProof$Instruction"))) (hi : vp_in i n) (hv : xm_sh M v = some (.inr 2)) (kk : xm_X l E Y R Q (pc + 1) L st cs sl (xm_pr M a i.toNatClampNeg (some v))) : xm_X l E Y R Q pc L (.ref v :: .int i :: .ref a :: st) cs sl M := by
  intro p e s m args below meth c H locs ls Qf C hW h0 hl hRt
  have C' := C
  obtain ⟨c1, c2, c3, c4, c5, c6, c7, c8, c9⟩ := C
  obtain ⟨-, r, hr, cellV, g1, g2, g3, -⟩ := hW.2.1 v _ hv
  have hr2 : r = (kR2, kT2, 5) := Option.some.inj (hr.symm.trans rfl)
  subst hr2
  have hcls := (c9.1 2 _ hr).2
  obtain ⟨comp, cA, kA, k3, -, k1, k2, k4⟩ := Cond.arrayOver_spec c9.2.2.2.2.2.2.1
  have hcA : cA = E.2.1 (.object "FilterProof$Instruction") := Option.some.inj (k4.symm.trans (c9.2.2.1 _ (by decide)))
  subst hcA
  have hcomp : comp = E.1.1 2 := Option.some.inj (k3.symm.trans hcls.1)
  subst hcomp
  obtain ⟨kC, hkC, -⟩ := hcls.2
  refine W.aast c1 c2 (hW.2.1 a _ hs).2 (fun q h => by cases h) (fun h => by cases h) k1 k2 rfl hkC ⟨fun q => hi (Or.inl q), by rw [arrV_size]; exact Nat.not_le.mp fun q => hi (Or.inr q)⟩ g1 (fun q h => by rw [g3] at h; cases h) (by rw [g2]; exact hkC) (by rw [g2]; exact va_assign hcls) rfl rfl hd fun H1 e1 z oq => ?_
  exact kk p e s m args below meth c H1 _ ls Qf C' (hW.putA (ty := .object "FilterProof$Instruction") (M1 := xm_pr M a i.toNatClampNeg (some v)) rfl (fun ty _ _ h => xm_val_pr ty h) (congrArg va_rf (xm_gr_pr M a i.toNatClampNeg (some v))) hs e1 z oq) (xm_locs h0 (hW.2.1 a _ hs).1) hl hRt
/-! new long[N][K]: the outer array, then its rows -/
def xm_grid (M : xm_M) (N K : Nat) : xm_M := ((M.1.1 + 1 + N, fun x => if x = M.1.1 then some (.inl (N, .array .long)) else if M.1.1 < x ∧ x < M.1.1 + 1 + N then some (.inl (K, .long)) else M.1.2 x), (fun x j => if M.1.1 ≤ x then 0 else M.2.1 x j), (fun x j => if M.1.1 ≤ x then 0 else M.2.2.1 x j), fun x j => if x = M.1.1 then (if j < N then some (M.1.1 + 1 + j) else none) else if M.1.1 ≤ x then none else M.2.2.2 x j)
theorem xm_val_grid {M : xm_M} {N K : Nat} {ty : FieldType} {a k : Nat} (h : a < M.1.1) : xm_val ty (xm_grid M N K) a k = xm_val ty M a k := by
  have h1 : ¬ M.1.1 ≤ a := by omega
  have h2 : ¬ a = M.1.1 := by omega
  cases ty <;> simp [xm_val, xm_gi, xm_gl, xm_gr, xm_grid, h1, h2]
theorem xm_outer (c : ClassId) (N h0 : Nat) : ∀ i : Nat, Jvm.Free.Multi.outerC c N h0 i = arrV c N (fun j => va_rf (if j < i then some (h0 + 1 + j) else none))
  | 0 => by
    show ({ cls := c, slots := Array.replicate N .null, vm := .none } : Cell) = _
    rw [arrV_new]
    refine congrArg (arrV c N) (funext fun j => ?_)
    simp [va_rf]
  | i + 1 => by
    show (Jvm.Free.Multi.outerC c N h0 i).setSlot i (.ref (h0 + 1 + i)) = _
    rw [xm_outer c N h0 i, arrV_store]
    refine congrArg (arrV c N) (funext fun j => ?_)
    by_cases e : j = i
    · subst e
      simp [updV, va_rf]
    · by_cases h : j < i
      · simp [updV, e, h, Nat.lt_succ_of_lt h]
      · simp [updV, e, h, show ¬ j < i + 1 by omega]
theorem x_mna {idx : Nat} {n k : Int32} {N K : Nat} (hd : decode Y.2.1 pc = .ok (.multianewarray idx 2, 4)) (hw : Cond.classLink Y.1.cls idx "[[J" ∈ xm_tbl) (hw2 : Cond.arrayClass .long ∈ xm_tbl) (hn : ¬ n < 0) (hk : ¬ k < 0) (hN : n.toNatClampNeg = N) (hK : k.toNatClampNeg = K) (hb1 : N * 4 ≤ 536870912) (hb2 : K * 8 ≤ 536870912) (hR : cs + (1 + N) ≤ R.cells ∧ sl + (N + N * K) ≤ R.slots) (kk : xm_X l E Y R Q (pc + 4) L (.ref (xm_nx M) :: st) (cs + 1 + N) (sl + N + N * K) (xm_grid M N K)) : xm_X l E Y R Q pc L (.int k :: .int n :: st) cs sl M := by
  intro p e s m args below meth c H locs ls Qf C hW h0 hl hRt
  subst hN
  subst hK
  have C' := C
  obtain ⟨c1, c2, c3, c4, c5, c6, c7, c8, c9⟩ := C
  intro T hT Xs
  obtain ⟨vm₁, cA, comp, -, fA, fC, hO, -, X', step⟩ := Xs.multianewarray2F (ty := .long) c1 c7 (c8 _ hw) c9.2.2.2.2.2.2.2 (c8 _ hw2) (g := F0 m pc ls (.int k :: .int n :: st)) rfl (by rw [c2]; exact hd) rfl hn hk hb1 hb2 (by omega) rfl rfl hR.1 hR.2
  have hcA : cA = E.2.1 (.array .long) := Option.some.inj (fA.symm.trans (c9.2.2.1 _ (by decide)))
  have hcC : comp = E.2.1 .long := Option.some.inj (fC.symm.trans (c9.2.2.1 .long (by decide)))
  subst hcA
  subst hcC
  generalize hF : Jvm.Free.Multi.fill (T.setVm vm₁) (E.2.1 (.array .long)) (E.2.1 .long) n.toNatClampNeg k.toNatClampNeg (defaultValue .long) n.toNatClampNeg = F at X' step
  have hTh : (T.setVm vm₁).heap = H := hT
  obtain ⟨f1, f2, -, -⟩ := Jvm.Free.Multi.fill_facts (T.setVm vm₁) (E.2.1 (.array .long)) (E.2.1 .long) n.toNatClampNeg k.toNatClampNeg (defaultValue .long) n.toNatClampNeg
  rw [hF, hTh] at f1 f2
  have hold : ∀ x : Nat, x < H.size → F.heap[x]? = H[x]? := fun x hx => by
    have := Jvm.Free.Multi.fill_old (T.setVm vm₁) (E.2.1 (.array .long)) (E.2.1 .long) n.toNatClampNeg k.toNatClampNeg (defaultValue .long) (a := x) (by rw [hTh]; exact hx) n.toNatClampNeg
    rw [hF, hTh] at this
    exact this
  have hrow : ∀ j : Nat, j < n.toNatClampNeg → F.heap[H.size + 1 + j]? = some (arrV (E.2.1 .long) k.toNatClampNeg (fun _ => .long 0)) := fun j hj => by
    have := Jvm.Free.Multi.fill_inner (T.setVm vm₁) (E.2.1 (.array .long)) (E.2.1 .long) n.toNatClampNeg k.toNatClampNeg (defaultValue .long) n.toNatClampNeg j hj
    rw [hF, hTh] at this
    rw [this]
    exact congrArg some (arrV_new _ _ _)
  rw [xm_outer] at f2
  rw [hW.1] at f1 f2 hold hrow
  have hWn : xm_W E (xm_grid M n.toNatClampNeg k.toNatClampNeg) F.heap := by
    refine ⟨f1, fun a q hq => ?_, fun x hx => ?_, by rw [f1]; have := hW.2.2.2; rw [hW.1] at this; omega⟩
    · have hB : (xm_B E).size ≤ M.1.1 := by have := hW.2.2.2; rw [hW.1] at this; exact this
      by_cases ha : a = M.1.1
      · subst ha
        have hq : some (Sum.inl (n.toNatClampNeg, FieldType.array .long)) = some q := (if_pos rfl).symm.trans hq
        cases hq
        refine ⟨hB, ?_⟩
        show F.heap[M.1.1]? = some (arrV _ _ _)
        rw [f2]
        refine congrArg (fun g => some (arrV _ _ g)) (funext fun j => ?_)
        show va_rf _ = va_rf _
        exact congrArg va_rf (if_pos rfl).symm
      · by_cases hb : M.1.1 < a ∧ a < M.1.1 + 1 + n.toNatClampNeg
        · have hq : some (Sum.inl (k.toNatClampNeg, FieldType.long)) = some q := ((if_neg ha).trans (if_pos hb)).symm.trans hq
          cases hq
          refine ⟨by omega, ?_⟩
          show F.heap[a]? = some (arrV _ _ _)
          have := hrow (a - (M.1.1 + 1)) (by omega)
          rw [show M.1.1 + 1 + (a - (M.1.1 + 1)) = a by omega] at this
          rw [this]
          refine congrArg (fun g => some (arrV _ _ g)) (funext fun j => ?_)
          show Value.long 0 = Value.long _
          exact congrArg Value.long (if_pos (by omega)).symm
        · have hq : M.1.2 a = some q := ((if_neg ha).trans (if_neg hb)).symm.trans hq
          have hlt : a < M.1.1 := by rw [← hW.1]; exact (hW.2.1 a q hq).2.lt
          exact ⟨(hW.2.1 a q hq).1, (hW.2.1 a q hq).2.kept (fun ty j => xm_val_grid hlt) (hold a hlt)⟩
    · rw [hold x (by have := hW.2.2.2; rw [hW.1] at this; omega)]; exact hW.2.2.1 x hx
  obtain ⟨t2, a1, b1⟩ := kk p e s m args below meth c F.heap locs ls Qf C' hWn h0 hl hRt F rfl X'
  refine ⟨t2, step t2 ?_, b1⟩
  have hTs : T.heap.size = xm_nx M := by rw [hT]; exact hW.1
  rw [hTs]
  exact a1
end XN
