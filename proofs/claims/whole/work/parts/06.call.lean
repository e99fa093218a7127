/-! a method's contract: from memory M, called with As, it returns, with Q of its answer and the memory behind it -/
def xm_Qc (E : xm_E) (Q : Option Value → xm_M → Prop) : Array Value → State → Outcome → State → Prop := fun _ _ oc t => ∃ (r : Option Value) (M : xm_M), oc = .returned r ∧ Q r M ∧ xm_W E M t.heap
def xm_ws (Y : xm_Y) : List Cond := .code Y.1 Y.2.1 Y.2.2.1 Y.2.2.2 :: xm_tbl
def xm_C (l : Launch) (E : xm_E) (Y : xm_Y) (R : Room) (As : List Value) (M : xm_M) (Q : Option Value → xm_M → Prop) : Prop :=
  Met l Y.1 (xm_ws Y) R (fun a U => a = As.toArray ∧ xm_W E M U.heap ∧ xm_K E U) (xm_Qc E Q) R.cells R.slots (fun q => (xm_B E).size ≤ q)
theorem xm_blind {E : xm_E} {M : xm_M} {As : List Value} : FrameBlind (fun a U => a = As.toArray ∧ xm_W E M U.heap ∧ xm_K E U) := fun _ U g mk h => ⟨h.1, h.2.1, h.2.2.same (U := U.calling g mk _) rfl⟩
section XC
variable {l : Launch} {E : xm_E} {Y Z : xm_Y} {R S : Room} {Q P : Option Value → xm_M → Prop} {pc : Nat} {L : List (Nat × Value)} {st : List Value} {cs sl : Nat} {M : xm_M}
/-- the entry: a contract out of the body -/
theorem xm_enter {As : List Value} (hy : plainName Y.1.cls = true) (hA : (lg_sl As).length ≤ Y.2.2.1) (k : xm_X l E Y R Q 0 (lv_args 0 As) [] 0 0 M) : xm_C l E Y R As M Q := by
  refine Met.ofW (cc := Y.2.1) (maxL := Y.2.2.1) (ret := Y.2.2.2) hy rfl ?_
  intro p e s m args below meth c s₁ B hml hv
  obtain ⟨rfl, hW, hK⟩ := hv
  have hlk := B.notSynchronized
  have hl := lv_entry As (n := Y.2.2.1) hA
  rw [lg_entry_eq]
  refine k p e s m As.toArray below meth c s.heap [] _ _ ⟨B.exec, B.bytes, hml, B.returns, hlk, (name_of_methodNamed B.named B.method).1, findClass_of_methodNamed B.named, fun w hw => atoms_spec (ws := xm_ws Y) B.pre w (List.mem_cons_of_mem _ hw), hK⟩ hW (fun q h => by cases h) hl ?_
  intro H locs cs sl pc ls M r ins hd hr hq hW h0 hc
  refine W.widen hc.1 hc.2 ?_
  have hrt := B.returns
  rcases hr with ⟨h1, rfl, v, rfl⟩ | ⟨h1, rfl, h2⟩ | ⟨h1, rfl, v, rfl⟩ | ⟨h1, rfl, rfl⟩
  · exact W.iret B.exec B.bytes (hrt.trans h1) (fun t ht _ => ⟨_, M, rfl, hq, by rw [ht]; exact hW⟩) h0 hd hlk
  · rcases h2 with rfl | rfl
    · exact W.zret B.exec B.bytes (hrt.trans h1) narrow_b0 (fun t ht _ => ⟨_, M, rfl, hq, by rw [ht]; exact hW⟩) h0 hd hlk
    · exact W.zret B.exec B.bytes (hrt.trans h1) narrow_b1 (fun t ht _ => ⟨_, M, rfl, hq, by rw [ht]; exact hW⟩) h0 hd hlk
  · exact W.lret B.exec B.bytes (hrt.trans h1) (fun t ht _ => ⟨_, M, rfl, hq, by rw [ht]; exact hW⟩) h0 hd hlk
  · exact W.vret B.exec B.bytes (hrt.trans h1) (fun t ht _ => ⟨_, M, rfl, hq, by rw [ht]; exact hW⟩) h0 hd hlk
theorem xm_goodIn (hc : Cond.code Z.1 Z.2.1 Z.2.2.1 Z.2.2.2 ∈ xm_tbl) : GoodIn xm_tbl (xm_ws Z) := fun w hw => by
  have h : w ∈ xm_tbl := by
    rcases List.mem_cons.mp hw with rfl | h
    · exact hc
    · exact h
  exact ⟨h, xm_good h⟩
/-- what is said of a callee, closed: its words stand in the tables; how many arguments it takes -/
def xm_cal (Z : xm_Y) (n : Nat) : Prop := Cond.code Z.1 Z.2.1 Z.2.2.1 Z.2.2.2 ∈ xm_tbl ∧ Cond.initialized Z.1.cls ∈ xm_tbl ∧ (Z.1.cls ≠ "java/lang/invoke/MethodHandle" ∧ Z.1.cls ≠ "java/lang/invoke/VarHandle" ∧ (parseMethodDescriptor Z.1.desc).map (fun d => d.parameters.length) = some n)
def xm_calV (Z : xm_Y) (n : Nat) : Prop := xm_cal Z n ∧ Cond.instanceMethod Z.1 ∈ xm_tbl ∧ Cond.selects Z.1.cls Z.1 Z.1 ∈ xm_tbl
def xm_calS (Z : xm_Y) (n : Nat) : Prop := xm_cal Z n ∧ Cond.static Z.1 ∈ xm_tbl
def xm_calI (Z : xm_Y) (n : Nat) : Prop := xm_cal Z n ∧ Cond.instanceMethod Z.1 ∈ xm_tbl ∧ Z.1.name = "<init>" ∧ Z.2.2.2 = none
def xm_rm (R S : Room) (Z : xm_Y) (cs sl : Nat) : Prop := (S.frames + 1 ≤ R.frames ∧ 8 + (Z.2.2.1 + 11) + S.locals ≤ R.locals) ∧ (cs + S.cells ≤ R.cells ∧ sl + S.slots ≤ R.slots)
/-- behind a call -/
theorem xm_back {p : Program} {e : Env} {s : State} {m : MethodId} {args : Array Value} {below : List Frame} {meth : Method} {c : Code} {H : Heap} {locs : List Loc} {ls : Array Slot} {Qf : State → Prop} {st0 rest : List Value} {a : Array Value} (C : xm_Ctx E Y p s m args meth c) (h0 : ∀ q ∈ locs, (xm_B E).size ≤ q.base) (hl : lv_has ls Y.2.2.1 L) (hR : xm_Rt l E Y R Q p e s m args below meth c Qf)
    (hr : va_Run p l e R s m args below meth c H locs cs sl S.cells S.slots (F0 m pc ls st0) rest (xm_Qc E P a) (fun q => (xm_B E).size ≤ q)) (kk : ∀ (r : Option Value) (M' : xm_M), P r M' → xm_X l E Y R Q (pc + 3) L (r.toList ++ rest) (cs + S.cells) (sl + S.slots) M') : W p l e R s m args below meth c H locs cs sl Qf (F0 m pc ls st0) := by
  intro T hT X
  obtain ⟨v, st₀, t, T', L', hh, X', hL, e1, e2, ⟨r, M', hv, hp, hW⟩, st⟩ := hr T hT X
  cases hv
  obtain ⟨t2, a1, b1⟩ := kk v M' hp p e s m args below meth c T'.heap (locs ++ L') ls Qf C (by rw [e1]; exact hW) (fun q hq => by
    rcases List.mem_append.mp hq with h | h
    · exact h0 q h
    · exact hL q h) hl hR T' rfl X'
  exact ⟨t2, st t2 a1, b1⟩
theorem x_callV {idx n b ci : Nat} {As rest : List Value} (hd : decode Y.2.1 pc = .ok (.invokevirtual idx, 3)) (hm : Cond.methodLink Y.1.cls idx Z.1 ∈ xm_tbl) (hz : xm_calV Z n) (hn : As.length = n) (hs : xm_sh M b = some (.inr ci)) (hci : (xm_cl[ci]?).map (fun r => r.1) = some Z.1.cls) (hst : st = As.reverse ++ .ref b :: rest) (hw : (rest.map fun v => v.category).sum ≤ 8) (hR : xm_rm R S Z cs sl) (hC : xm_C l E Z S (.ref b :: As) M P) (kk : ∀ (r : Option Value) (M' : xm_M), P r M' → xm_X l E Y R Q (pc + 3) L (r.toList ++ rest) (cs + S.cells) (sl + S.slots) M') : xm_X l E Y R Q pc L st cs sl M := by
  intro p e s m args below meth c H locs ls Qf C hW h0 hl hRt
  obtain ⟨⟨hcode, hini, hdd⟩, hins, hsel⟩ := hz
  obtain ⟨-, r, hr, cell, q1, q2, q3, -⟩ := hW.2.1 b _ hs
  rw [hr] at hci
  have hci : r.1 = Z.1.cls := Option.some.inj hci
  have C' := C
  obtain ⟨c1, c2, c3, c4, c5, c6, c7, c8, c9⟩ := C
  refine xm_back C' h0 hl hRt (va_runV (C := Z.1.cls) (As := As) (b := b) (rest := rest) (n := n) ⟨c1, c2, c3, c7, c8⟩ hC ⟨callB_of n c8 (xm_goodIn hcode) rfl rfl rfl (c8 _ hini) (c8 _ hm) hdd hR.1, c8 _ hins, c8 _ hsel⟩ ⟨xm_blind, ⟨cell, q1, by rw [q3]; rfl, by rw [q2, ← hci]; exact (c9.1 ci r hr).2.1⟩, fun U hU hWm => ⟨rfl, by rw [hU]; exact hW, c9.moved hWm⟩⟩ rfl hn hl.1 hst (lv_room hw) hd hR.2) kk
theorem x_callS {idx n : Nat} {As rest : List Value} (hd : decode Y.2.1 pc = .ok (.invokestatic idx, 3)) (hm : Cond.methodLink Y.1.cls idx Z.1 ∈ xm_tbl) (hz : xm_calS Z n) (hn : As.length = n) (hst : st = As.reverse ++ rest) (hw : (rest.map fun v => v.category).sum ≤ 8) (hR : xm_rm R S Z cs sl) (hC : xm_C l E Z S As M P) (kk : ∀ (r : Option Value) (M' : xm_M), P r M' → xm_X l E Y R Q (pc + 3) L (r.toList ++ rest) (cs + S.cells) (sl + S.slots) M') : xm_X l E Y R Q pc L st cs sl M := by
  intro p e s m args below meth c H locs ls Qf C hW h0 hl hRt
  obtain ⟨⟨hcode, hini, hdd⟩, hstat⟩ := hz
  have C' := C
  obtain ⟨c1, c2, c3, c4, c5, c6, c7, c8, c9⟩ := C
  exact xm_back C' h0 hl hRt (va_runS (As := As) (rest := rest) (n := n) ⟨c1, c2, c3, c7, c8⟩ hC ⟨callB_of n c8 (xm_goodIn hcode) rfl rfl rfl (c8 _ hini) (c8 _ hm) hdd hR.1, c8 _ hstat⟩ ⟨xm_blind, fun U hU hWm => ⟨rfl, by rw [hU]; exact hW, c9.moved hWm⟩⟩ rfl hn hl.1 hst (lv_room hw) hd hR.2) kk
theorem x_callI {idx n b : Nat} {As rest : List Value} (hd : decode Y.2.1 pc = .ok (.invokespecial idx, 3)) (hm : Cond.methodLink Y.1.cls idx Z.1 ∈ xm_tbl) (hz : xm_calI Z n) (hn : As.length = n) (hst : st = As.reverse ++ .ref b :: rest) (hw : (rest.map fun v => v.category).sum ≤ 8) (hR : xm_rm R S Z cs sl) (hC : xm_C l E Z S (.ref b :: As) M P) (kk : ∀ (r : Option Value) (M' : xm_M), P r M' → xm_X l E Y R Q (pc + 3) L (r.toList ++ rest) (cs + S.cells) (sl + S.slots) M') : xm_X l E Y R Q pc L st cs sl M := by
  intro p e s m args below meth c H locs ls Qf C hW h0 hl hRt
  obtain ⟨⟨hcode, hini, hdd⟩, hins, hnm, hret⟩ := hz
  have C' := C
  obtain ⟨c1, c2, c3, c4, c5, c6, c7, c8, c9⟩ := C
  refine xm_back C' h0 hl hRt (va_runI (As := As) (b := b) (rest := rest) (n := n) (bytes := Z.2.1) (maxL := Z.2.2.1) ⟨c1, c2, c3, c7, c8⟩ hC ⟨?_, hnm, c8 _ hins⟩ ⟨xm_blind, fun U hU hWm => ⟨rfl, by rw [hU]; exact hW, c9.moved hWm⟩⟩ rfl hn hl.1 hst (lv_room hw) hd hR.2) kk
  rw [← hret]
  exact callB_of n c8 (xm_goodIn hcode) rfl rfl rfl (c8 _ hini) (c8 _ hm) hdd hR.1
theorem x_callIN {idx n b : Nat} {As rest : List Value} (hd : decode Y.2.1 pc = .ok (.invokespecial idx, 3)) (hm : (Y.1.cls, idx, Z.1) ∈ xm_nest) (hz : xm_calI Z n) (hn : As.length = n) (hst : st = As.reverse ++ .ref b :: rest) (hw : (rest.map fun v => v.category).sum ≤ 8) (hR : xm_rm R S Z cs sl) (hC : xm_C l E Z S (.ref b :: As) M P) (kk : ∀ (r : Option Value) (M' : xm_M), P r M' → xm_X l E Y R Q (pc + 3) L (r.toList ++ rest) (cs + S.cells) (sl + S.slots) M') : xm_X l E Y R Q pc L st cs sl M := by
  intro p e s m args below meth c H locs ls Qf C hW h0 hl hRt
  obtain ⟨⟨hcode, hini, hdd⟩, hins, hnm, hret⟩ := hz
  have C' := C
  obtain ⟨c1, c2, c3, c4, c5, c6, c7, c8, c9⟩ := C
  refine xm_back C' h0 hl hRt (va_runIN (host := "FilterProof") (As := As) (b := b) (rest := rest) (n := n) (bytes := Z.2.1) (maxL := Z.2.2.1) ⟨c1, c2, c3, c7, c8⟩ hC ⟨?_, hnm, c8 _ hins⟩ ⟨xm_blind, fun U hU hWm => ⟨rfl, by rw [hU]; exact hW, c9.moved hWm⟩⟩ rfl hn hl.1 hst (lv_room hw) hd hR.2) kk
  rw [← hret]
  exact va_cnB n c8 (xm_goodIn hcode) rfl rfl rfl (c9.2.2.2.1 _ hm) (c8 _ hini) hdd hR.1
theorem x_objInit {idx a : Nat} {rest : List Value} (hd : decode Y.2.1 pc = .ok (.invokespecial idx, 3)) (hm : Cond.methodLink Y.1.cls idx Lib.objectInit ∈ xm_tbl) (h2 : Cond.instanceMethod Lib.objectInit ∈ xm_tbl) (h3 : Cond.code Lib.objectInit ⟨#[0xb1]⟩ 1 none ∈ xm_tbl) (hw : (rest.map fun v => v.category).sum ≤ 8) (hR : 1 ≤ R.frames ∧ 20 ≤ R.locals) (kk : xm_X l E Y R Q (pc + 3) L rest cs sl M) : xm_X l E Y R Q pc L (.ref a :: rest) cs sl M := by
  intro p e s m args below meth c H locs ls Qf C hW h0 hl hRt
  refine W.objInit C.1 C.2.1 C.2.2.2.2.2.2.1 (C.2.2.2.2.2.2.2.1 _ hm) (C.2.2.2.2.2.2.2.1 _ h2) (C.2.2.2.2.2.2.2.1 _ h3) rfl (hl.1.trans C.2.2.1.symm) rfl hd hR.1 ?_ (kk p e s m args below meth c H locs ls Qf C hW h0 hl hRt)
  have := lv_room (m := m) (pc := pc) (ls := ls) (rest := (.ref a :: rest)) hw
  omega
/-- more room, a weaker end -/
theorem xm_X.mono {P : Option Value → xm_M → Prop} (h : xm_X l E Y R Q pc L st cs sl M) (hq : ∀ r M', Q r M' → P r M') : xm_X l E Y R P pc L st cs sl M := fun p e s m args below meth c H locs ls Qf C hW h0 hl hRt =>
  h p e s m args below meth c H locs ls Qf C hW h0 hl (fun H locs cs sl pc ls M r ins hd hr hq' => hRt H locs cs sl pc ls M r ins hd hr (hq r M hq'))
end XC
