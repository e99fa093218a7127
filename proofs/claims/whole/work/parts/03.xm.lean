/-! The memory of the walk: what lies at an address (an array: its length and its elements' type; an object: its class's number), ints, longs and references by address and place. -/
abbrev xm_Sh : Type := (Nat × FieldType) ⊕ Nat
abbrev xm_M : Type := (Nat × (Nat → Option xm_Sh)) × (Nat → Nat → Int32) × (Nat → Nat → Int64) × (Nat → Nat → Option Nat)
def xm_nx (M : xm_M) : Nat := M.1.1
def xm_sh (M : xm_M) (a : Nat) : Option xm_Sh := M.1.2 a
def xm_gi (M : xm_M) (a k : Nat) : Int32 := M.2.1 a k
def xm_gl (M : xm_M) (a k : Nat) : Int64 := M.2.2.1 a k
def xm_gr (M : xm_M) (a k : Nat) : Option Nat := M.2.2.2 a k
def xm_up {α : Type} (f : Nat → Nat → α) (a k : Nat) (v : α) : Nat → Nat → α := fun x j => if x = a ∧ j = k then v else f x j
def xm_pi (M : xm_M) (a k : Nat) (v : Int32) : xm_M := (M.1, xm_up M.2.1 a k v, M.2.2)
def xm_pl (M : xm_M) (a k : Nat) (v : Int64) : xm_M := (M.1, M.2.1, xm_up M.2.2.1 a k v, M.2.2.2)
def xm_pr (M : xm_M) (a k : Nat) (v : Option Nat) : xm_M := (M.1, M.2.1, M.2.2.1, xm_up M.2.2.2 a k v)
/-- a new cell: all of it is default -/
def xm_z {α : Type} (f : Nat → Nat → α) (a : Nat) (v : α) : Nat → Nat → α := fun x j => if x = a then v else f x j
def xm_new (M : xm_M) (q : xm_Sh) : xm_M := ((M.1.1 + 1, fun x => if x = M.1.1 then some q else M.1.2 x), xm_z M.2.1 M.1.1 0, xm_z M.2.2.1 M.1.1 0, xm_z M.2.2.2 M.1.1 none)
def xm_val (ty : FieldType) (M : xm_M) (a k : Nat) : Value := match ty with
  | .long => .long (xm_gl M a k)
  | .object _ => va_rf (xm_gr M a k)
  | .array _ => va_rf (xm_gr M a k)
  | _ => .int (xm_gi M a k)
/-- what stays over the whole run: the classes' numbers and slots, the arrays' classes, the heap of the beginning, the script (its cell, its length, its ints) -/
abbrev xm_E : Type := va_G × (FieldType → ClassId) × Heap × Nat × Nat × (Nat → Int32)
abbrev xm_Y : Type := MethodName × ByteArray × Nat × Option FieldType
abbrev xm_B (E : xm_E) : Heap := E.2.2.1
def xm_at (E : xm_E) (M : xm_M) (H : Heap) (a : Nat) (q : xm_Sh) : Prop := match q with
  | .inl (n, ty) => H[a]? = some (arrV (E.2.1 ty) n (fun j => xm_val ty M a j))
  | .inr ci => ∃ r : vw_C, xm_cl[ci]? = some r ∧ t_OB a (E.1.1 ci) r.2.2 (E.1.2 ci) H (fun k => xm_val (xm_ft ci k) M a k)
def xm_W (E : xm_E) (M : xm_M) (H : Heap) : Prop := H.size = M.1.1 ∧ (∀ (a : Nat) (q : xm_Sh), M.1.2 a = some q → (xm_B E).size ≤ a ∧ xm_at E M H a q) ∧ (∀ q : Nat, q < (xm_B E).size → H[q]? = (xm_B E)[q]?) ∧ (xm_B E).size ≤ H.size
def xm_tys : List FieldType := [.int, .byte, .boolean, .long, .object "FilterProof$Instruction", .array .long]
def xm_nest : List (String × Nat × MethodName) := [("FilterProof$Filter", 21, ⟨"FilterProof$Instruction", "<init>", "()V"⟩), ("FilterProof", 29, ⟨"FilterProof$Tape", "<init>", "()V"⟩), ("FilterProof", 36, ⟨"FilterProof$Packet", "<init>", "()V"⟩), ("FilterProof$Producer", 35, ⟨"FilterProof$StepList", "<init>", "()V"⟩), ("FilterProof$StepList", 32, ⟨"FilterProof$Step", "<init>", "()V"⟩), ("FilterProof$Producer", 42, ⟨"FilterProof$RowFinder", "<init>", "()V"⟩), ("FilterProof", 50, ⟨"FilterProof$Consumer", "<init>", "()V"⟩), ("FilterProof$Consumer", 20, ⟨"FilterProof$Step", "<init>", "()V"⟩), ("FilterProof", 57, ⟨"FilterProof$Machine", "<init>", "()V"⟩)]
theorem xm_AOA_moved {t : FieldType} {u U : State} (hvm : u.vm.Alike U.vm) (h : (Cond.arrayOver (.array t)).before #[] u = true) : (Cond.arrayOver (.array t)).before #[] U = true := by
  unfold Cond.before Cond.holds at h ⊢
  simp only [Cond.value, beq_iff_eq] at h ⊢
  rw [hvm.findClass]
  cases hc : u.vm.findClass (FieldType.array t).toString with
  | none => simp [hc] at h
  | some comp =>
    simp only [hc, Option.bind_some, Option.bind_eq_some_iff, Option.map_eq_some_iff] at h
    obtain ⟨c, hi, k, hk, hb⟩ := h
    obtain ⟨k', hk', he⟩ := hvm.2.2 _ _ hk
    have hi' : (U.vm.classes.findIdx? fun (x : Class) => match x.kind with | .array component _ => component == comp | _ => false) = some c := by
      have e1 := va_idx_bare U.vm comp
      have e2 := va_idx_bare u.vm comp
      first | rw [← hvm.bare_eq] at e1 | rw [hvm.bare_eq] at e1
      exact e1.symm.trans (e2.trans hi)
    have hkk : k'.kind = k.kind := by rw [he]
    rw [Option.bind_some]
    refine Option.bind_eq_some_iff.mpr ⟨c, hi', ?_⟩
    rw [hk', Option.map_some, hkk, hvm.findClass]
    exact congrArg some hb
/-- what the tables say, at every state -/
def xm_K (E : xm_E) (s : State) : Prop := (∀ (c : Nat) (q : vw_C), xm_cl[c]? = some q → u_Kn s q.1 q.2.1 q.2.2 (E.1.1 c) (E.1.2 c)) ∧ (∀ ty ∈ xm_tys, ArrOfT s (E.2.1 ty) ty) ∧ (∀ ty ∈ xm_tys, s.vm.findClass ("[" ++ ty.toString) = some (E.2.1 ty)) ∧ (∀ w ∈ xm_nest, va_Nw (.methodLinkNest w.1 w.2.1 w.2.2 "FilterProof") s) ∧ va_X E.2.2.2.1 E.2.2.2.2.1 E.2.2.2.2.2 s (xm_B E) ∧ E.2.2.2.1 < (xm_B E).size ∧ va_AO "FilterProof$Instruction" s ∧ (Cond.arrayOver (.array .long)).before #[] s = true
theorem xm_K.moved {E : xm_E} {s U : State} (h : xm_K E s) (hW : s.WarmedH U.vm) : xm_K E U := by
  obtain ⟨h1, h2, h3, h4, h5, h6, h7, h8⟩ := h
  exact ⟨fun c q hq => u_Kn_moved hW.alike (h1 c q hq), fun ty hy => arrOfT_moved hW.alike (h2 ty hy), fun ty hy => by rw [hW.alike.findClass]; exact h3 ty hy, fun w hw => va_Nw.warmM hW (h4 w hw), h5.moved hW.alike, h6, h7.moved hW.alike, xm_AOA_moved hW.alike h8⟩
theorem xm_K.same {E : xm_E} {s U : State} (h : xm_K E s) (hv : s.vm = U.vm) : xm_K E U := by
  obtain ⟨h1, h2, h3, h4, h5, h6, h7, h8⟩ := h
  have ha : s.vm.Alike U.vm := by rw [hv]; exact Vm.Alike.refl _
  exact ⟨fun c q hq => u_Kn_moved ha (h1 c q hq), fun ty hy => arrOfT_moved ha (h2 ty hy), fun ty hy => by rw [ha.findClass]; exact h3 ty hy, fun w hw => va_Nw.same rfl hv (h4 w hw), h5.moved ha, h6, h7.moved ha, xm_AOA_moved ha h8⟩
/-! a store: the heap behind it holds the memory behind it -/
theorem xm_at.kept {E : xm_E} {M M1 : xm_M} {H H1 : Heap} {a : Nat} {q : xm_Sh} (h : xm_at E M H a q) (hv : ∀ (ty : FieldType) (j : Nat), xm_val ty M1 a j = xm_val ty M a j) (hH : H1[a]? = H[a]?) : xm_at E M1 H1 a q := by
  rcases q with ⟨n, ty⟩ | ci
  · show H1[a]? = some (arrV _ n _)
    rw [hH, show (fun j => xm_val ty M1 a j) = fun j => xm_val ty M a j from funext fun j => hv ty j]
    exact h
  · obtain ⟨r, h1, h2⟩ := h
    exact ⟨r, h1, (h2.kept hH).to (fun k _ => (hv _ k).symm)⟩
theorem xm_val_pi {M : xm_M} {a k b j : Nat} {v : Int32} (ty : FieldType) (h : ¬ (b = a ∧ j = k)) : xm_val ty (xm_pi M a k v) b j = xm_val ty M b j := by
  have e : xm_gi (xm_pi M a k v) b j = xm_gi M b j := if_neg h
  unfold xm_val
  split <;> first | rfl | rw [e]
theorem xm_val_pl {M : xm_M} {a k b j : Nat} {v : Int64} (ty : FieldType) (h : ¬ (b = a ∧ j = k)) : xm_val ty (xm_pl M a k v) b j = xm_val ty M b j := by
  have e : xm_gl (xm_pl M a k v) b j = xm_gl M b j := if_neg h
  unfold xm_val
  split <;> first | rfl | rw [e]
theorem xm_val_pr {M : xm_M} {a k b j : Nat} {v : Option Nat} (ty : FieldType) (h : ¬ (b = a ∧ j = k)) : xm_val ty (xm_pr M a k v) b j = xm_val ty M b j := by
  have e : xm_gr (xm_pr M a k v) b j = xm_gr M b j := if_neg h
  unfold xm_val
  split <;> first | rfl | rw [e]
theorem xm_W.putA {E : xm_E} {M M1 : xm_M} {H H1 : Heap} {a k n : Nat} {ty : FieldType} {x : Value} (h : xm_W E M H) (hM : M1.1 = M.1) (hv : ∀ (ty : FieldType) (b j : Nat), ¬ (b = a ∧ j = k) → xm_val ty M1 b j = xm_val ty M b j) (hx : xm_val ty M1 a k = x) (hs : M.1.2 a = some (.inl (n, ty))) (e : H1[a]? = some ((arrV (E.2.1 ty) n (fun j => xm_val ty M a j)).setSlot k x)) (z : H1.size = H.size) (oq : ∀ q, q ≠ a → H1[q]? = H[q]?) : xm_W E M1 H1 := by
  obtain ⟨h1, h2, h3, h4⟩ := h
  refine ⟨by rw [z, hM]; exact h1, fun b q hq => ?_, fun q hq => ?_, by rw [z]; exact h4⟩
  · rw [hM] at hq
    refine ⟨(h2 b q hq).1, ?_⟩
    by_cases hb : b = a
    · subst hb
      have hqe : q = .inl (n, ty) := Option.some.inj (hq.symm.trans hs)
      subst hqe
      show H1[b]? = some (arrV _ n _)
      rw [e, arrV_store]
      refine congrArg (fun g => some (arrV (E.2.1 ty) n g)) (funext fun j => ?_)
      unfold updV
      by_cases hj : j = k
      · subst hj; rw [if_pos rfl, hx]
      · rw [if_neg hj, hv ty b j (fun c => hj c.2)]
    · exact (h2 b q hq).2.kept (fun ty j => hv ty b j (fun c => hb c.1)) (oq b hb)
  · rw [oq q (fun c => by have := (h2 a _ hs).1; omega)]
    exact h3 q hq
theorem xm_W.putO {E : xm_E} {M M1 : xm_M} {H H1 : Heap} {a k ci : Nat} {r : vw_C} {x : Value} {cell : Cell} (h : xm_W E M H) (hM : M1.1 = M.1) (hv : ∀ (ty : FieldType) (b j : Nat), ¬ (b = a ∧ j = k) → xm_val ty M1 b j = xm_val ty M b j) (hx : xm_val (xm_ft ci k) M1 a k = x) (hs : M.1.2 a = some (.inr ci)) (hr : xm_cl[ci]? = some r) (hk : k < r.2.2) (hap : ∀ x y, x < r.2.2 → y < r.2.2 → x ≠ y → E.1.2 ci x ≠ E.1.2 ci y) (c2 : cell.cls = E.1.1 ci) (c3 : cell.vm = .none) (c4 : ∀ k, k < r.2.2 → cell.slots[E.1.2 ci k]? = some (xm_val (xm_ft ci k) M a k)) (e : H1[a]? = some (cell.setSlot (E.1.2 ci k) x)) (z : H1.size = H.size) (oq : ∀ q, q ≠ a → H1[q]? = H[q]?) : xm_W E M1 H1 := by
  obtain ⟨h1, h2, h3, h4⟩ := h
  refine ⟨by rw [z, hM]; exact h1, fun b q hq => ?_, fun q hq => ?_, by rw [z]; exact h4⟩
  · rw [hM] at hq
    refine ⟨(h2 b q hq).1, ?_⟩
    by_cases hb : b = a
    · subst hb
      have hqe : q = .inr ci := Option.some.inj (hq.symm.trans hs)
      subst hqe
      refine ⟨r, hr, t_OB.to (V := updV (fun k => xm_val (xm_ft ci k) M b k) k x) ⟨_, e, c2, c3, t_set c4 hap hk x⟩ (fun j _ => ?_)⟩
      unfold updV
      by_cases hj : j = k
      · subst hj; rw [if_pos rfl, hx]
      · rw [if_neg hj, hv _ b j (fun c => hj c.2)]
    · exact (h2 b q hq).2.kept (fun ty j => hv ty b j (fun c => hb c.1)) (oq b hb)
  · rw [oq q (fun c => by have := (h2 a _ hs).1; omega)]
    exact h3 q hq
