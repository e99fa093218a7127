/-! fields, arrays -/
def xm_fl (own : String) (idx ci k : Nat) : Prop := ∃ r : vw_C, xm_cl[ci]? = some r ∧ k < r.2.2 ∧ (r.2.1 k).1 = r.1 ∧ Cond.fieldLink own idx r.1 (r.2.1 k).2.1 (r.2.1 k).2.2.1 ∈ xm_tbl
def xm_fw (own : String) (idx ci k : Nat) : Prop := ∃ r : vw_C, xm_cl[ci]? = some r ∧ k < r.2.2 ∧ (r.2.1 k).1 = r.1 ∧ Cond.fieldLink own idx r.1 (r.2.1 k).2.1 (r.2.1 k).2.2.1 ∈ xm_tbl ∧ (r.2.1 k).2.2.2 = false
def xm_ff (own : String) (idx ci k : Nat) : Prop := ∃ r : vw_C, xm_cl[ci]? = some r ∧ k < r.2.2 ∧ (r.2.1 k).1 = r.1 ∧ Cond.fieldLink own idx r.1 (r.2.1 k).2.1 (r.2.1 k).2.2.1 ∈ xm_tbl ∧ (r.2.1 k).2.2.2 = true ∧ r.1 = own
theorem xm_gi_pi (M : xm_M) (a k : Nat) (v : Int32) : xm_gi (xm_pi M a k v) a k = v := if_pos ⟨rfl, rfl⟩
theorem xm_gl_pl (M : xm_M) (a k : Nat) (v : Int64) : xm_gl (xm_pl M a k v) a k = v := if_pos ⟨rfl, rfl⟩
theorem xm_gr_pr (M : xm_M) (a k : Nat) (v : Option Nat) : xm_gr (xm_pr M a k v) a k = v := if_pos ⟨rfl, rfl⟩
section XM
variable {l : Launch} {E : xm_E} {Y : xm_Y} {R : Room} {Q : Option Value → xm_M → Prop} {pc : Nat} {L : List (Nat × Value)} {st : List Value} {cs sl : Nat} {M : xm_M}
theorem xm_apart {s : State} {args : Array Value} {ci : Nat} {r : vw_C} (hts : ∀ w ∈ xm_tbl, w.before args s = true) (hK : xm_K E s) (hr : xm_cl[ci]? = some r) : ∀ x y, x < r.2.2 → y < r.2.2 → x ≠ y → E.1.2 ci x ≠ E.1.2 ci y := by
  intro x y hx hy hne
  obtain ⟨o1, o2, o3⟩ := xm_cl_ok ci r hr
  obtain ⟨hS, -⟩ := hK.1 ci r hr
  obtain ⟨_, _, _, fa, hia, ea⟩ := hS x hx
  obtain ⟨_, _, _, fb, hib, eb⟩ := hS y hy
  rw [← ea, ← eb]
  refine u_apart (u_lays hts o1 hx) (u_lays hts o1 hy) hia hib ?_
  rw [(State.fieldFound?_type hia (o2 x hx)).1, (State.fieldFound?_type hib (o2 y hy)).1]
  exact o3 x hx y hy hne
theorem x_get {idx ci k a : Nat} {v : Value} (hd : decode Y.2.1 pc = .ok (.getfield idx, 3)) (hf : xm_fl Y.1.cls idx ci k) (hs : xm_sh M a = some (.inr ci)) (hv : xm_val (xm_ft ci k) M a k = v) (kk : xm_X l E Y R Q (pc + 3) L (v :: st) cs sl M) : xm_X l E Y R Q pc L (.ref a :: st) cs sl M := by
  intro p e s m args below meth c H locs ls Qf C hW h0 hl hR
  obtain ⟨r, hr, hk, hdc, hw⟩ := hf
  obtain ⟨o1, o2, o3⟩ := xm_cl_ok ci r hr
  obtain ⟨-, r', hr', cell, q1, q2, q3, q4⟩ := hW.2.1 a _ hs
  cases hr.symm.trans hr'
  have k9 := kk p e s m args below meth c H locs ls Qf C hW h0 hl hR
  obtain ⟨c1, c2, c3, c4, c5, c6, c7, c8, c9⟩ := C
  obtain ⟨hS, hfc, kC, hkC, hkind⟩ := c9.1 ci r hr
  obtain ⟨cf, kf, fi, f, hi, hsl⟩ := hS k hk
  refine W.getf c1 c2 c7 (c8 _ hw) (by rw [← hdc]; exact hi) (u_facts hfc hkC (u_lays c8 o1 hk) hi).1 q1 (by rw [q3]; exact fun h => by cases h) (v := v) ?_ rfl rfl hd k9
  rw [hsl, q4 k hk]
  exact congrArg some hv
theorem x_getI {idx ci k a : Nat} (hd : decode Y.2.1 pc = .ok (.getfield idx, 3)) (hf : xm_fl Y.1.cls idx ci k) (ht : ∀ M a, xm_val (xm_ft ci k) M a k = .int (xm_gi M a k)) (hs : xm_sh M a = some (.inr ci)) (kk : xm_X l E Y R Q (pc + 3) L (.int (xm_gi M a k) :: st) cs sl M) : xm_X l E Y R Q pc L (.ref a :: st) cs sl M := x_get hd hf hs (ht M a) kk
theorem x_getL {idx ci k a : Nat} (hd : decode Y.2.1 pc = .ok (.getfield idx, 3)) (hf : xm_fl Y.1.cls idx ci k) (ht : ∀ M a, xm_val (xm_ft ci k) M a k = .long (xm_gl M a k)) (hs : xm_sh M a = some (.inr ci)) (kk : xm_X l E Y R Q (pc + 3) L (.long (xm_gl M a k) :: st) cs sl M) : xm_X l E Y R Q pc L (.ref a :: st) cs sl M := x_get hd hf hs (ht M a) kk
theorem x_getR {idx ci k a q : Nat} (hd : decode Y.2.1 pc = .ok (.getfield idx, 3)) (hf : xm_fl Y.1.cls idx ci k) (ht : ∀ M a, xm_val (xm_ft ci k) M a k = va_rf (xm_gr M a k)) (hs : xm_sh M a = some (.inr ci)) (hg : xm_gr M a k = some q) (kk : xm_X l E Y R Q (pc + 3) L (.ref q :: st) cs sl M) : xm_X l E Y R Q pc L (.ref a :: st) cs sl M := x_get hd hf hs ((ht M a).trans (by rw [hg]; rfl)) kk
theorem x_put {idx ci k a : Nat} {v : Value} {M1 : xm_M} (hd : decode Y.2.1 pc = .ok (.putfield idx, 3)) (hf : xm_fw Y.1.cls idx ci k) (hn : narrow (xm_ft ci k) v = v) (hfit : fits (xm_ft ci k) v = true) (hs : xm_sh M a = some (.inr ci)) (hM : M1.1 = M.1) (hv : ∀ (ty : FieldType) (b j : Nat), ¬ (b = a ∧ j = k) → xm_val ty M1 b j = xm_val ty M b j) (hx : xm_val (xm_ft ci k) M1 a k = v) (kk : xm_X l E Y R Q (pc + 3) L st cs sl M1) : xm_X l E Y R Q pc L (v :: .ref a :: st) cs sl M := by
  intro p e s m args below meth c H locs ls Qf C hW h0 hl hR
  obtain ⟨r, hr, hk, hdc, hw, hfin⟩ := hf
  obtain ⟨o1, o2, o3⟩ := xm_cl_ok ci r hr
  obtain ⟨ha, r', hr', cell, q1, q2, q3, q4⟩ := hW.2.1 a _ hs
  cases hr.symm.trans hr'
  have C' := C
  obtain ⟨c1, c2, c3, c4, c5, c6, c7, c8, c9⟩ := C
  obtain ⟨hS, hfc, kC, hkC, hkind⟩ := c9.1 ci r hr
  obtain ⟨cf, kf, fi, f, hi, hsl⟩ := hS k hk
  have hlay := c8 _ (o1 _ (u_in_lay hk))
  unfold u_lay at hlay
  rw [if_neg (by rw [hfin]; decide)] at hlay
  have hst := (u_facts hfc hkC (u_lays c8 o1 hk) hi).1
  have h6 := u_store hfc hkC hkind hlay hi (o2 k hk) hn hfit
  refine W.putK c1 c2 (f := f) ⟨c7, c8 _ hw, ⟨cf, kf, fi, by rw [← hdc]; exact hi⟩, hst⟩ (by rw [q2]; exact h6) q1 q3 (by rw [hsl]; exact k2_hasslot (q4 k hk)) rfl rfl hd fun H1 e1 e2 e3 => ?_
  rw [hsl] at e1 ⊢
  exact kk p e s m args below meth c H1 _ ls Qf C' (hW.putO hM hv hx hs hr hk (xm_apart c8 c9 hr) q2 q3 q4 e1 e2 e3) (fun q hq => by
    rcases List.mem_append.mp hq with h | h
    · exact h0 q h
    · rw [List.mem_singleton.mp h]; exact ha) hl hR
theorem x_putI {idx ci k a : Nat} {v : Int32} (hd : decode Y.2.1 pc = .ok (.putfield idx, 3)) (hf : xm_fw Y.1.cls idx ci k) (ht : ∀ M a, xm_val (xm_ft ci k) M a k = .int (xm_gi M a k)) (hn : narrow (xm_ft ci k) (.int v) = .int v) (hfit : fits (xm_ft ci k) (.int v) = true) (hs : xm_sh M a = some (.inr ci)) (kk : xm_X l E Y R Q (pc + 3) L st cs sl (xm_pi M a k v)) : xm_X l E Y R Q pc L (.int v :: .ref a :: st) cs sl M :=
  x_put (M1 := xm_pi M a k v) hd hf hn hfit hs rfl (fun ty _ _ h => xm_val_pi ty h) ((ht _ _).trans (congrArg Value.int (xm_gi_pi M a k v))) kk
theorem x_putL {idx ci k a : Nat} {v : Int64} (hd : decode Y.2.1 pc = .ok (.putfield idx, 3)) (hf : xm_fw Y.1.cls idx ci k) (ht : ∀ M a, xm_val (xm_ft ci k) M a k = .long (xm_gl M a k)) (hn : narrow (xm_ft ci k) (.long v) = .long v) (hfit : fits (xm_ft ci k) (.long v) = true) (hs : xm_sh M a = some (.inr ci)) (kk : xm_X l E Y R Q (pc + 3) L st cs sl (xm_pl M a k v)) : xm_X l E Y R Q pc L (.long v :: .ref a :: st) cs sl M :=
  x_put (M1 := xm_pl M a k v) hd hf hn hfit hs rfl (fun ty _ _ h => xm_val_pl ty h) ((ht _ _).trans (congrArg Value.long (xm_gl_pl M a k v))) kk
theorem x_putR {idx ci k a v : Nat} (hd : decode Y.2.1 pc = .ok (.putfield idx, 3)) (hf : xm_fw Y.1.cls idx ci k) (ht : ∀ M a, xm_val (xm_ft ci k) M a k = va_rf (xm_gr M a k)) (hn : narrow (xm_ft ci k) (.ref v) = .ref v) (hfit : fits (xm_ft ci k) (.ref v) = true) (hs : xm_sh M a = some (.inr ci)) (kk : xm_X l E Y R Q (pc + 3) L st cs sl (xm_pr M a k (some v))) : xm_X l E Y R Q pc L (.ref v :: .ref a :: st) cs sl M :=
  x_put (M1 := xm_pr M a k (some v)) hd hf hn hfit hs rfl (fun ty _ _ h => xm_val_pr ty h) ((ht _ _).trans (congrArg va_rf (xm_gr_pr M a k (some v)))) kk
theorem x_putF {idx ci k a : Nat} {v : Value} {M1 : xm_M} (hd : decode Y.2.1 pc = .ok (.putfield idx, 3)) (hf : xm_ff Y.1.cls idx ci k) (hin : Y.1.name = "<init>") (hn : narrow (xm_ft ci k) v = v) (hfit : fits (xm_ft ci k) v = true) (hs : xm_sh M a = some (.inr ci)) (hM : M1.1 = M.1) (hv : ∀ (ty : FieldType) (b j : Nat), ¬ (b = a ∧ j = k) → xm_val ty M1 b j = xm_val ty M b j) (hx : xm_val (xm_ft ci k) M1 a k = v) (kk : xm_X l E Y R Q (pc + 3) L st cs sl M1) : xm_X l E Y R Q pc L (v :: .ref a :: st) cs sl M := by
  intro p e s m args below meth c H locs ls Qf C hW h0 hl hR
  obtain ⟨r, hr, hk, hdc, hw, hfin, hro⟩ := hf
  obtain ⟨o1, o2, o3⟩ := xm_cl_ok ci r hr
  obtain ⟨ha, r', hr', cell, q1, q2, q3, q4⟩ := hW.2.1 a _ hs
  cases hr.symm.trans hr'
  have C' := C
  obtain ⟨c1, c2, c3, c4, c5, c6, c7, c8, c9⟩ := C
  obtain ⟨hS, hfc, kC, hkC, hkind⟩ := c9.1 ci r hr
  obtain ⟨cf, kf, fi, f, hi, hsl⟩ := hS k hk
  have hlay := c8 _ (o1 _ (u_in_lay hk))
  unfold u_lay at hlay
  rw [if_pos hfin] at hlay
  have hst := (u_facts hfc hkC (u_lays c8 o1 hk) hi).1
  have hcf : m.cls = cf := by
    obtain ⟨_, _, c', _, _, _, -, -, hf', -, -, -, hown2, -⟩ := Cond.laysFinal_spec hlay
    have e1 : c' = cf := by have := hi.symm.trans hf'; simp at this; exact this.1.symm
    rw [hdc, hro] at hown2
    rw [← e1]; exact Option.some.inj (c7.symm.trans hown2)
  have h6 := u_fits hfc hkC hkind (Or.inr hlay) hi (o2 k hk) hn hfit
  refine W.putFinK c1 c2 c7 (c8 _ hw) (by rw [← hdc]; exact hi) hst hcf (c6.trans hin) (by rw [q2]; exact h6) q1 q3 (by rw [hsl]; exact k2_hasslot (q4 k hk)) rfl rfl hd fun H1 e1 e2 e3 => ?_
  rw [hsl] at e1 ⊢
  exact kk p e s m args below meth c H1 _ ls Qf C' (hW.putO hM hv hx hs hr hk (xm_apart c8 c9 hr) q2 q3 q4 e1 e2 e3) (fun q hq => by
    rcases List.mem_append.mp hq with h | h
    · exact h0 q h
    · rw [List.mem_singleton.mp h]; exact ha) hl hR
theorem x_putFI {idx ci k a : Nat} {v : Int32} (hd : decode Y.2.1 pc = .ok (.putfield idx, 3)) (hf : xm_ff Y.1.cls idx ci k) (hin : Y.1.name = "<init>") (ht : ∀ M a, xm_val (xm_ft ci k) M a k = .int (xm_gi M a k)) (hn : narrow (xm_ft ci k) (.int v) = .int v) (hfit : fits (xm_ft ci k) (.int v) = true) (hs : xm_sh M a = some (.inr ci)) (kk : xm_X l E Y R Q (pc + 3) L st cs sl (xm_pi M a k v)) : xm_X l E Y R Q pc L (.int v :: .ref a :: st) cs sl M :=
  x_putF (M1 := xm_pi M a k v) hd hf hin hn hfit hs rfl (fun ty _ _ h => xm_val_pi ty h) ((ht _ _).trans (congrArg Value.int (xm_gi_pi M a k v))) kk
theorem x_putFR {idx ci k a v : Nat} (hd : decode Y.2.1 pc = .ok (.putfield idx, 3)) (hf : xm_ff Y.1.cls idx ci k) (hin : Y.1.name = "<init>") (ht : ∀ M a, xm_val (xm_ft ci k) M a k = va_rf (xm_gr M a k)) (hn : narrow (xm_ft ci k) (.ref v) = .ref v) (hfit : fits (xm_ft ci k) (.ref v) = true) (hs : xm_sh M a = some (.inr ci)) (kk : xm_X l E Y R Q (pc + 3) L st cs sl (xm_pr M a k (some v))) : xm_X l E Y R Q pc L (.ref v :: .ref a :: st) cs sl M :=
  x_putF (M1 := xm_pr M a k (some v)) hd hf hin hn hfit hs rfl (fun ty _ _ h => xm_val_pr ty h) ((ht _ _).trans (congrArg va_rf (xm_gr_pr M a k (some v)))) kk
/-! arrays -/
theorem x_iald {a n : Nat} {i : Int32} (hd : decode Y.2.1 pc = .ok (.iaload, 1)) (hs : xm_sh M a = some (.inl (n, .int))) (hi : vp_in i n) (kk : xm_X l E Y R Q (pc + 1) L (.int (xm_gi M a i.toNatClampNeg) :: st) cs sl M) : xm_X l E Y R Q pc L (.int i :: .ref a :: st) cs sl M := fun p e s m args below meth c H locs ls Qf C hW h0 hl hR =>
  W.iald (v := .int (xm_gi M a i.toNatClampNeg)) C.1 C.2.1 (hW.2.1 a _ hs).2 (C.2.2.2.2.2.2.2.2.2.1 .int (by decide) n _) (fun q => by cases q) (by rw [arrV_size]; exact hi) (by rw [arrV_read _ _ (Nat.not_le.mp fun q => hi (Or.inr q))]; rfl) rfl rfl hd (kk p e s m args below meth c H locs ls Qf C hW h0 hl hR)
theorem x_bald {a n : Nat} {i : Int32} (hd : decode Y.2.1 pc = .ok (.baload, 1)) (hs : xm_sh M a = some (.inl (n, .byte))) (hi : vp_in i n) (kk : xm_X l E Y R Q (pc + 1) L (.int (xm_gi M a i.toNatClampNeg) :: st) cs sl M) : xm_X l E Y R Q pc L (.int i :: .ref a :: st) cs sl M := fun p e s m args below meth c H locs ls Qf C hW h0 hl hR =>
  W.bald (v := .int (xm_gi M a i.toNatClampNeg)) C.1 C.2.1 (hW.2.1 a _ hs).2 (C.2.2.2.2.2.2.2.2.2.1 .byte (by decide) n _) (fun q => by cases q) (by rw [arrV_size]; exact hi) (by rw [arrV_read _ _ (Nat.not_le.mp fun q => hi (Or.inr q))]; rfl) rfl rfl hd (kk p e s m args below meth c H locs ls Qf C hW h0 hl hR)
theorem x_zald {a n : Nat} {i : Int32} (hd : decode Y.2.1 pc = .ok (.baload, 1)) (hs : xm_sh M a = some (.inl (n, .boolean))) (hi : vp_in i n) (kk : xm_X l E Y R Q (pc + 1) L (.int (xm_gi M a i.toNatClampNeg) :: st) cs sl M) : xm_X l E Y R Q pc L (.int i :: .ref a :: st) cs sl M := fun p e s m args below meth c H locs ls Qf C hW h0 hl hR =>
  W.zald (v := .int (xm_gi M a i.toNatClampNeg)) C.1 C.2.1 (hW.2.1 a _ hs).2 (C.2.2.2.2.2.2.2.2.2.1 .boolean (by decide) n _) (fun q => by cases q) (by rw [arrV_size]; exact hi) (by rw [arrV_read _ _ (Nat.not_le.mp fun q => hi (Or.inr q))]; rfl) rfl rfl hd (kk p e s m args below meth c H locs ls Qf C hW h0 hl hR)
theorem x_lald {a n : Nat} {i : Int32} (hd : decode Y.2.1 pc = .ok (.laload, 1)) (hs : xm_sh M a = some (.inl (n, .long))) (hi : vp_in i n) (kk : xm_X l E Y R Q (pc + 1) L (.long (xm_gl M a i.toNatClampNeg) :: st) cs sl M) : xm_X l E Y R Q pc L (.int i :: .ref a :: st) cs sl M := fun p e s m args below meth c H locs ls Qf C hW h0 hl hR =>
  W.lald (v := .long (xm_gl M a i.toNatClampNeg)) C.1 C.2.1 (hW.2.1 a _ hs).2 (C.2.2.2.2.2.2.2.2.2.1 .long (by decide) n _) (fun q => by cases q) (by rw [arrV_size]; exact hi) (by rw [arrV_read _ _ (Nat.not_le.mp fun q => hi (Or.inr q))]; rfl) rfl rfl hd (kk p e s m args below meth c H locs ls Qf C hW h0 hl hR)
theorem x_aald {a n q : Nat} {ty : FieldType} {i : Int32} (hd : decode Y.2.1 pc = .ok (.aaload, 1)) (hs : xm_sh M a = some (.inl (n, ty))) (hy : ty ∈ xm_tys) (hr : ty.isReference = true) (hi : vp_in i n) (hg : xm_gr M a i.toNatClampNeg = some q) (kk : xm_X l E Y R Q (pc + 1) L (.ref q :: st) cs sl M) : xm_X l E Y R Q pc L (.int i :: .ref a :: st) cs sl M := fun p e s m args below meth c H locs ls Qf C hW h0 hl hR =>
  W.aald (v := .ref q) C.1 C.2.1 (hW.2.1 a _ hs).2 (C.2.2.2.2.2.2.2.2.2.1 ty hy n _) hr (fun q => by cases q) (by rw [arrV_size]; exact hi) (by
    rw [arrV_read _ _ (Nat.not_le.mp fun q => hi (Or.inr q))]
    cases ty with
    | object C => exact congrArg some (by show va_rf _ = _; rw [hg]; rfl)
    | array t => exact congrArg some (by show va_rf _ = _; rw [hg]; rfl)
    | _ => cases hr) rfl rfl hd (kk p e s m args below meth c H locs ls Qf C hW h0 hl hR)
theorem xm_locs {locs : List Loc} {a k : Nat} (h0 : ∀ q ∈ locs, (xm_B E).size ≤ q.base) (ha : (xm_B E).size ≤ a) : ∀ q ∈ locs ++ [(⟨a, k⟩ : Loc)], (xm_B E).size ≤ q.base := fun q hq => by
  rcases List.mem_append.mp hq with h | h
  · exact h0 q h
  · rw [List.mem_singleton.mp h]; exact ha
theorem x_iast {a n : Nat} {i x : Int32} (hd : decode Y.2.1 pc = .ok (.iastore, 1)) (hs : xm_sh M a = some (.inl (n, .int))) (hi : vp_in i n) (kk : xm_X l E Y R Q (pc + 1) L st cs sl (xm_pi M a i.toNatClampNeg x)) : xm_X l E Y R Q pc L (.int x :: .int i :: .ref a :: st) cs sl M := fun p e s m args below meth c H locs ls Qf C hW h0 hl hR =>
  W.iast C.1 C.2.1 (hW.2.1 a _ hs).2 (C.2.2.2.2.2.2.2.2.2.1 .int (by decide) n _) (fun q => by cases q) (by rw [arrV_size]; exact hi) rfl rfl hd fun H1 e1 z oq =>
    kk p e s m args below meth c H1 _ ls Qf C (hW.putA (ty := .int) (M1 := xm_pi M a i.toNatClampNeg x) rfl (fun ty _ _ h => xm_val_pi ty h) (congrArg Value.int (xm_gi_pi M a i.toNatClampNeg x)) hs e1 z oq) (xm_locs h0 (hW.2.1 a _ hs).1) hl hR
theorem x_last {a n : Nat} {i : Int32} {x : Int64} (hd : decode Y.2.1 pc = .ok (.lastore, 1)) (hs : xm_sh M a = some (.inl (n, .long))) (hi : vp_in i n) (kk : xm_X l E Y R Q (pc + 1) L st cs sl (xm_pl M a i.toNatClampNeg x)) : xm_X l E Y R Q pc L (.long x :: .int i :: .ref a :: st) cs sl M := fun p e s m args below meth c H locs ls Qf C hW h0 hl hR =>
  W.last C.1 C.2.1 (hW.2.1 a _ hs).2 (C.2.2.2.2.2.2.2.2.2.1 .long (by decide) n _) (fun q => by cases q) (by rw [arrV_size]; exact hi) rfl rfl hd fun H1 e1 z oq =>
    kk p e s m args below meth c H1 _ ls Qf C (hW.putA (ty := .long) (M1 := xm_pl M a i.toNatClampNeg x) rfl (fun ty _ _ h => xm_val_pl ty h) (congrArg Value.long (xm_gl_pl M a i.toNatClampNeg x)) hs e1 z oq) (xm_locs h0 (hW.2.1 a _ hs).1) hl hR
theorem x_bast {a n : Nat} {i x : Int32} (hd : decode Y.2.1 pc = .ok (.bastore, 1)) (hs : xm_sh M a = some (.inl (n, .byte))) (hi : vp_in i n) (kk : xm_X l E Y R Q (pc + 1) L st cs sl (xm_pi M a i.toNatClampNeg x.toInt8.toInt32)) : xm_X l E Y R Q pc L (.int x :: .int i :: .ref a :: st) cs sl M := fun p e s m args below meth c H locs ls Qf C hW h0 hl hR =>
  W.bast C.1 C.2.1 (hW.2.1 a _ hs).2 (C.2.2.2.2.2.2.2.2.2.1 .byte (by decide) n _) (fun q => by cases q) (by rw [arrV_size]; exact hi) rfl rfl hd fun H1 e1 z oq =>
    kk p e s m args below meth c H1 _ ls Qf C (hW.putA (ty := .byte) (M1 := xm_pi M a i.toNatClampNeg x.toInt8.toInt32) rfl (fun ty _ _ h => xm_val_pi ty h) (congrArg Value.int (xm_gi_pi M a i.toNatClampNeg x.toInt8.toInt32)) hs e1 z oq) (xm_locs h0 (hW.2.1 a _ hs).1) hl hR
theorem x_zast {a n : Nat} {i x : Int32} (hd : decode Y.2.1 pc = .ok (.bastore, 1)) (hs : xm_sh M a = some (.inl (n, .boolean))) (hi : vp_in i n) (hx : narrow .boolean (.int x) = .int x) (kk : xm_X l E Y R Q (pc + 1) L st cs sl (xm_pi M a i.toNatClampNeg x)) : xm_X l E Y R Q pc L (.int x :: .int i :: .ref a :: st) cs sl M := fun p e s m args below meth c H locs ls Qf C hW h0 hl hR =>
  W.zast C.1 C.2.1 (hW.2.1 a _ hs).2 (C.2.2.2.2.2.2.2.2.2.1 .boolean (by decide) n _) (fun q => by cases q) (by rw [arrV_size]; exact hi) rfl rfl hd fun H1 e1 z oq =>
    kk p e s m args below meth c H1 _ ls Qf C (hW.putA (ty := .boolean) (M1 := xm_pi M a i.toNatClampNeg x) rfl (fun ty _ _ h => xm_val_pi ty h) ((congrArg Value.int (xm_gi_pi M a i.toNatClampNeg x)).trans hx.symm) hs e1 z oq) (xm_locs h0 (hW.2.1 a _ hs).1) hl hR
theorem x_alen {a n : Nat} {ty : FieldType} (hd : decode Y.2.1 pc = .ok (.arraylength, 1)) (hs : xm_sh M a = some (.inl (n, ty))) (hy : ty ∈ xm_tys) (kk : xm_X l E Y R Q (pc + 1) L (.int (Int32.ofNat n) :: st) cs sl M) : xm_X l E Y R Q pc L (.ref a :: st) cs sl M := fun p e s m args below meth c H locs ls Qf C hW h0 hl hR =>
  W.alen (n := Int32.ofNat n) C.1 C.2.1 (hW.2.1 a _ hs).2 (C.2.2.2.2.2.2.2.2.2.1 ty hy n _) (by rw [arrV_size]) rfl rfl hd (kk p e s m args below meth c H locs ls Qf C hW h0 hl hR)
/-! the script -/
theorem x_sld {i : Int32} (hd : decode Y.2.1 pc = .ok (.iaload, 1)) (hi : vp_in i E.2.2.2.2.1) (kk : xm_X l E Y R Q (pc + 1) L (.int (E.2.2.2.2.2 i.toNatClampNeg) :: st) cs sl M) : xm_X l E Y R Q pc L (.int i :: .ref E.2.2.2.1 :: st) cs sl M := fun p e s m args below meth c H locs ls Qf C hW h0 hl hR =>
  va_sld (A := fun q => (xm_B E).size ≤ q) C.1 C.2.1 C.2.2.2.2.2.2.2.2.2.2.2.2.1 C.2.2.2.2.2.2.2.2.2.2.2.2.2.1 (Nat.not_le.mpr C.2.2.2.2.2.2.2.2.2.2.2.2.2.1) ⟨hW.2.2.2, fun q h1 _ => hW.2.2.1 q h1, h0⟩ hi hd (kk p e s m args below meth c H locs ls Qf C hW h0 hl hR)
end XM
