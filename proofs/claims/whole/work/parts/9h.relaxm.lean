/-! the reference's relax -/
def rmZ (b : Nat) (M : xm_M) (A : MzT) : Prop := ∀ x y, x < 10 → y < 10 → (xm_gl M (b + 169) (10 * x + y)).toInt = A x y
def sm9 (b : Nat) (M N : xm_M) : Prop := (∀ x k, xm_gi N x k = xm_gi M x k) ∧ ∀ x k, ¬ x = b + 169 → xm_gl N x k = xm_gl M x k
theorem sm9.rf {b : Nat} {M : xm_M} : sm9 b M M := ⟨fun _ _ => rfl, fun _ _ _ => rfl⟩
theorem sm9.tr {b : Nat} {M N P : xm_M} (h : sm9 b M N) (g : sm9 b N P) : sm9 b M P := ⟨fun x k => (g.1 x k).trans (h.1 x k), fun x k q => (g.2 x k q).trans (h.2 x k q)⟩
theorem sm9.put {b k : Nat} {M : xm_M} {w : Int64} : sm9 b M (xm_pl M (b + 169) k w) := ⟨fun _ _ => rfl, fun x j q => by rw [gl_pl, if_neg (fun z => q z.1)]⟩
theorem lsM.s9 {b : Nat} {M N : xm_M} {L : List NsT} (h : lsM b M L) (s : sm9 b M N) : lsM b N L := ⟨by rw [s.1]; exact h.1, fun j t ht => by rw [s.1, s.1, s.1, s.2 _ _ (by omega)]; exact h.2 j t ht⟩
theorem ixT (u v : Nat) : (10 : Int32) * Int32.ofNat u + Int32.ofNat v = Int32.ofNat (10 * u + v) := by rw [Int32.ofNat_add, Int32.ofNat_mul]; rfl
theorem c50I : (1125899906842624 : Int64).toInt = (1125899906842624 : Int) := by decide
theorem rm_put {b u v : Nat} {M : xm_M} {A : MzT} {w : Int64} (hu : u < 10) (hv : v < 10) (h : rmZ b M A) : rmZ b (xm_pl M (b + 169) (10 * u + v) w) (stZ A u v w.toInt) := fun x y hx hy => by
  rw [gl_pl]
  unfold stZ
  by_cases e : x = u ∧ y = v
  · rw [if_pos e, e.1, e.2, if_pos ⟨rfl, rfl⟩]
  · rw [if_neg e, if_neg (by omega)]; exact h x y hx hy
theorem ps_skip {A : MzT} {u m : Nat} (hu : u < 10) (hm : m < 10) (h : u = m ∨ ¬ A u m < (1125899906842624 : Int)) : ∀ (k v : Nat) (f : Bool), v + k ≤ 10 → psZ k (100 * u + 10 * m + v) A = A ∧ fgZ k (100 * u + 10 * m + v) A f = f
  | 0, _, _, _ => ⟨rfl, rfl⟩
  | k + 1, v, f, hv => by
    have e1 : tU (100 * u + 10 * m + v) = u := by unfold tU; omega
    have e2 : tM (100 * u + 10 * m + v) = m := by unfold tM; omega
    have hn : ¬ cgZ A (tU (100 * u + 10 * m + v)) (tM (100 * u + 10 * m + v)) (tV (100 * u + 10 * m + v)) := by
      rw [e1, e2]
      exact fun z => h.elim (fun q => z.1 q) (fun q => q z.2.1)
    have ih := ps_skip hu hm h k (v + 1) f (by omega)
    refine ⟨?_, ?_⟩
    · show psZ k (100 * u + 10 * m + (v + 1)) (upZ A _ _ _) = A
      rw [show upZ A (tU (100 * u + 10 * m + v)) (tM (100 * u + 10 * m + v)) (tV (100 * u + 10 * m + v)) = A from if_neg hn]
      exact ih.1
    · show fgZ k (100 * u + 10 * m + (v + 1)) (upZ A _ _ _) (if _ then true else f) = f
      rw [show upZ A (tU (100 * u + 10 * m + v)) (tM (100 * u + 10 * m + v)) (tV (100 * u + 10 * m + v)) = A from if_neg hn, if_neg hn]
      exact ih.2
theorem fg_or {k t : Nat} {A : MzT} {f : Bool} : fgZ k t A f = (f || fgZ k t A false) := by
  cases f with
  | true => rw [fg_true]; rfl
  | false => rfl
theorem xz_or {f r : Bool} : xz f ||| xz r = xz (f || r) := by cases f <;> cases r <;> decide
def bdJ (J : Nat → MzT → Prop) : Prop := ∀ t A, t < 1000 → J t A → ∀ x y, x < 10 → y < 10 → -1000000000000000 ≤ A x y ∧ A x y ≤ (1125899906842624 : Int)
section RX
variable {l : Launch} {E : xm_E} {b : Nat} {c p : Bool} {Q : Option Value → xm_M → Prop}
theorem lp_ro5 {J : Nat → MzT → Prop} (hJ : kpZ J) (hb : bdJ J) {u m : Nat} (hu : u < 10) (hm : m < 10) (hne : ¬ u = m) : ∀ (k v : Nat) (A : MzT) (f : Bool) (M : xm_M), v + k = 10 → rmZ b M A → A u m < (1125899906842624 : Int) → (v < 10 → J (100 * u + 10 * m + v) A) → xm_st b c p M →
    (∀ M1, sm9 b M M1 → rmZ b M1 (psZ k (100 * u + 10 * m + v) A) → xm_st b c p M1 → Q (some (.int (xz (fgZ k (100 * u + 10 * m + v) A f)))) M1) →
    xm_X l E y11_relaxOne rm11_relaxOne Q 5 [(0, .ref (b + 154)), (1, .int (Int32.ofNat u)), (2, .int (Int32.ofNat m)), (3, .int (xz f)), (4, .int (Int32.ofNat v))] [] 0 0 M := by
  intro k
  induction k with
  | zero =>
    intro v A f M hv hA _ _ hS h
    exact t11_relaxOne_5 M _ _ _ _ hS ⟨fun _ => ⟨xz_01 f, fun hS => h M sm9.rf hA hS⟩, fun g => absurd (by rw [show v = 10 by omega]; decide) g⟩
  | succ k ih =>
    intro v A f M hv hA hum hJA hS h
    have hJA := hJA (by omega)
    have e1 : tU (100 * u + 10 * m + v) = u := by unfold tU; omega
    have e2 : tM (100 * u + 10 * m + v) = m := by unfold tM; omega
    have e3 : tV (100 * u + 10 * m + v) = v := by unfold tV; omega
    have hn := hJ _ A (by omega) hJA
    have hbd := hb _ A (by omega) hJA
    rw [e1, e2, e3] at hn
    have hps : psZ (k + 1) (100 * u + 10 * m + v) A = psZ k (100 * u + 10 * m + (v + 1)) (upZ A u m v) := by
      show psZ k (100 * u + 10 * m + v + 1) (upZ A (tU (100 * u + 10 * m + v)) (tM (100 * u + 10 * m + v)) (tV (100 * u + 10 * m + v))) = _
      rw [e1, e2, e3]; rfl
    have hfg : fgZ (k + 1) (100 * u + 10 * m + v) A f = fgZ k (100 * u + 10 * m + (v + 1)) (upZ A u m v) (if cgZ A u m v then true else f) := by
      show fgZ k (100 * u + 10 * m + v + 1) (upZ A (tU (100 * u + 10 * m + v)) (tM (100 * u + 10 * m + v)) (tV (100 * u + 10 * m + v))) (if cgZ A (tU (100 * u + 10 * m + v)) (tM (100 * u + 10 * m + v)) (tV (100 * u + 10 * m + v)) then true else f) = _
      rw [e1, e2, e3]; rfl
    rw [hps, hfg] at h
    have rd : ∀ x y, x < 10 → y < 10 → (xm_gl M (b + 169) (Int32.toNatClampNeg ((10 : Int32) * Int32.ofNat x + Int32.ofNat y))).toInt = A x y := fun x y hx hy => by rw [ixT, xn_c (by omega)]; exact hA x y hx hy
    have ii : ∀ x y, x < 10 → y < 10 → vp_in ((10 : Int32) * Int32.ofNat x + Int32.ofNat y) 100 := fun x y hx hy => by rw [ixT]; exact xn_in (by omega) (by decide)
    have hv10 : v < 10 := by omega
    have b1 := hbd u m hu hm
    have b2 := hbd m v hm hv10
    have nxt : ¬ cgZ A u m v → xm_st b c p M → xm_X l E y11_relaxOne rm11_relaxOne Q 5 [(0, .ref (b + 154)), (1, .int (Int32.ofNat u)), (2, .int (Int32.ofNat m)), (3, .int (xz f)), (4, .int (Int32.ofNat (v + 1)))] [] 0 0 M := fun g hS => by
      have ea : upZ A u m v = A := if_neg g
      rw [if_neg g, ea] at h
      rw [ea] at hn
      exact ih (v + 1) A f M (by omega) hA hum (fun _ => hn) hS h
    refine t11_relaxOne_5 M _ _ _ _ hS ⟨fun g => ?_, fun _ => ⟨ii m v hm hv10, fun g => ?_, fun g => ⟨ii u m hu hm, ii u v hu hv10, fun g2 => ⟨ii u m hu hm, ii u v hu hv10, fun hS => ?_⟩, fun g2 => ?_⟩⟩⟩
    · have g := (xn_le (a := 10) (by decide) (by omega)).mp g
      omega
    · rw [xn_s]
      rw [Int64.le_iff_toInt_le, c50I, rd m v hm hv10] at g
      exact nxt (fun z => absurd z.2.2.1 (by omega))
    · rw [xn_s]
      rw [Int64.le_iff_toInt_le, c50I, rd m v hm hv10] at g
      have sm := ad64 (x := xm_gl M (b + 169) (Int32.toNatClampNeg ((10 : Int32) * Int32.ofNat u + Int32.ofNat m))) (y := xm_gl M (b + 169) (Int32.toNatClampNeg ((10 : Int32) * Int32.ofNat m + Int32.ofNat v))) (by rw [rd u m hu hm, rd m v hm hv10]; omega) (by rw [rd u m hu hm, rd m v hm hv10]; omega)
      rw [rd u m hu hm, rd m v hm hv10] at sm
      rw [Int64.lt_iff_toInt_lt, sm, rd u v hu hv10] at g2
      have hcg : cgZ A u m v := ⟨hne, hum, by omega, g2⟩
      have ea : upZ A u m v = stZ A u v (A u m + A m v) := if_pos hcg
      have hrm := rm_put (w := xm_gl M (b + 169) (Int32.toNatClampNeg ((10 : Int32) * Int32.ofNat u + Int32.ofNat m)) + xm_gl M (b + 169) (Int32.toNatClampNeg ((10 : Int32) * Int32.ofNat m + Int32.ofNat v))) hu hv10 hA
      rw [sm, ← ea] at hrm
      rw [if_pos hcg] at h
      have eix : Int32.toNatClampNeg ((10 : Int32) * Int32.ofNat u + Int32.ofNat v) = 10 * u + v := by rw [ixT, xn_c (by omega)]
      rw [eix]
      rw [eix] at hS
      exact ih (v + 1) _ true _ (by omega) hrm (Int.lt_of_le_of_lt (up_le u m) hum) (fun _ => hn) hS (fun M1 s1 r1 hS => h M1 (sm9.put.tr s1) r1 hS)
    · rw [xn_s]
      have sm := ad64 (x := xm_gl M (b + 169) (Int32.toNatClampNeg ((10 : Int32) * Int32.ofNat u + Int32.ofNat m))) (y := xm_gl M (b + 169) (Int32.toNatClampNeg ((10 : Int32) * Int32.ofNat m + Int32.ofNat v))) (by rw [rd u m hu hm, rd m v hm hv10]; omega) (by rw [rd u m hu hm, rd m v hm hv10]; omega)
      rw [rd u m hu hm, rd m v hm hv10] at sm
      rw [Int64.lt_iff_toInt_lt, sm, rd u v hu hv10] at g2
      exact nxt (fun z => g2 z.2.2.2)
theorem s11_relaxOne {J : Nat → MzT → Prop} (hJ : kpZ J) (hb : bdJ J) {u m : Nat} {A : MzT} {M : xm_M} (hu : u < 10) (hm : m < 10) (hne : ¬ u = m) (hA : rmZ b M A) (hum : A u m < (1125899906842624 : Int)) (hJA : J (100 * u + 10 * m) A) (hS : xm_st b c p M) (h : ∀ M1, sm9 b M M1 → rmZ b M1 (psZ 10 (100 * u + 10 * m) A) → xm_st b c p M1 → Q (some (.int (xz (fgZ 10 (100 * u + 10 * m) A false)))) M1) : xm_C l E y11_relaxOne rm11_relaxOne [.ref (b + 154), .int (Int32.ofNat u), .int (Int32.ofNat m)] M Q :=
  xm_enter (by decide) (Nat.le_of_ble_eq_true rfl) (t11_relaxOne_0 M _ _ hS (fun hS => lp_ro5 hJ hb hu hm hne 10 0 A false M rfl hA hum (fun _ => hJA) hS h))
theorem lp_rx105 {J : Nat → MzT → Prop} (hJ : kpZ J) (hb : bdJ J) : ∀ (k j : Nat) (A : MzT) (f : Bool) (M : xm_M), j + k = 100 → rmZ b M A → J (10 * j) A → xm_st b c p M →
    (∀ M1, sm9 b M M1 → rmZ b M1 (psZ (10 * k) (10 * j) A) → xm_st b c p M1 → xm_X l E y11_relax rm11_relax Q 154 [(0, .ref (b + 154)), (1, .int (xz (fgZ (10 * k) (10 * j) A f))), (2, .int (Int32.ofNat 0))] [] 0 0 M1) →
    xm_X l E y11_relax rm11_relax Q 105 [(0, .ref (b + 154)), (1, .int (xz f)), (2, .int (Int32.ofNat j))] [] 0 0 M := by
  intro k
  induction k with
  | zero =>
    intro j A f M hj hA _ hS h
    exact t11_relax_105 M _ _ hS ⟨fun _ hS => h M sm9.rf hA hS, fun g => absurd (by rw [show j = 100 by omega]; decide) g⟩
  | succ k ih =>
    intro j A f M hj hA hJA hS h
    have hj100 : j < 100 := by omega
    have ej : 10 * j = 100 * (j / 10) + 10 * (j % 10) := by omega
    have hps : psZ (10 * (k + 1)) (10 * j) A = psZ (10 * k) (10 * (j + 1)) (psZ 10 (10 * j) A) := by
      rw [show 10 * (k + 1) = 10 + 10 * k by omega, ps_add, show 10 * j + 10 = 10 * (j + 1) by omega]
    have hfg : fgZ (10 * (k + 1)) (10 * j) A f = fgZ (10 * k) (10 * (j + 1)) (psZ 10 (10 * j) A) (fgZ 10 (10 * j) A f) := by
      rw [show 10 * (k + 1) = 10 + 10 * k by omega, fg_add, show 10 * j + 10 = 10 * (j + 1) by omega]
    rw [hps, hfg] at h
    have hn := kp_run hJ 10 (10 * j) A (by omega) hJA
    rw [show 10 * j + 10 = 10 * (j + 1) by omega] at hn
    have skip : (j / 10 = j % 10 ∨ ¬ A (j / 10) (j % 10) < (1125899906842624 : Int)) → xm_st b c p M → xm_X l E y11_relax rm11_relax Q 105 [(0, .ref (b + 154)), (1, .int (xz f)), (2, .int (Int32.ofNat (j + 1)))] [] 0 0 M := fun g hS => by
      have sk := ps_skip (A := A) (by omega) (by omega) g 10 0 f (by decide)
      have et : 100 * (j / 10) + 10 * (j % 10) + 0 = 10 * j := by omega
      rw [et] at sk
      rw [sk.1] at hn
      rw [sk.1, sk.2] at h
      exact ih (j + 1) A f M (by omega) hA hn hS h
    have hrd : (xm_gl M (b + 169) j).toInt = A (j / 10) (j % 10) := by
      have := hA (j / 10) (j % 10) (by omega) (by omega)
      rw [show 10 * (j / 10) + j % 10 = j by omega] at this
      exact this
    refine t11_relax_105 M _ _ hS ⟨fun g => ?_, fun _ => ?_⟩
    · have g := (xn_le (a := 100) (by decide) (by omega)).mp g
      omega
    rw [xn_s, xn_c (by omega), show (11 : Int32) = Int32.ofNat 11 from rfl, i32_mod (by omega) (by decide), show (10 : Int32) = Int32.ofNat 10 from rfl, i32_mod (by omega) (by decide), i32_div (by omega) (by decide)]
    refine ⟨fun g => skip (Or.inl ?_), fun g => ⟨xn_in hj100 (by decide), fun g2 => skip (Or.inr ?_), fun g2 => ?_⟩⟩
    · have := ofN_inj (c := 0) (by omega) (by decide) g
      omega
    · rw [Int64.le_iff_toInt_le, c50I, hrd] at g2
      omega
    · have hne : ¬ j / 10 = j % 10 := fun z => g (by rw [show j % 11 = 0 by omega]; rfl)
      rw [Int64.le_iff_toInt_le, c50I, hrd] at g2
      rw [ej] at hJA
      refine s11_relaxOne hJ hb (by omega) (by omega) hne hA (by omega) hJA hS (fun M1 s1 r1 hS => ⟨_, rfl, hS, fun hS => ?_⟩)
      rw [← ej] at r1
      rw [← ej, xz_or, ← fg_or]
      exact ih (j + 1) _ _ M1 (by omega) r1 hn hS (fun M2 s2 r2 hS => h M2 (s1.tr s2) r2 hS)
theorem lp_rx154 {A : MzT} {f : Bool} {M : xm_M} (hA : rmZ b M A) (h1 : (∀ x, x < 10 → 0 ≤ A x x) → xm_st b c p M → xm_X l E y11_relax rm11_relax Q 97 [(0, .ref (b + 154)), (1, .int (xz f))] [] 0 0 M) (h2 : ∀ x, x < 10 → A x x < 0 → xm_st b c p M → Q (some (.int (0 : Int32))) M) : ∀ (k j : Nat), j + k = 10 → (∀ x, x < j → 0 ≤ A x x) → xm_st b c p M →
    xm_X l E y11_relax rm11_relax Q 154 [(0, .ref (b + 154)), (1, .int (xz f)), (2, .int (Int32.ofNat j))] [] 0 0 M := by
  intro k
  induction k with
  | zero =>
    intro j hj hx hS
    exact t11_relax_154 M _ _ hS ⟨fun _ hS => h1 (fun x hx10 => hx x (by omega)) hS, fun g => absurd (by rw [show j = 10 by omega]; decide) g⟩
  | succ k ih =>
    intro j hj hx hS
    have ei : (11 : Int32) * Int32.ofNat j = Int32.ofNat (11 * j) := by rw [Int32.ofNat_mul]; rfl
    have hrd : (xm_gl M (b + 169) (11 * j)).toInt = A j j := by
      have := hA j j (by omega) (by omega)
      rw [show 10 * j + j = 11 * j by omega] at this
      exact this
    refine t11_relax_154 M _ _ hS ⟨fun g => ?_, fun _ => ?_⟩
    · have g := (xn_le (a := 10) (by decide) (by omega)).mp g
      omega
    rw [ei, xn_c (by omega), xn_s]
    refine ⟨xn_in (by omega) (by decide), fun g => ih (j + 1) (by omega) (fun x hx1 => ?_), fun g => h2 j (by omega) ?_⟩
    · rw [Int64.le_iff_toInt_le, hrd, show (0 : Int64).toInt = 0 by decide] at g
      by_cases e : x = j
      · rw [e]; exact g
      · exact hx x (by omega)
    · rw [Int64.le_iff_toInt_le, hrd, show (0 : Int64).toInt = 0 by decide] at g
      omega
/-- where the class doesn't fall -/
theorem lp_rx97 {w : MzT} (hw : inZ 2147483648 w) (hd : dgZ w 10) : ∀ (n : Nat) (A : MzT) (f : Bool) (M : xm_M), (f = true → muZ (prZ w 10) A < n) → (f = false → ∀ x y, x < 10 → y < 10 → ¬ x = y → A x y = prZ w 10 x y) → rmZ b M A → loZ (prZ w 10) A → (∀ x y, x < 10 → y < 10 → A x y ≤ w x y) → xm_st b c p M →
    (∀ M1, sm9 b M M1 → (∀ x y, x < 10 → y < 10 → ¬ x = y → (xm_gl M1 (b + 169) (10 * x + y)).toInt = prZ w 10 x y) → xm_st b c p M1 → Q (some (.int (1 : Int32))) M1) →
    xm_X l E y11_relax rm11_relax Q 97 [(0, .ref (b + 154)), (1, .int (xz f))] [] 0 0 M := by
  have hcl := pr_cl hw 10 (by decide) hd
  have hJ := lo_up hcl (fun x hx => hd 10 x (by decide) hx)
  have hbd : bdJ (fun _ A => loZ (prZ w 10) A) := fun t A _ h x y hx hy => by
    have h1 := h x y hx hy
    have h2 := inZ_pr hw 10 x y
    have h3 := rZ_le (m := 10) (by decide)
    unfold bzZ at h1
    by_cases e : x = y
    · rw [if_pos e] at h1; omega
    · rw [if_neg e] at h1; omega
  intro n
  induction n with
  | zero =>
    intro A f M hn hf hA hlo hle hS h
    cases f with
    | true => exact absurd (hn rfl) (Nat.not_lt_zero _)
    | false => exact t11_relax_97 M _ hS ⟨fun _ hS => h M sm9.rf (fun x y hx hy hne => (hA x y hx hy).trans (hf rfl x y hx hy hne)) hS, fun z => absurd rfl z⟩
  | succ n ih =>
    intro A f M hn hf hA hlo hle hS h
    cases f with
    | false => exact t11_relax_97 M _ hS ⟨fun _ hS => h M sm9.rf (fun x y hx hy hne => (hA x y hx hy).trans (hf rfl x y hx hy hne)) hS, fun z => absurd rfl z⟩
    | true =>
      refine t11_relax_97 M _ hS ⟨fun z => absurd z (by decide), fun _ hS => ?_⟩
      refine lp_rx105 (J := fun _ A => loZ (prZ w 10) A) hJ hbd 100 0 A false M rfl hA hlo hS (fun M1 s1 r1 hS => ?_)
      have r1 : rmZ b M1 (psZ 1000 0 A) := r1
      have lo1 : loZ (prZ w 10) (psZ 1000 0 A) := kp_run hJ 1000 0 A (by decide) hlo
      show xm_X l E y11_relax rm11_relax Q 154 [(0, .ref (b + 154)), (1, .int (xz (fgZ 1000 0 A false))), (2, .int (Int32.ofNat 0))] [] 0 0 M1
      refine lp_rx154 r1 (fun _ hS => ?_) (fun x hx hneg => ?_) 10 0 rfl (fun x hx => absurd hx (Nat.not_lt_zero x)) hS
      · refine ih (psZ 1000 0 A) _ M1 (fun e => ?_) (fun e => ?_) r1 lo1 (fun x y hx hy => Int.le_trans (ps_le 1000 0 A x y) (hle x y hx hy)) hS (fun M2 s2 r2 hS => h M2 (s1.tr s2) r2 hS)
        · have := mu_lt lo1 e
          have := hn rfl
          omega
        · rw [(fg_cl e).1]
          exact cl_eq hw hd hle hlo e
      · have := (lo1 x x hx hx).1
        rw [show bzZ (prZ w 10) x x = 0 from if_pos rfl] at this
        omega
/-- where it falls -/
theorem lp_rx97f {w : MzT} {A : MzT} {M : xm_M} {k u : Nat} (hk : k < u) (hu : u < 10) (hneg : prZ w (k + 1) u u < 0) (hA : rmZ b M A) (hlo : ∀ x y, x < 10 → y < 10 → -2147483648 ≤ A x y ∧ A x y ≤ (1125899906842624 : Int)) (hle : ∀ x y, x < 10 → y < 10 → A x y ≤ w x y) (hS : xm_st b c p M) (h : ∀ M1, sm9 b M M1 → xm_st b c p M1 → Q (some (.int (0 : Int32))) M1) :
    xm_X l E y11_relax rm11_relax Q 97 [(0, .ref (b + 154)), (1, .int (xz true))] [] 0 0 M := by
  refine t11_relax_97 M _ hS ⟨fun z => absurd z (by decide), fun _ hS => ?_⟩
  have hJ := J1_kp (w := w) (k := k + 1)
  have h00 : rr 0 0 = 2147483648 := by decide
  have l0 : loF 0 0 0 A := fun x y hx hy => by
    have hl := hlo x y hx hy
    have e1 : sS 0 0 = 2147483648 := rfl
    rw [e1, h00, if_pos (Nat.le_refl 0)]
    exact ⟨hl.2, fun q => absurd q (Nat.not_lt_zero x), fun _ => hl.1, fun _ => ⟨by omega, fun _ => by omega, fun _ => by omega⟩⟩
  have i0 : hiF (prZ w) (k + 1) 0 0 0 A := fun x y hx hy => by
    refine ⟨fun q => absurd q (Nat.not_lt_zero x), fun _ => hle x y hx hy, fun _ => ?_⟩
    rw [if_neg (Nat.not_lt_zero y), show min 0 (min 0 (k + 1)) = 0 by omega]
    exact hle x y hx hy
  have j0 : J1 w (k + 1) 0 A := ⟨l0, i0⟩
  refine lp_rx105 hJ (fun t A ht hj => lo_in (by unfold tU; omega) (by unfold tM; omega) (by unfold tV; omega) (hj.1 ht).1) 100 0 A false M rfl hA ⟨fun _ => j0, fun e => absurd e (by decide)⟩ hS (fun M1 s1 r1 hS => ?_)
  have r1 : rmZ b M1 (psZ 1000 0 A) := r1
  have fin := (kp_run hJ 1000 0 A (by decide) ⟨fun _ => j0, fun e => absurd e (by decide)⟩).2 rfl
  refine lp_rx154 r1 (fun hall => ?_) (fun x hx _ hS => h M1 s1 hS) 10 0 rfl (fun x hx => absurd hx (Nat.not_lt_zero x)) hS
  have h1 := (fin u u hu hu).2.2
  rw [show min u (k + 1) = k + 1 by omega] at h1
  have h2 := hall u hu
  omega
/-- the costs of single steps -/
def iZ (L : List NsT) : MzT := fun u v => if u = v then 0 else wZ L u v
theorem lp_rx2 : ∀ (k j : Nat) (M : xm_M), j + k = 100 → (∀ i, i < j → (xm_gl M (b + 169) i).toInt = if i / 10 = i % 10 then 0 else (1125899906842624 : Int)) → xm_st b c p M →
    (∀ M1, sm9 b M M1 → rmZ b M1 (iZ []) → xm_st b c p M1 → xm_X l E y11_relax rm11_relax Q 36 [(0, .ref (b + 154)), (1, .int (Int32.ofNat 0))] [] 0 0 M1) →
    xm_X l E y11_relax rm11_relax Q 2 [(0, .ref (b + 154)), (1, .int (Int32.ofNat j))] [] 0 0 M := by
  intro k
  induction k with
  | zero =>
    intro j M hj hA hS h
    refine t11_relax_2 M _ hS ⟨fun _ hS => h M sm9.rf (fun x y hx hy => ?_) hS, fun g => absurd (by rw [show j = 100 by omega]; decide) g⟩
    rw [hA _ (by omega)]
    unfold iZ wZ
    rw [show (10 * x + y) / 10 = x by omega, show (10 * x + y) % 10 = y by omega]
    by_cases e : x = y
    · rw [if_pos e, if_pos e]
    · rw [if_neg e, if_neg e, if_pos ⟨hx, hy⟩]; rfl
  | succ k ih =>
    intro j M hj hA hS h
    refine t11_relax_2 M _ hS ⟨fun g => ?_, fun _ => ?_⟩
    · have g := (xn_le (a := 100) (by decide) (by omega)).mp g
      omega
    rw [xn_s, xn_c (by omega), show (11 : Int32) = Int32.ofNat 11 from rfl, i32_mod (by omega) (by decide)]
    have go : ∀ w : Int64, (w.toInt = if j / 10 = j % 10 then 0 else (1125899906842624 : Int)) → xm_st b c p (xm_pl M (b + 169) j w) → xm_X l E y11_relax rm11_relax Q 2 [(0, .ref (b + 154)), (1, .int (Int32.ofNat (j + 1)))] [] 0 0 (xm_pl M (b + 169) j w) := fun w hw hS => by
      refine ih (j + 1) _ (by omega) (fun i hi => ?_) hS (fun M1 s1 r1 hS => h M1 (sm9.put.tr s1) r1 hS)
      rw [gl_pl]
      by_cases e : i = j
      · rw [if_pos ⟨rfl, e⟩, e]; exact hw
      · rw [if_neg (fun z => e z.2)]; exact hA i (by omega)
    refine ⟨fun g => ⟨xn_in (by omega) (by decide), go _ ?_⟩, fun g => ⟨xn_in (by omega) (by decide), go _ ?_⟩⟩
    · rw [if_neg (fun z => g (by rw [show j % 11 = 0 by omega]; rfl))]; exact c50I
    · have := ofN_inj (c := 0) (by omega) (by decide) g
      rw [if_pos (by omega)]; rfl
theorem iZ_v {P : List NsT} {x y : Nat} (hx : x < 10) (hy : y < 10) (e : ¬ x = y) : iZ P x y = toZ (mnL P x y) := (if_neg e).trans (if_pos ⟨hx, hy⟩)
theorem iZ_d {P : List NsT} {x y : Nat} (e : x = y) : iZ P x y = 0 := if_pos e
theorem iZ_snoc {P : List NsT} {s : NsT} {u v : Nat} (hP : okL P) (hu : u < 10) (hv : v < 10) (e1 : s.2.1 = Int32.ofNat u) (e2 : s.2.2.1 = Int32.ofNat v) (hne : ¬ u = v) (hB : isB s.2.2.2 = true) : (∀ x y, x < 10 → y < 10 → ¬ (x = u ∧ y = v) → iZ (P ++ [s]) x y = iZ P x y) ∧ iZ (P ++ [s]) u v = if iZ P u v ≤ s.2.2.2.toInt then iZ P u v else s.2.2.2.toInt := by
  have em : ∀ x y, mnL (P ++ [s]) x y = mnF x y (mnL P x y) s := fun x y => by unfold mnL; rw [List.foldl_append]; rfl
  have hb := isB_iff.mp hB
  refine ⟨fun x y hx hy hn => ?_, ?_⟩
  · by_cases e : x = y
    · rw [iZ_d e, iZ_d e]
    · rw [iZ_v hx hy e, iZ_v hx hy e, em, show mnF x y (mnL P x y) s = mnL P x y from if_neg (fun z => hn ⟨ofN_inj (by omega) (by omega) (z.1.symm.trans e1), ofN_inj (by omega) (by omega) (z.2.symm.trans e2)⟩)]
  · rw [iZ_v hu hv hne, iZ_v hu hv hne, em, show mnF u v (mnL P u v) s = if mnL P u v ≤ s.2.2.2 then mnL P u v else s.2.2.2 from if_pos ⟨e1, e2⟩]
    have ns : ¬ s.2.2.2 = N62 := fun z => by rw [z, n62I] at hb; omega
    have tz : toZ s.2.2.2 = s.2.2.2.toInt := if_neg ns
    rcases mnL_bd hP u v with g | g
    · rw [g, if_neg (fun z => by rw [Int64.le_iff_toInt_le, n62I] at z; omega), tz, show toZ N62 = (1125899906842624 : Int) from if_pos rfl, if_neg (by omega)]
    · have tm : toZ (mnL P u v) = (mnL P u v).toInt := if_neg (fun z => by rw [z, n62I] at g; omega)
      rw [tm]
      by_cases q : mnL P u v ≤ s.2.2.2
      · rw [if_pos q, tm, if_pos (Int64.le_iff_toInt_le.mp q)]
      · rw [if_neg q, tz, if_neg (fun z => q (Int64.le_iff_toInt_le.mpr z))]
theorem lp_rx36 {L : List NsT} (hL : okL L) (hlen : L.length ≤ 1200) : ∀ (R P : List NsT) (M : xm_M), L = P ++ R → lsM b M L → rmZ b M (iZ P) → xm_st b c p M →
    (∀ M1, sm9 b M M1 → rmZ b M1 (iZ L) → xm_st b c p M1 → xm_X l E y11_relax rm11_relax Q 97 [(0, .ref (b + 154)), (1, .int (xz true))] [] 0 0 M1) →
    xm_X l E y11_relax rm11_relax Q 36 [(0, .ref (b + 154)), (1, .int (Int32.ofNat P.length))] [] 0 0 M := by
  intro R
  induction R with
  | nil =>
    intro P M e hM hA hS h
    rw [List.append_nil] at e
    subst e
    refine t11_relax_36 M _ hS ?_
    rw [hM.1]
    exact ⟨fun _ hS => h M sm9.rf hA hS, fun g => absurd ((xn_le (by omega) (by omega)).mpr (Nat.le_refl _)) g⟩
  | cons s R ih =>
    intro P M e hM hA hS h
    have hl : P.length < L.length := by rw [e, List.length_append]; show _ < _ + (R.length + 1); omega
    have gs : L[P.length]? = some s := by rw [e, List.getElem?_append_right (Nat.le_refl _), Nat.sub_self]; rfl
    have ms : s ∈ L := List.mem_of_getElem? gs
    obtain ⟨⟨u, v, hu, hv, hne, e1, e2⟩, hB⟩ := hL s ms
    obtain ⟨q1, q2, q3, q4⟩ := hM.2 _ s gs
    have hP : okL P := fun t ht => hL t (by rw [e]; exact List.mem_append_left _ ht)
    have sn := iZ_snoc hP hu hv e1 e2 hne hB
    have e' : L = (P ++ [s]) ++ R := by rw [List.append_assoc]; exact e
    have i0 : vp_in (Int32.ofNat P.length) 1200 := xn_in (by omega) (by decide)
    have hl' : (P ++ [s]).length = P.length + 1 := by rw [List.length_append]; rfl
    refine t11_relax_36 M _ hS ?_
    rw [hM.1, xn_c (by omega), q2, q3, q4, e1, e2, ixT, xn_c (by omega), xn_s]
    have hrd := hA u v hu hv
    have ix : vp_in (Int32.ofNat (10 * u + v)) 100 := xn_in (by omega) (by decide)
    refine ⟨fun g => ?_, fun _ => ⟨i0, i0, i0, ix, fun g hS => ?_, fun g => ⟨i0, ix, fun hS => ?_⟩⟩⟩
    · have g := (xn_le (by omega) (by omega)).mp g
      omega
    · rw [Int64.le_iff_toInt_le, hrd] at g
      have := ih (P ++ [s]) M e' hM (fun x y hx hy => ?_) hS h
      · rw [hl'] at this; exact this
      · rw [hA x y hx hy]
        by_cases z : x = u ∧ y = v
        · rw [z.1, z.2, sn.2, if_pos g]
        · rw [sn.1 x y hx hy z]
    · rw [Int64.le_iff_toInt_le, hrd] at g
      have := ih (P ++ [s]) _ e' (hM.s9 sm9.put) (fun x y hx hy => ?_) hS (fun M1 s1 r1 hS => h M1 (sm9.put.tr s1) r1 hS)
      · rw [hl'] at this; exact this
      · rw [gl_pl]
        by_cases z : x = u ∧ y = v
        · rw [if_pos (by omega), z.1, z.2, sn.2, if_neg g]
        · rw [if_neg (by omega), sn.1 x y hx hy z]; exact hA x y hx hy
/-- the reference's answer is the class's, and so are its bounds -/
theorem s11_relax {L : List NsT} {M : xm_M} (hL : okL L) (hlen : L.length ≤ 1200) (hM : lsM b M L) (hS : xm_st b c p M) (h : ∀ M1, sm9 b M M1 → ((fwX 100 0 (mnL L)).1 = true → ∀ x y, x < 10 → y < 10 → ¬ x = y → (xm_gl M1 (b + 169) (10 * x + y)).toInt = toZ ((fwX 100 0 (mnL L)).2 x y)) → xm_st b c p M1 → Q (some (.int (xz (fwX 100 0 (mnL L)).1))) M1) : xm_C l E y11_relax rm11_relax [.ref (b + 154)] M Q := by
  have hw := wZ_in hL
  have hdi : ∀ x, x < 10 → wZ L x x = (1125899906842624 : Int) := fun x hx => by
    unfold wZ toZ
    rw [if_pos ⟨hx, hx⟩, if_pos (mnL_dg hL hx)]
  have hle : ∀ x y, x < 10 → y < 10 → iZ L x y ≤ wZ L x y := fun x y hx hy => by
    unfold iZ
    by_cases e : x = y
    · rw [if_pos e, ← e, hdi x hx]; decide
    · rw [if_neg e]; exact Int.le_refl _
  refine xm_enter (by decide) (Nat.le_of_ble_eq_true rfl) (t11_relax_0 M hS (fun hS => lp_rx2 100 0 M rfl (fun i hi => absurd hi (Nat.not_lt_zero i)) hS (fun M1 s1 r1 hS => lp_rx36 hL hlen L [] M1 rfl (hM.s9 s1) r1 hS (fun M2 s2 r2 hS => ?_))))
  rcases fw_all hL with ⟨f1, f2, f3⟩ | ⟨f1, k, u, hk, hu, hneg⟩
  · refine lp_rx97 hw f2 (muZ (prZ (wZ L) 10) (iZ L) + 1) (iZ L) true M2 (fun _ => by omega) (fun z => by cases z) r2 (fun x y hx hy => ?_) hle hS (fun M3 s3 r3 hS => ?_)
    · have hc := pr_mn (w := wZ L) (x := x) (y := y) (Nat.zero_le 10)
      have hc : prZ (wZ L) 10 x y ≤ wZ L x y := hc
      have := hw x y
      unfold bzZ iZ
      by_cases e : x = y
      · rw [if_pos e, if_pos e]; exact ⟨Int.le_refl _, by decide⟩
      · rw [if_neg e, if_neg e]; exact ⟨hc, by omega⟩
    · have hh := h M3 (s1.tr (s2.tr s3)) (fun _ x y hx hy hne => ?_) hS
      · rw [f1] at hh; exact hh
      · rw [r3 x y hx hy hne]
        unfold toZ
        rcases f3 x y hx hy with q | q
        · rw [if_pos q.1]; exact q.2
        · rw [if_neg (fun z => by rw [z, n62I] at q; omega)]; exact q.1.symm
  · refine lp_rx97f (w := wZ L) hk hu hneg r2 (fun x y hx hy => ?_) hle hS (fun M3 s3 hS => ?_)
    · have := hw x y
      unfold iZ
      by_cases e : x = y
      · rw [if_pos e]; decide
      · rw [if_neg e]; omega
    · have hh := h M3 (s1.tr (s2.tr s3)) (fun z => by rw [f1] at z; cases z) hS
      rw [f1] at hh; exact hh
end RX
