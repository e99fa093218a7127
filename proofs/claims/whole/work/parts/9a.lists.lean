/-! the producer's lists of steps: the class's -/
abbrev N62 : Int64 := 4611686018427387904
def okP (s : StT) : Prop := ∃ u v : Nat, u < 10 ∧ v < 10 ∧ ¬ u = v ∧ s.1 = Int32.ofNat u ∧ s.2.1 = Int32.ofNat v
def okR (a : Int32) : Prop := ∃ r : Nat, r < 8 ∧ a = Int32.ofNat r
theorem ofN_inj {a c : Nat} (ha : a < 2 ^ 31) (hc : c < 2 ^ 31) (h : Int32.ofNat a = Int32.ofNat c) : a = c := by
  have := congrArg Int32.toInt h
  rw [toInt_of rfl ha, toInt_of rfl hc] at this
  omega
theorem one_add (r : Nat) : (1 : Int32) + Int32.ofNat r = Int32.ofNat (1 + r) := (Int32.ofNat_add 1 r).symm
theorem caO_ok {o a q k : Int32} {s r : StT} (ha : okR a) (hs : okP s) (h : caO o a q k s = some r) : okP r := by
  obtain ⟨u, v, h1, h2, h3, h4, h5⟩ := hs
  obtain ⟨x, x1, x2⟩ := ha
  unfold caO at h
  by_cases g : (s.1 = 1 + a ∨ s.2.1 = 1 + a) ∧ chB o a q = true
  · rw [if_pos g] at h
    by_cases g3 : o = 3
    · rw [if_pos g3] at h; cases h; exact ⟨u, v, h1, h2, h3, h4, h5⟩
    · rw [if_neg g3] at h
      by_cases g5 : o = 5 ∧ ¬ a = q
      · rw [if_pos g5] at h
        by_cases g6 : s.1 = 1 + a ∧ s.2.1 = 1 + q
        · rw [if_pos g6] at h
          cases h
          have e : u = 1 + x := ofN_inj (by omega) (by omega) (by rw [← h4, g6.1, x2, one_add])
          exact ⟨u, 0, h1, by decide, by omega, h4, rfl⟩
        · rw [if_neg g6] at h
          by_cases g7 : s.1 = 1 + q ∧ s.2.1 = 1 + a
          · rw [if_pos g7] at h
            cases h
            have e : v = 1 + x := ofN_inj (by omega) (by omega) (by rw [← h5, g7.2, x2, one_add])
            exact ⟨0, v, by decide, h2, by omega, rfl, h5⟩
          · rw [if_neg g7] at h; cases h
      · rw [if_neg g5] at h; cases h
  · rw [if_neg g] at h; cases h; exact ⟨u, v, h1, h2, h3, h4, h5⟩
theorem prO_ok {n u v : Int32} {c d : Int64} {r : StT} (hp : ∀ w x, okP (u, v, w) ∧ okP (v, u, x)) (h : prO n u v c d = some r) : okP r := by
  unfold prO at h
  by_cases g : n = 0
  · rw [if_pos g] at h; cases h; exact (hp _ 0).1
  · rw [if_neg g] at h
    by_cases g1 : n = 1
    · rw [if_pos g1] at h; cases h; exact (hp 0 _).2
    · rw [if_neg g1] at h; cases h
theorem okP_0 {a : Int32} (ha : okR a) (w x : Int64) : okP (1 + a, 0, w) ∧ okP (0, 1 + a, x) := by
  obtain ⟨r, h1, h2⟩ := ha
  exact ⟨⟨1 + r, 0, by omega, by decide, by omega, by rw [h2]; exact one_add r, rfl⟩, ⟨0, 1 + r, by decide, by omega, by omega, rfl, by rw [h2]; exact one_add r⟩⟩
theorem okP_2 {a q : Int32} (ha : okR a) (hq : okR q) (hne : ¬ 1 + a = 1 + q) (w x : Int64) : okP (1 + a, 1 + q, w) ∧ okP (1 + q, 1 + a, x) := by
  obtain ⟨r, h1, h2⟩ := ha
  obtain ⟨t, t1, t2⟩ := hq
  have : ¬ 1 + r = 1 + t := fun z => hne (by rw [h2, t2, one_add, one_add, z])
  exact ⟨⟨1 + r, 1 + t, by omega, by omega, this, by rw [h2]; exact one_add r, by rw [t2]; exact one_add t⟩, ⟨1 + t, 1 + r, by omega, by omega, fun z => this z.symm, by rw [t2]; exact one_add t, by rw [h2]; exact one_add r⟩⟩
theorem fuO_ok {o a q k n : Int32} {j : Bool} {r : StT} (ha : okR a) (hq : okR q) (h : fuO o a q k j n = some r) : okP r := by
  unfold fuO at h
  by_cases g1 : o = 1
  · rw [if_pos g1] at h; exact prO_ok (okP_0 ha) h
  rw [if_neg g1] at h
  by_cases g2 : o = 2
  · rw [if_pos g2] at h
    by_cases e : 1 + a = 1 + q
    · rw [if_pos e] at h; cases h
    · rw [if_neg e] at h; exact prO_ok (okP_2 ha hq e) h
  rw [if_neg g2] at h
  by_cases g5 : o = 5
  · rw [if_pos g5] at h
    by_cases e : 1 + a = 1 + q
    · rw [if_pos e] at h; exact prO_ok (okP_0 ha) h
    · rw [if_neg e] at h; cases h
  rw [if_neg g5] at h
  by_cases g6 : o = 6
  · rw [if_pos g6] at h; exact prO_ok (okP_0 ha) h
  rw [if_neg g6] at h
  by_cases g7 : o = 7
  · rw [if_pos g7] at h; exact prO_ok (okP_0 ha) h
  rw [if_neg g7] at h
  by_cases g8 : o = 8
  · rw [if_pos g8] at h; exact prO_ok (okP_0 ha) h
  rw [if_neg g8] at h
  by_cases g9 : o = 9
  · rw [if_pos g9] at h; exact prO_ok (okP_0 ha) h
  rw [if_neg g9] at h
  by_cases g11 : o = 11
  · rw [if_pos g11] at h; exact prO_ok (okP_0 ha) h
  rw [if_neg g11] at h
  by_cases g14 : o = 14
  · rw [if_pos g14] at h
    by_cases e : 1 + a = 1 + q
    · rw [if_pos e] at h; cases h
    · rw [if_neg e] at h
      by_cases e0 : n = 0
      · rw [if_pos e0] at h
        cases j with
        | true => rw [if_pos rfl] at h; cases h; exact (okP_2 ha hq e _ 0).1
        | false => rw [if_neg (by decide)] at h; cases h; exact (okP_2 ha hq e 0 _).2
      · rw [if_neg e0] at h; cases h
  rw [if_neg g14] at h
  by_cases g15 : o = 15
  · rw [if_pos g15] at h
    by_cases e0 : n = 0
    · rw [if_pos e0] at h
      cases j with
      | true => rw [if_pos rfl] at h; cases h; exact (okP_0 ha _ 0).1
      | false => rw [if_neg (by decide)] at h; cases h; exact (okP_0 ha 0 _).2
    · rw [if_neg e0] at h; cases h
  rw [if_neg g15] at h
  by_cases g16 : o = 16
  · rw [if_pos g16] at h
    cases j with
    | true =>
      rw [if_pos rfl] at h
      by_cases e : 1 + a = 1 + q
      · rw [if_pos e] at h; cases h
      · rw [if_neg e] at h; exact prO_ok (okP_2 ha hq e) h
    | false => rw [if_neg (by decide)] at h; cases h
  rw [if_neg g16] at h
  cases h
theorem suO_ok {a q : Int32} {x y r : StT} (hx : okP x) (h : suO a q x y = some r) : okP r := by
  have e := suO_eq (a := a) (q := q) (x := x) (y := y)
  rw [h] at e
  have e : some r = some (x.1, x.2.1, x.2.2 + y.2.2) := e
  cases e
  obtain ⟨u, v, h1, h2, h3, h4, h5⟩ := hx
  exact ⟨u, v, h1, h2, h3, h4, h5⟩
/-- the cheapest step from u to v -/
def mnF (u v : Nat) (a : Int64) (s : NsT) : Int64 := if s.2.1 = Int32.ofNat u ∧ s.2.2.1 = Int32.ofNat v then (if a ≤ s.2.2.2 then a else s.2.2.2) else a
def mnL (L : List NsT) (u v : Nat) : Int64 := L.foldl (mnF u v) N62
def lsX (b : Nat) (M : xm_M) (L : List NsT) : Prop := xm_gi M (b + 110) 4 = Int32.ofNat L.length ∧ (∀ j s, L[j]? = some s → xm_gi M (b + 111) j = s.1 ∧ xm_gi M (b + 112) j = s.2.1 ∧ xm_gi M (b + 113) j = s.2.2.1 ∧ xm_gl M (b + 114) j = s.2.2.2) ∧ ∀ u v, u < 10 → v < 10 → xm_gl M (b + 116 + u) v = mnL L u v
def smX (b : Nat) (M N : xm_M) : Prop := (∀ x k, ¬ (b + 110 ≤ x ∧ x ≤ b + 128) → xm_gi N x k = xm_gi M x k) ∧ ∀ x k, ¬ (b + 110 ≤ x ∧ x ≤ b + 128) → xm_gl N x k = xm_gl M x k
theorem smX.rf {b : Nat} {M : xm_M} : smX b M M := ⟨fun _ _ _ => rfl, fun _ _ _ => rfl⟩
theorem smX.tr {b : Nat} {M N P : xm_M} (h : smX b M N) (g : smX b N P) : smX b M P := ⟨fun x k q => (g.1 x k q).trans (h.1 x k q), fun x k q => (g.2 x k q).trans (h.2 x k q)⟩
theorem smS.x {b a : Nat} {M N : xm_M} (h : smS a M N) (ha : b + 110 ≤ a ∧ a ≤ b + 128) : smX b M N := ⟨fun x k q => h.1 x k (by omega), fun x k q => h.2 x k (by omega)⟩
theorem lsX.fs {b a : Nat} {M N : xm_M} {L : List NsT} (h : lsX b M L) (s : smS a M N) (ha : b + 126 ≤ a ∧ a ≤ b + 128) : lsX b N L :=
  ⟨by rw [s.1 _ _ (by omega)]; exact h.1, fun j t ht => by rw [s.1 _ _ (by omega), s.1 _ _ (by omega), s.1 _ _ (by omega), s.2 _ _ (by omega)]; exact h.2.1 j t ht, fun u v hu hv => by rw [s.2 _ _ (by omega)]; exact h.2.2 u v hu hv⟩
/-- behind the making of steps A -/
def PxL (b : Nat) (c p : Bool) (Q : Option Value → xm_M → Prop) (M : xm_M) (L A : List NsT) : Prop := ∀ M1, smX b M M1 → lsX b M1 (apL true L A) → xm_st b c p M1 → Q none M1
def catL (g : Nat → List NsT) : Nat → Nat → List NsT
  | 0, _ => []
  | n + 1, j => g j ++ catL g n (j + 1)
section LX
variable {l : Launch} {E : xm_E} {b : Nat} {c p : Bool} {Q : Option Value → xm_M → Prop}
theorem lp_fg7 : ∀ (k u : Nat) (M : xm_M), u + k = 10 → (∀ x v, x < u → v < 10 → xm_gl M (b + 116 + x) v = N62) → xm_st b c p M →
    (∀ M1, smX b M M1 → (∀ x j, xm_gi M1 x j = xm_gi M x j) → (∀ x v, x < 10 → v < 10 → xm_gl M1 (b + 116 + x) v = N62) → xm_st b c p M1 → Q none M1) →
    xm_X l E y6_forget rm6_forget Q 7 [(0, .ref (b + 110)), (1, .int (Int32.ofNat u))] [] 0 0 M := by
  intro k
  induction k with
  | zero =>
    intro u M hu hz hS h
    exact t6_forget_7 M _ hS ⟨fun _ hS => h M smX.rf (fun _ _ => rfl) (fun x v hx hv => hz x v (by omega) hv) hS, fun g => absurd (by rw [show u = 10 by omega]; decide) g⟩
  | succ k ih =>
    intro u M hu hz hS h
    refine t6_forget_7 M _ hS ⟨fun g => ?_, fun _ => ⟨xn_in (by omega) (by decide), ?_⟩⟩
    · have g := (xn_le (a := 10) (by decide) (by omega)).mp g
      omega
    rw [xn_c (by omega), xn_s]
    have hsh : xS b (b + 116 + u) = some (.inl (10, .long)) := by
      rw [show b + 116 + u = b + (116 + u) by omega, xS_at]
      unfold xS_o
      rw [if_neg (by omega), if_neg (by omega), if_neg (by omega), if_neg (by omega), if_neg (by omega), if_neg (by omega), if_neg (by omega), if_neg (by omega), if_neg (by omega), if_neg (by omega), if_neg (by omega), if_neg (by omega), if_neg (by omega), if_neg (by omega), if_neg (by omega), if_neg (by omega), if_neg (by omega), if_neg (by omega), if_neg (by omega), if_neg (by omega), if_pos (by omega)]
    refine s_fill_J (n := 10) (hS.1 _ _ hsh) (by decide) ⟨rfl, hS, fun hS => ?_⟩
    have rd : ∀ x j, xm_gl (xm_fl_J M (b + 116 + u) 10 N62) x j = if x = b + 116 + u ∧ j < 10 then N62 else xm_gl M x j := fun _ _ => rfl
    have s0 : smX b M (xm_fl_J M (b + 116 + u) 10 N62) := ⟨fun _ _ _ => rfl, fun x j q => by rw [rd, if_neg (by omega)]⟩
    refine ih (u + 1) _ (by omega) (fun x v hx hv => ?_) hS (fun M1 s1 i1 z1 hS => h M1 (s0.tr s1) i1 z1 hS)
    rw [rd]
    by_cases e : x = u
    · rw [if_pos ⟨by omega, hv⟩]
    · rw [if_neg (by omega)]; exact hz x v (by omega) hv
theorem s6_forget {M : xm_M} (hS : xm_st b c p M) (h : ∀ M1, smX b M M1 → lsX b M1 [] → xm_st b c p M1 → Q none M1) : xm_C l E y6_forget rm6_forget [.ref (b + 110)] M Q := by
  have s0 : smX b M (xm_pi M (b + 110) 4 0) := ⟨fun x j q => by rw [gi_pi, if_neg (by omega)], fun _ _ _ => rfl⟩
  refine xm_enter (by decide) (Nat.le_of_ble_eq_true rfl) (t6_forget_0 M hS (fun hS => lp_fg7 10 0 _ rfl (fun x v hx _ => absurd hx (Nat.not_lt_zero x)) hS (fun M1 s1 i1 z1 hS => h M1 (s0.tr s1) ⟨?_, fun j s e => (by cases e), fun u v hu hv => z1 u v hu hv⟩ hS)))
  rw [i1, gi_pi, if_pos ⟨rfl, rfl⟩]; rfl
theorem s6_append {n : Int32} {s : StT} {L : List NsT} {M : xm_M} (hL : lsX b M L) (hlen : L.length < 200) (hs : stAt M (b + 126) = s) (hp : okP s) (hS : xm_st b c p M) (h : PxL b c p Q M L [(n, s)]) : xm_C l E y6_append rm6_append [.ref (b + 110), .int n] M Q := by
  obtain ⟨u, v, hu, hv, _, e1, e2⟩ := hp
  have q0 : xm_gi M (b + 126) 0 = s.1 := by rw [← hs]; rfl
  have q1 : xm_gi M (b + 126) 1 = s.2.1 := by rw [← hs]; rfl
  have q2 : xm_gl M (b + 126) 2 = s.2.2 := by rw [← hs]; rfl
  have i0 : vp_in (Int32.ofNat L.length) 200 := xn_in hlen (by decide)
  have h14 := hL.1
  refine xm_enter (by decide) (Nat.le_of_ble_eq_true rfl) (t6_append_0 M n hS ?_)
  rw [q2, h14, xn_c (by omega)]
  have fitI : (s.2.2 = Int32.toInt64 (Int64.toInt32 s.2.2)) ↔ isB s.2.2 = true := by
    rw [zl_fit]; exact decide_eq_true_iff.symm
  refine ⟨fun g hS => ?_, fun g => ⟨fun _ => ⟨i0, fun M2 m2 => ?_⟩, fun z => absurd ((xn_lt (by omega) (by decide)).mpr hlen) z⟩⟩
  · refine h M smX.rf ?_ hS
    rw [show apL true L [(n, s)] = L from ?_]
    · exact hL
    · have : ([(n, s)] : List NsT).filter (fun s => !true || isB s.2.2.2) = [] := List.filter_cons_of_neg (fun z => g (fitI.mpr z))
      show L ++ _ = L
      rw [this, List.append_nil]
  have gB := fitI.mp g
  have f2 : xm_gi M2 (b + 110) 4 = Int32.ofNat L.length := by rw [m2, gi_pi, if_neg (by omega)]; exact h14
  have g20 : xm_gi M2 (b + 126) 0 = s.1 := by rw [m2, gi_pi, if_neg (by omega)]; exact q0
  rw [f2, xn_c (by omega), g20]
  refine ⟨i0, fun M5 m5 => ?_⟩
  have f5 : xm_gi M5 (b + 110) 4 = Int32.ofNat L.length := by rw [m5, gi_pi, if_neg (by omega)]; exact f2
  have g51 : xm_gi M5 (b + 126) 1 = s.2.1 := by rw [m5, gi_pi, if_neg (by omega), m2, gi_pi, if_neg (by omega)]; exact q1
  rw [f5, xn_c (by omega), g51]
  refine ⟨i0, fun M8 m8 => ?_⟩
  have f8 : xm_gi M8 (b + 110) 4 = Int32.ofNat L.length := by rw [m8, gi_pi, if_neg (by omega)]; exact f5
  have g82 : xm_gl M8 (b + 126) 2 = s.2.2 := by rw [m8, gl_pi, m5, gl_pi, m2, gl_pi]; exact q2
  rw [f8, xn_c (by omega), g82]
  refine ⟨i0, fun M11 m11 M13 m13 => ?_⟩
  have f11 : xm_gi M11 (b + 110) 4 = Int32.ofNat L.length := by rw [m11, gi_pl]; exact f8
  rw [f11, ix1] at m13
  have r0 : xm_gi M13 (b + 126) 0 = Int32.ofNat u := by rw [m13, gi_pi, if_neg (by omega), m11, gi_pl, m8, gi_pi, if_neg (by omega), m5, gi_pi, if_neg (by omega)]; exact g20.trans e1
  have r1 : xm_gi M13 (b + 126) 1 = Int32.ofNat v := by rw [m13, gi_pi, if_neg (by omega), m11, gi_pl, m8, gi_pi, if_neg (by omega)]; exact g51.trans e2
  have r2 : xm_gl M13 (b + 126) 2 = s.2.2 := by rw [m13, gl_pi, m11, gl_pl, if_neg (by omega)]; exact g82
  have r3 : ∀ x y, x < 10 → y < 10 → xm_gl M13 (b + 116 + x) y = mnL L x y := fun x y hx hy => by
    rw [m13, gl_pi, m11, gl_pl, if_neg (by omega), m8, gl_pi, m5, gl_pi, m2, gl_pi]; exact hL.2.2 x y hx hy
  rw [r0, r1, r2, xn_c (by omega), xn_c (by omega), r3 u v hu hv]
  have hS13 : xm_st b c p M13 := by rw [m13, m11, m8, m5, m2]; exact hS
  refine ⟨xn_in hu (by decide), xn_in hu (by decide), xn_in hv (by decide), s_min_J ⟨_, rfl, hS13, xn_in hv (by decide), fun M21 m21 hS => ?_⟩⟩
  have eA : apL true L [(n, s)] = L ++ [(n, s)] := congrArg (L ++ ·) (List.filter_cons_of_pos gB)
  have gi21 : ∀ x k, xm_gi M21 x k = xm_gi (xm_pi (xm_pi (xm_pi (xm_pi M (b + 111) L.length n) (b + 112) L.length s.1) (b + 113) L.length s.2.1) (b + 110) 4 (Int32.ofNat (L.length + 1))) x k := fun x k => by
    rw [m21, gi_pl, m13]
    show (if _ then _ else xm_gi M11 x k) = (if _ then _ else _)
    rw [m11, gi_pl, m8, m5, m2]
    rfl
  have gl21 : ∀ x k, xm_gl M21 x k = if x = b + 116 + u ∧ k = v then (if mnL L u v ≤ s.2.2 then mnL L u v else s.2.2) else if x = b + 114 ∧ k = L.length then s.2.2 else xm_gl M x k := fun x k => by
    rw [m21, gl_pl, m13, gl_pi, m11, gl_pl, m8, gl_pi, m5, gl_pi, m2, gl_pi]
  refine h M21 ⟨fun x k q => ?_, fun x k q => ?_⟩ ?_ hS
  · rw [gi21, gi_pi, if_neg (by omega), gi_pi, if_neg (by omega), gi_pi, if_neg (by omega), gi_pi, if_neg (by omega)]
  · rw [gl21, if_neg (by omega), if_neg (by omega)]
  rw [eA]
  refine ⟨?_, fun j t ht => ?_, fun x y hx hy => ?_⟩
  · rw [gi21, gi_pi, if_pos ⟨rfl, rfl⟩, List.length_append]; rfl
  · rw [gi21, gi21, gi21, gl21, if_neg (by omega), gi_pi, if_neg (by omega), gi_pi, if_neg (by omega), gi_pi, if_neg (by omega), gi_pi (xm_pi (xm_pi (xm_pi M (b + 111) L.length n) (b + 112) L.length s.1) (b + 113) L.length s.2.1), if_neg (by omega), gi_pi (xm_pi (xm_pi M (b + 111) L.length n) (b + 112) L.length s.1), if_neg (by omega), gi_pi (xm_pi (xm_pi (xm_pi M (b + 111) L.length n) (b + 112) L.length s.1) (b + 113) L.length s.2.1), if_neg (by omega)]
    rw [List.getElem?_append] at ht
    by_cases gj : j < L.length
    · rw [if_pos gj] at ht
      obtain ⟨a1, a2, a3, a4⟩ := hL.2.1 j t ht
      refine ⟨?_, ?_, ?_, ?_⟩
      · rw [gi_pi, if_neg (by omega)]; exact a1
      · rw [gi_pi, if_neg (by omega), gi_pi, if_neg (by omega)]; exact a2
      · rw [gi_pi, if_neg (by omega), gi_pi, if_neg (by omega), gi_pi, if_neg (by omega)]; exact a3
      · rw [if_neg (by omega)]; exact a4
    · rw [if_neg gj] at ht
      by_cases g2 : j - L.length = 0
      · have : j = L.length := by omega
        subst this
        rw [g2] at ht
        have ht : some (n, s) = some t := ht
        cases ht
        refine ⟨?_, ?_, ?_, ?_⟩
        · rw [gi_pi, if_pos ⟨rfl, rfl⟩]
        · rw [gi_pi, if_pos ⟨rfl, rfl⟩]
        · rw [gi_pi, if_pos ⟨rfl, rfl⟩]
        · rw [if_pos ⟨rfl, rfl⟩]
      · rw [List.getElem?_eq_none (by show 1 ≤ _; omega)] at ht
        cases ht
  · have em : mnL (L ++ [(n, s)]) x y = mnF x y (mnL L x y) (n, s) := by unfold mnL; rw [List.foldl_append]; rfl
    rw [em, gl21, if_neg (show ¬ (b + 116 + x = b + 114 ∧ y = L.length) by omega)]
    unfold mnF
    by_cases e : x = u ∧ y = v
    · rw [if_pos ⟨by omega, e.2⟩, e.1, e.2]
      exact (if_pos (show (n, s).2.1 = Int32.ofNat u ∧ (n, s).2.2.1 = Int32.ofNat v from ⟨e1, e2⟩)).symm
    · rw [if_neg (by omega), if_neg (fun z => e ⟨(ofN_inj (by omega) (by omega) (e1.symm.trans z.1)).symm, (ofN_inj (by omega) (by omega) (e2.symm.trans z.2)).symm⟩)]
      exact hL.2.2 x y hx hy
end LX
