/-! the beginning: its bounds, and rows for all of them -/
def gG (x : Nat) : Bool := decide (x = 2 ∨ x = 9)
def Gm (m : Nat) (u v : Nat) : Int := if gG u = gG v then 0 else if gG u = true then 1024 else -(m : Int)
theorem Gm_cl {m : Nat} (hm : m ≤ 1024) (u x v : Nat) : Gm m u v ≤ Gm m u x + Gm m x v := by
  unfold Gm
  cases gG u <;> cases gG x <;> cases gG v <;> simp <;> omega
theorem ls_toInt {m : Nat} (hm : m ≤ 1024) : (-(Int32.toInt64 (Int32.ofNat m))).toInt = -(m : Int) := by
  have h : (Int32.toInt64 (Int32.ofNat m)).toInt = m := by rw [Int32.toInt_toInt64]; exact toInt_of rfl (by omega)
  rw [Int64.toInt_neg, h]
  exact Int.bmod_eq_of_le (by omega) (by omega)
theorem bg_cases {m : Nat} (hm : m ≤ 1024) {s : NsT} (h : s ∈ begL (Int32.ofNat m)) : ∃ u v : Nat, u < 10 ∧ v < 10 ∧ s.2.1 = Int32.ofNat u ∧ s.2.2.1 = Int32.ofNat v ∧ s.2.2.2.toInt = Gm m u v := by
  rw [← bgB_eq] at h
  obtain ⟨j, _, hj, h3⟩ := catL_mem 18 0 h
  have h := (onL_mem h3).2
  generalize s.2 = r at h
  have : j = 0 ∨ j = 1 ∨ j = 2 ∨ j = 3 ∨ j = 4 ∨ j = 5 ∨ j = 6 ∨ j = 7 ∨ j = 8 ∨ j = 9 ∨ j = 10 ∨ j = 11 ∨ j = 12 ∨ j = 13 ∨ j = 14 ∨ j = 15 ∨ j = 16 ∨ j = 17 := by omega
  rcases this with rfl | rfl | rfl | rfl | rfl | rfl | rfl | rfl | rfl | rfl | rfl | rfl | rfl | rfl | rfl | rfl | rfl | rfl
  · have h : some (((2 : Int32), (9 : Int32), (0 : Int64)) : StT) = some r := h
    cases h; exact ⟨2, 9, by decide, by decide, rfl, rfl, rfl⟩
  · have h : some (((9 : Int32), (2 : Int32), (0 : Int64)) : StT) = some r := h
    cases h; exact ⟨9, 2, by decide, by decide, rfl, rfl, rfl⟩
  · have h : some (((1 : Int32), (0 : Int32), (0 : Int64)) : StT) = some r := h
    cases h; exact ⟨1, 0, by decide, by decide, rfl, rfl, rfl⟩
  · have h : some (((0 : Int32), (1 : Int32), (0 : Int64)) : StT) = some r := h
    cases h; exact ⟨0, 1, by decide, by decide, rfl, rfl, rfl⟩
  · have h : some (((3 : Int32), (0 : Int32), (0 : Int64)) : StT) = some r := h
    cases h; exact ⟨3, 0, by decide, by decide, rfl, rfl, rfl⟩
  · have h : some (((0 : Int32), (3 : Int32), (0 : Int64)) : StT) = some r := h
    cases h; exact ⟨0, 3, by decide, by decide, rfl, rfl, rfl⟩
  · have h : some (((4 : Int32), (0 : Int32), (0 : Int64)) : StT) = some r := h
    cases h; exact ⟨4, 0, by decide, by decide, rfl, rfl, rfl⟩
  · have h : some (((0 : Int32), (4 : Int32), (0 : Int64)) : StT) = some r := h
    cases h; exact ⟨0, 4, by decide, by decide, rfl, rfl, rfl⟩
  · have h : some (((5 : Int32), (0 : Int32), (0 : Int64)) : StT) = some r := h
    cases h; exact ⟨5, 0, by decide, by decide, rfl, rfl, rfl⟩
  · have h : some (((0 : Int32), (5 : Int32), (0 : Int64)) : StT) = some r := h
    cases h; exact ⟨0, 5, by decide, by decide, rfl, rfl, rfl⟩
  · have h : some (((6 : Int32), (0 : Int32), (0 : Int64)) : StT) = some r := h
    cases h; exact ⟨6, 0, by decide, by decide, rfl, rfl, rfl⟩
  · have h : some (((0 : Int32), (6 : Int32), (0 : Int64)) : StT) = some r := h
    cases h; exact ⟨0, 6, by decide, by decide, rfl, rfl, rfl⟩
  · have h : some (((7 : Int32), (0 : Int32), (0 : Int64)) : StT) = some r := h
    cases h; exact ⟨7, 0, by decide, by decide, rfl, rfl, rfl⟩
  · have h : some (((0 : Int32), (7 : Int32), (0 : Int64)) : StT) = some r := h
    cases h; exact ⟨0, 7, by decide, by decide, rfl, rfl, rfl⟩
  · have h : some (((8 : Int32), (0 : Int32), (0 : Int64)) : StT) = some r := h
    cases h; exact ⟨8, 0, by decide, by decide, rfl, rfl, rfl⟩
  · have h : some (((0 : Int32), (8 : Int32), (0 : Int64)) : StT) = some r := h
    cases h; exact ⟨0, 8, by decide, by decide, rfl, rfl, rfl⟩
  · have h : some (((0 : Int32), (9 : Int32), -(Int32.toInt64 (Int32.ofNat m))) : StT) = some r := h
    cases h; exact ⟨0, 9, by decide, by decide, rfl, rfl, ls_toInt hm⟩
  · have h : some (((9 : Int32), (0 : Int32), (1024 : Int64)) : StT) = some r := h
    cases h; exact ⟨9, 0, by decide, by decide, rfl, rfl, by show (1024 : Int64).toInt = 1024; decide⟩
theorem Gm_bd {m : Nat} (hm : m ≤ 1024) (u v : Nat) : -1024 ≤ Gm m u v ∧ Gm m u v ≤ 1024 := by
  unfold Gm
  cases gG u <;> cases gG v <;> simp <;> omega
theorem bg_same {m : Nat} (hm : m ≤ 1024) : apL true [] (begL (Int32.ofNat m)) = begL (Int32.ofNat m) := by
  show [] ++ _ = _
  rw [List.nil_append]
  refine List.filter_eq_self.mpr (fun s hs => ?_)
  obtain ⟨u, v, _, _, _, _, h⟩ := bg_cases hm hs
  have := Gm_bd hm u v
  show isB s.2.2.2 = true
  exact isB_iff.mpr (by omega)
theorem Gm_w {m : Nat} (hm : m ≤ 1024) (x y : Nat) (hx : x < 10) (hy : y < 10) : Gm m x y ≤ wZ (apL true [] (begL (Int32.ofNat m))) x y := by
  have hL := (good_bg (least := Int32.ofNat m)).1
  have hb := Gm_bd hm x y
  unfold wZ
  rw [if_pos ⟨hx, hy⟩]
  obtain ⟨o, h1, h2⟩ := mnL_reO hL x y
  unfold toZ
  by_cases g : mnL (apL true [] (begL (Int32.ofNat m))) x y = N62
  · rw [if_pos g]; omega
  · rw [if_neg g]
    cases o with
    | none => exact absurd h1 g
    | some z =>
      have h1 : (mnL (apL true [] (begL (Int32.ofNat m))) x y).toInt = z := h1
      obtain ⟨⟨s, s1, s2, s3, s4⟩, _⟩ := h2
      rw [bg_same hm] at s1
      obtain ⟨u, v, hu, hv, e1, e2, e3⟩ := bg_cases hm s1
      have eu := ofN_inj (by omega) (by omega) (e1.symm.trans s2)
      have ev := ofN_inj (by omega) (by omega) (e2.symm.trans s3)
      rw [h1, s4, e3, eu, ev]
      exact Int.le_refl _
theorem lo_pr {w G : MzT} (hw : ∀ x y, x < 10 → y < 10 → G x y ≤ w x y) (hc : ∀ u x v, G u v ≤ G u x + G x v) : ∀ j, j ≤ 10 → ∀ x y, x < 10 → y < 10 → G x y ≤ prZ w j x y
  | 0, _, x, y, hx, hy => hw x y hx hy
  | j + 1, hj, x, y, hx, hy => by
    have ih := lo_pr hw hc j (by omega)
    show G x y ≤ phZ (prZ w j) j x y
    unfold phZ
    have a0 := ih x y hx hy
    by_cases g : prZ w j x j < (1125899906842624 : Int) ∧ prZ w j j y < (1125899906842624 : Int) ∧ prZ w j x j + prZ w j j y < prZ w j x y
    · rw [if_pos g]
      have a1 := ih x j hx (by omega)
      have a2 := ih j y (by omega) hy
      have := hc x j y
      omega
    · rw [if_neg g]; exact a0
theorem Gm_d {m x : Nat} : Gm m x x = 0 := if_pos rfl
theorem bg_fw {m : Nat} (hm : m ≤ 1024) : (fwX 100 0 (mnL (apL true [] (begL (Int32.ofNat m))))).1 = true ∧ reA 2199023255552 (fwX 100 0 (mnL (apL true [] (begL (Int32.ofNat m))))).2 (prZ (wZ (apL true [] (begL (Int32.ofNat m)))) 10) := by
  have lo := lo_pr (G := Gm m) (Gm_w hm) (Gm_cl hm)
  rcases fw_all (good_bg (least := Int32.ofNat m)).1 with ⟨f1, _, f3⟩ | ⟨_, k, u, hk, hu, hneg⟩
  · exact ⟨f1, f3⟩
  · have := lo (k + 1) (by omega) u u hu hu
    rw [Gm_d] at this
    omega
theorem bg_bd {m k : Nat} {w : Int64} (hm : m ≤ 1024) (hk : k < 100) (h : bO (fwX 100 0 (mnL (apL true [] (begL (Int32.ofNat m))))).2 k = some w) : ¬ k / 10 = k % 10 ∧ Gm m (k / 10) (k % 10) ≤ w.toInt := by
  have hb := (bO_ok _).1 k w hk h
  unfold bO at h
  by_cases g : k / 10 = k % 10
  · rw [if_pos g] at h; cases h
  · rw [if_neg g] at h
    refine ⟨g, ?_⟩
    by_cases g2 : isB ((fwX 100 0 (mnL (apL true [] (begL (Int32.ofNat m))))).2 (k / 10) (k % 10)) = true
    · rw [if_pos g2] at h
      have lo := lo_pr (G := Gm m) (Gm_w hm) (Gm_cl hm) 10 (by decide) (k / 10) (k % 10) (by omega) (by omega)
      have hr := (bg_fw hm).2 (k / 10) (k % 10) (by omega) (by omega)
      cases h
      rcases hr with q | q
      · rw [q.1] at hb; exact absurd hb (by decide)
      · omega
    · rw [if_neg g2] at h; cases h
/-! rows -/
def stp (L : List NsT) (u v : Nat) (c : Int) : Prop := ∃ s, s ∈ L ∧ s.2.1 = Int32.ofNat u ∧ s.2.2.1 = Int32.ofNat v ∧ s.2.2.2.toInt = c
def leR (L : List NsT) (to n u : Nat) (y : Int) : Prop := ∃ x, rsZ L to n u = some x ∧ x ≤ y
theorem leR_0 {L : List NsT} {v : Nat} : leR L v 0 v 0 := ⟨0, if_pos rfl, Int.le_refl 0⟩
theorem leR_s {L : List NsT} {u x to n : Nat} {c y : Int} (hx : x < 10) (hs : stp L u x c) (h : leR L to n x y) : leR L to (n + 1) u (c + y) := by
  obtain ⟨s, s1, s2, s3, s4⟩ := hs
  obtain ⟨r, r1, r2⟩ := h
  have hm := rsZ_min L to n u
  have hmem : stS L (rsZ L to n) u (s.2.2.2.toInt + r) := ⟨s, s1, s2, r, by rw [s3, xn_c (by omega)]; exact r1, rfl⟩
  cases ho : rsZ L to (n + 1) u with
  | none => rw [ho] at hm; exact absurd hmem (hm _)
  | some z =>
    rw [ho] at hm
    exact ⟨z, ho, by have := hm.2 _ hmem; omega⟩
theorem fnZ_some {L : List NsT} {fr to n : Nat} {most : Int} (h : leR L to n fr most) : ∀ (k n0 : Nat), n0 ≤ n → n < n0 + k → (fnZ L fr to most k n0).isSome = true
  | 0, n0, h1, h2 => by omega
  | k + 1, n0, h1, h2 => by
    show (if leZ (rsZ L to n0 fr) most = true then some (chZ L to n0 fr most) else fnZ L fr to most k (n0 + 1)).isSome = true
    by_cases g : leZ (rsZ L to n0 fr) most = true
    · rw [if_pos g]; rfl
    · rw [if_neg g]
      by_cases e : n0 = n
      · obtain ⟨x, x1, x2⟩ := h
        refine absurd ?_ g
        rw [e, x1]
        exact decide_eq_true x2
      · exact fnZ_some h k (n0 + 1) (by omega) (by omega)
theorem st_of {m j : Nat} {u v : Int32} {c : Int64} (h : (begL (Int32.ofNat m))[j]? = some (Int32.ofNat j, u, v, c)) {a d : Nat} (hu : u = Int32.ofNat a) (hv : v = Int32.ofNat d) {y : Int} (hc : c.toInt = y) : stp (begL (Int32.ofNat m)) a d y := ⟨_, List.mem_of_getElem? h, hu, hv, hc⟩
theorem st_x0 {m x : Nat} (hx : x < 10) (h0 : ¬ x = 0) (h2 : ¬ x = 2) (h9 : ¬ x = 9) : stp (begL (Int32.ofNat m)) x 0 0 ∧ stp (begL (Int32.ofNat m)) 0 x 0 := by
  have : x = 1 ∨ x = 3 ∨ x = 4 ∨ x = 5 ∨ x = 6 ∨ x = 7 ∨ x = 8 := by omega
  rcases this with rfl | rfl | rfl | rfl | rfl | rfl | rfl
  · exact ⟨st_of (j := 2) rfl (by decide) (by decide) (by decide), st_of (j := 3) rfl (by decide) (by decide) (by decide)⟩
  · exact ⟨st_of (j := 4) rfl (by decide) (by decide) (by decide), st_of (j := 5) rfl (by decide) (by decide) (by decide)⟩
  · exact ⟨st_of (j := 6) rfl (by decide) (by decide) (by decide), st_of (j := 7) rfl (by decide) (by decide) (by decide)⟩
  · exact ⟨st_of (j := 8) rfl (by decide) (by decide) (by decide), st_of (j := 9) rfl (by decide) (by decide) (by decide)⟩
  · exact ⟨st_of (j := 10) rfl (by decide) (by decide) (by decide), st_of (j := 11) rfl (by decide) (by decide) (by decide)⟩
  · exact ⟨st_of (j := 12) rfl (by decide) (by decide) (by decide), st_of (j := 13) rfl (by decide) (by decide) (by decide)⟩
  · exact ⟨st_of (j := 14) rfl (by decide) (by decide) (by decide), st_of (j := 15) rfl (by decide) (by decide) (by decide)⟩
theorem st_29 {m : Nat} : stp (begL (Int32.ofNat m)) 2 9 0 := st_of (j := 0) rfl (by decide) (by decide) (by decide)
theorem st_92 {m : Nat} : stp (begL (Int32.ofNat m)) 9 2 0 := st_of (j := 1) rfl (by decide) (by decide) (by decide)
theorem st_09 {m : Nat} (hm : m ≤ 1024) : stp (begL (Int32.ofNat m)) 0 9 (-(m : Int)) := st_of (j := 16) rfl (by decide) (by decide) (ls_toInt hm)
theorem st_90 {m : Nat} : stp (begL (Int32.ofNat m)) 9 0 1024 := st_of (j := 17) rfl (by decide) (by decide) (by decide)
theorem leR_le {L : List NsT} {to n u : Nat} {y z : Int} (h : leR L to n u y) (hyz : y ≤ z) : leR L to n u z := by
  obtain ⟨x, x1, x2⟩ := h
  exact ⟨x, x1, by omega⟩
theorem gG_n {x : Nat} (h2 : ¬ x = 2) (h9 : ¬ x = 9) : gG x = false := decide_eq_false (fun z => z.elim h2 h9)
theorem ro_0 {m v : Nat} (hm : m ≤ 1024) (hv : v < 10) : ∃ n, n ≤ 2 ∧ (¬ v = 0 → 1 ≤ n) ∧ leR (begL (Int32.ofNat m)) v n 0 (Gm m 0 v) := by
  by_cases e0 : v = 0
  · subst e0; exact ⟨0, by decide, fun z => absurd rfl z, leR_0⟩
  · by_cases e2 : v = 2
    · subst e2
      refine ⟨2, by decide, fun _ => by decide, leR_le (leR_s (by decide) (st_09 hm) (leR_s (by decide) st_92 leR_0)) ?_⟩
      show _ ≤ -(m : Int)
      omega
    · by_cases e9 : v = 9
      · subst e9
        refine ⟨1, by decide, fun _ => by decide, leR_le (leR_s (by decide) (st_09 hm) leR_0) ?_⟩
        show _ ≤ -(m : Int)
        omega
      · refine ⟨1, by decide, fun _ => by decide, leR_le (leR_s hv (st_x0 hv e0 e2 e9).2 leR_0) ?_⟩
        have : Gm m 0 v = 0 := if_pos (by rw [gG_n e2 e9]; rfl)
        omega
theorem ro_9 {m v : Nat} (hm : m ≤ 1024) (hv : v < 10) (h9 : ¬ v = 9) : ∃ n, 1 ≤ n ∧ n ≤ 3 ∧ leR (begL (Int32.ofNat m)) v n 9 (Gm m 9 v) := by
  by_cases e2 : v = 2
  · subst e2
    exact ⟨1, by decide, by decide, leR_le (leR_s (by decide) st_92 leR_0) (by show _ ≤ (0 : Int); omega)⟩
  · obtain ⟨n, n1, _, n2⟩ := ro_0 hm hv
    refine ⟨n + 1, by omega, by omega, leR_le (leR_s (by decide) st_90 n2) ?_⟩
    have g := gG_n e2 h9
    have a1 : Gm m 0 v = 0 := if_pos (by rw [g]; rfl)
    have a2 : Gm m 9 v = 1024 := by
      unfold Gm
      rw [g]; rfl
    omega
theorem ro_all {m u v : Nat} (hm : m ≤ 1024) (hu : u < 10) (hv : v < 10) (hne : ¬ u = v) : ∃ n, 1 ≤ n ∧ n ≤ 12 ∧ leR (begL (Int32.ofNat m)) v n u (Gm m u v) := by
  by_cases u0 : u = 0
  · subst u0
    obtain ⟨n, n1, n2, n3⟩ := ro_0 hm hv
    exact ⟨n, n2 (fun z => hne z.symm), by omega, n3⟩
  · by_cases u9 : u = 9
    · subst u9
      obtain ⟨n, n1, n2, n3⟩ := ro_9 hm hv (fun z => hne z.symm)
      exact ⟨n, n1, by omega, n3⟩
    · by_cases u2 : u = 2
      · subst u2
        by_cases v9 : v = 9
        · subst v9
          exact ⟨1, by decide, by decide, leR_le (leR_s (by decide) st_29 leR_0) (by show _ ≤ (0 : Int); omega)⟩
        · obtain ⟨n, n1, n2, n3⟩ := ro_9 hm hv v9
          refine ⟨n + 1, by omega, by omega, leR_le (leR_s (by decide) st_29 n3) ?_⟩
          have : Gm m 2 v = Gm m 9 v := rfl
          omega
      · obtain ⟨n, n1, n2, n3⟩ := ro_0 hm hv
        refine ⟨n + 1, by omega, by omega, leR_le (leR_s (by decide) (st_x0 hu u0 u2 u9).1 n3) ?_⟩
        have : Gm m u v = Gm m 0 v := by
          unfold Gm
          rw [gG_n u2 u9]; rfl
        omega
theorem rsI_some {L : List NsT} {f : Nat → Bool} {B : Nat → Option Int64} (h : ∀ j, j < 100 → f j = true → (fnR L (j / 10) (j % 10) (bvZ (B j))).isSome = true) : ∀ (k j : Nat), j + k ≤ 100 → (rsI L f B k j).isSome = true
  | 0, _, _ => rfl
  | k + 1, j, hj => by
    have ih := rsI_some h k (j + 1) (by omega)
    unfold rsI
    by_cases g : f j = true
    · rw [if_pos g]
      obtain ⟨C, hC⟩ := some_is (h j (by omega) g)
      obtain ⟨R, hR⟩ := some_is ih
      rw [hC, hR]; rfl
    · rw [if_neg g]; exact ih
theorem bgI_some {F : Flt} {n m : Nat} (hm : m ≤ 1024) (hF : fOk F n) (nd : NdT) (hG : ndG F (bdE F (Int32.ofNat m) n) nd n) : (bgI (Int32.ofNat m) (bdE F (Int32.ofNat m) n) nd).isSome = true := by
  have h0 := (bdE_0 (least := Int32.ofNat m) hF).2
  have hp := ndG_p hF hG 0 hF.2.1
  unfold bgI
  refine rsI_some (fun j hj hf => ?_) 100 0 (by decide)
  obtain ⟨_, _, h3⟩ := hp j hf
  obtain ⟨w, hw⟩ := some_is h3
  rw [hw]
  rw [h0] at hw
  obtain ⟨b1, b2⟩ := bg_bd hm hj hw
  obtain ⟨n', n1, n2, n3⟩ := ro_all hm (show j / 10 < 10 by omega) (show j % 10 < 10 by omega) b1
  rw [bg_same hm]
  exact fnZ_some (leR_le n3 b2) 12 1 n1 (by omega)
/-! the class's prove -/
section PP
variable {l : Launch} {E : xm_E} {b : Nat} {c p : Bool} {Q : Option Value → xm_M → Prop} {F : Flt} {n m : Nat}
theorem s5_produce {M : xm_M} (hm : m ≤ 1024) (hF : fOk F n) (hD : RlD b M) (hL : flX b M F) (hc : xm_gi M (b + 1) 2 = Int32.ofNat n) (h0 : xm_gi M (b + 1) 0 = Int32.ofNat m) (h51 : xm_gi M (b + 51) 1 = 0) (hS : xm_st b c p M)
    (hl : ∀ j, ndS F (bdE F (Int32.ofNat m) n) n (fun _ => noN) = .inl j → ∀ M1, smPd b M M1 → RlD b M1 → xm_gi M1 (b + 51) 1 = 0 → xm_st b c true M1 → Q (some (.int (Int32.ofNat j))) M1)
    (hr : ∀ ndE, ndS F (bdE F (Int32.ofNat m) n) n (fun _ => noN) = .inr ndE → ∀ M1, smPd b M M1 → RlD b M1 → snT b M1 (prT F (Int32.ofNat m) (bdE F (Int32.ofNat m) n) ndE n) → xm_st b c true M1 → Q (some (.int (if (prT F (Int32.ofNat m) (bdE F (Int32.ofNat m) n) ndE n).length ≤ 20000 then -2 else Int32.ofNat n))) M1) :
    xm_C l E y5_produce rm5_produce [.ref (b + 55), .ref (b + 1), .ref (b + 51)] M Q := by
  refine xm_enter (by decide) (Nat.le_of_ble_eq_true rfl) (t5_produce_0 M hS ?_)
  have s0 : smPd b M (xm_pi (xm_pi (xm_pr (xm_pr M (b + 55) 8 (some (b + 1))) (b + 55) 9 (some (b + 51))) (b + 55) 10 (0 : Int32)) (b + 55) 11 (1 : Int32)) := ⟨fun x k q => by rw [gi_pi, if_neg (by omega), gi_pi, if_neg (by omega)]; rfl, fun _ _ _ => rfl⟩
  have g10 : xm_gi (xm_pi (xm_pi (xm_pr (xm_pr M (b + 55) 8 (some (b + 1))) (b + 55) 9 (some (b + 51))) (b + 55) 10 (0 : Int32)) (b + 55) 11 (1 : Int32)) (b + 55) 10 = 0 := by rw [gi_pi, if_neg (by omega), gi_pi, if_pos ⟨rfl, rfl⟩]
  have g11 : xm_gi (xm_pi (xm_pi (xm_pr (xm_pr M (b + 55) 8 (some (b + 1))) (b + 55) 9 (some (b + 51))) (b + 55) 10 (0 : Int32)) (b + 55) 11 (1 : Int32)) (b + 55) 11 = 1 := by rw [gi_pi, if_pos ⟨rfl, rfl⟩]
  have g51 : xm_gi (xm_pi (xm_pi (xm_pr (xm_pr M (b + 55) 8 (some (b + 1))) (b + 55) 9 (some (b + 51))) (b + 55) 10 (0 : Int32)) (b + 55) 11 (1 : Int32)) (b + 51) 1 = 0 := by rw [gi_pi, if_neg (by omega), gi_pi, if_neg (by omega)]; exact h51
  have gD : RlD b (xm_pi (xm_pi (xm_pr (xm_pr M (b + 55) 8 (some (b + 1))) (b + 55) 9 (some (b + 51))) (b + 55) 10 (0 : Int32)) (b + 55) 11 (1 : Int32)) := fun i u hi hu => hD i u hi hu
  have hS1 : xm_st b c true (xm_pi (xm_pi (xm_pr (xm_pr M (b + 55) 8 (some (b + 1))) (b + 55) 9 (some (b + 51))) (b + 55) 10 (0 : Int32)) (b + 55) 11 (1 : Int32)) := hS.toP.pi.pi
  generalize xm_pi (xm_pi (xm_pr (xm_pr M (b + 55) 8 (some (b + 1))) (b + 55) 9 (some (b + 51))) (b + 55) 10 (0 : Int32)) (b + 55) 11 (1 : Int32) = M0 at s0 g10 g11 g51 gD hS1 ⊢
  have hn48 : n ≤ 48 := hF.1
  have L0 : flX b M0 F := fun i hi => by
    rw [s0.1 _ _ (by omega), s0.1 _ _ (by omega), s0.1 _ _ (by omega), s0.1 _ _ (by omega), s0.1 _ _ (by omega)]; exact hL i hi
  have c0 : xm_gi M0 (b + 1) 2 = Int32.ofNat n := by rw [s0.1 _ _ (by omega)]; exact hc
  have l0 : xm_gi M0 (b + 1) 0 = Int32.ofNat m := by rw [s0.1 _ _ (by omega)]; exact h0
  refine s5_findBounds hF gD L0 c0 l0 hS1 (fun M1 s1 x1 d1 i1 hS => ⟨rfl, hS, fun hS => ?_⟩)
  have C1 : cnX b M1 F n (Int32.ofNat m) (bdE F (Int32.ofNat m) n) := ⟨L0.y s1, x1, i1, by rw [s1.1 _ _ (by omega)]; exact c0, by rw [s1.1 _ _ (by omega)]; exact l0, d1⟩
  rw [C1.2.2.2.1]
  exact lp_pd31 hF bdE_ok (fun nd hG => bgI_some hm hF nd hG) n (fun _ => noN) M1 (Nat.le_refl n) rfl C1 (fun x h1 h2 => by omega) (fun x h1 h2 => by omega) (by rw [s1.1 _ _ (by omega)]; exact g10) (by rw [s1.1 _ _ (by omega)]; exact g11) (by rw [s1.1 _ _ (by omega)]; exact g51) hS (fun j hj M2 s2 d2 t2 hS => hl j hj M2 (s0.tr (s1.pd.tr s2)) d2 t2 hS) (fun ndE hj M2 s2 d2 t2 hS => hr ndE hj M2 (s0.tr (s1.pd.tr s2)) d2 t2 hS)
end PP
