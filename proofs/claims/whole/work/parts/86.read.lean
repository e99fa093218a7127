/-! the check: what both read of the tape -/
abbrev FpT : Type := Int32 × Int32
def rdA (T : Nat → Int32) (sz u : Nat) : Except FpT (Int32 × Nat) := if u < sz then .ok (T u, u + 1) else .error (2, Int32.ofNat sz)
def rdW (T : Nat → Int32) (sz : Nat) (lo hi : Int32) (u : Nat) : Except FpT (Int32 × Nat) := match rdA T sz u with
  | .error e => .error e
  | .ok (x, v) => if x < lo then .error (3, Int32.ofNat u) else if x ≤ hi then .ok (x, v) else .error (3, Int32.ofNat u)
def rdF (T : Nat → Int32) (sz u : Nat) : Except FpT Nat := match rdW T sz 0 9 u with
  | .error e => .error e
  | .ok (x, v) => match rdW T sz 0 9 v with
    | .error e => .error e
    | .ok (y, w) => if x = y then .error (3, Int32.ofNat v) else match rdA T sz w with
      | .error e => .error e
      | .ok (_, z) => .ok z
/-- k facts -/
def rdK (T : Nat → Int32) (sz : Nat) : Nat → Nat → Except FpT Nat
  | 0, u => .ok u
  | k + 1, u => match rdF T sz u with
    | .error e => .error e
    | .ok v => rdK T sz k v
theorem rdA_ok {T : Nat → Int32} {sz u : Nat} {r : Int32 × Nat} (h : rdA T sz u = .ok r) : u < sz ∧ r = (T u, u + 1) := by
  unfold rdA at h
  by_cases g : u < sz
  · rw [if_pos g] at h; cases h; exact ⟨g, rfl⟩
  · rw [if_neg g] at h; cases h
theorem rdA_er {T : Nat → Int32} {sz u : Nat} {e : FpT} (h : rdA T sz u = .error e) : ¬ u < sz ∧ e = (2, Int32.ofNat sz) := by
  unfold rdA at h
  by_cases g : u < sz
  · rw [if_pos g] at h; cases h
  · rw [if_neg g] at h; cases h; exact ⟨g, rfl⟩
theorem rdW_ok {T : Nat → Int32} {sz u : Nat} {lo hi : Int32} {r : Int32 × Nat} (h : rdW T sz lo hi u = .ok r) : u < sz ∧ r = (T u, u + 1) ∧ ¬ T u < lo ∧ T u ≤ hi := by
  unfold rdW at h
  cases hA : rdA T sz u with
  | error e => rw [hA] at h; cases h
  | ok s =>
    rw [hA] at h
    obtain ⟨g1, g2⟩ := rdA_ok hA
    subst g2
    by_cases g3 : T u < lo
    · simp only [if_pos g3] at h; cases h
    · by_cases g4 : T u ≤ hi
      · simp only [if_neg g3, if_pos g4] at h; cases h; exact ⟨g1, rfl, g3, g4⟩
      · simp only [if_neg g3, if_neg g4] at h; cases h
theorem rdF_ok {T : Nat → Int32} {sz u v : Nat} (h : rdF T sz u = .ok v) : v = u + 3 ∧ u + 3 ≤ sz := by
  unfold rdF at h
  cases h1 : rdW T sz 0 9 u with
  | error e => rw [h1] at h; cases h
  | ok s =>
    rw [h1] at h
    obtain ⟨_, g2, _⟩ := rdW_ok h1
    subst g2
    simp only at h
    cases h2 : rdW T sz 0 9 (u + 1) with
    | error e => rw [h2] at h; cases h
    | ok s =>
      rw [h2] at h
      obtain ⟨_, g3, _⟩ := rdW_ok h2
      subst g3
      simp only at h
      by_cases g4 : T u = T (u + 1)
      · rw [if_pos g4] at h; cases h
      · rw [if_neg g4] at h
        cases h3 : rdA T sz (u + 1 + 1) with
        | error e => rw [h3] at h; cases h
        | ok s =>
          rw [h3] at h
          obtain ⟨g5, g6⟩ := rdA_ok h3
          subst g6
          cases h
          exact ⟨rfl, by omega⟩
theorem rdK_ok {T : Nat → Int32} {sz : Nat} : ∀ (k : Nat) {u v : Nat}, u ≤ sz → rdK T sz k u = .ok v → v = u + 3 * k ∧ u + 3 * k ≤ sz
  | 0, u, v, hu, h => by cases h; exact ⟨rfl, hu⟩
  | k + 1, u, v, hu, h => by
    unfold rdK at h
    cases h1 : rdF T sz u with
    | error e => rw [h1] at h; cases h
    | ok s =>
      rw [h1] at h
      obtain ⟨g1, g2⟩ := rdF_ok h1
      subst g1
      have := rdK_ok k g2 h
      omega
/-- only the consumer's own cells may differ, but not its tables -/
def smR (b : Nat) (M N : xm_M) : Prop := (∀ x k, ¬ (x = b + 145 ∨ (b + 148 ≤ x ∧ x ≤ b + 150)) → xm_gi N x k = xm_gi M x k) ∧ ∀ x k, ¬ (x = b + 145 ∨ (b + 148 ≤ x ∧ x ≤ b + 150)) → xm_gl N x k = xm_gl M x k
theorem smR.rf {b : Nat} {M : xm_M} : smR b M M := ⟨fun _ _ _ => rfl, fun _ _ _ => rfl⟩
theorem smR.tr {b : Nat} {M N P : xm_M} (h : smR b M N) (g : smR b N P) : smR b M P := ⟨fun x k q => (g.1 x k q).trans (h.1 x k q), fun x k q => (g.2 x k q).trans (h.2 x k q)⟩
theorem smR.pi {b k : Nat} {M N : xm_M} {v : Int32} (h : smR b M N) : smR b M (xm_pi N (b + 145) k v) := ⟨fun x j hx => (if_neg (fun q => hx (Or.inl q.1))).trans (h.1 x j hx), h.2⟩
def tpX (b : Nat) (M : xm_M) (T : Nat → Int32) (sz : Nat) : Prop := sz ≤ 20000 ∧ xm_gi M (b + 51) 1 = Int32.ofNat sz ∧ ∀ j, j < sz → xm_gi M (b + 52) j = T j
theorem tpX.fr {b sz : Nat} {M N : xm_M} {T : Nat → Int32} (h : tpX b M T sz) (s : smR b M N) : tpX b N T sz := ⟨h.1, by rw [s.1 _ _ (by omega)]; exact h.2.1, fun j hj => by rw [s.1 _ _ (by omega)]; exact h.2.2 j hj⟩
def okA (b : Nat) (r : Int32 × Nat) (M : xm_M) : Prop := xm_gi M (b + 145) 8 = r.1 ∧ xm_gi M (b + 145) 7 = Int32.ofNat r.2
def okU (b : Nat) (u : Nat) (M : xm_M) : Prop := xm_gi M (b + 145) 7 = Int32.ofNat u
def Pr2 {α : Type} (b : Nat) (p : Bool) (Q : Option Value → xm_M → Prop) (M : xm_M) (o : Except FpT α) (ok : α → xm_M → Prop) : Prop :=
  (∀ e, o = .error e → ∀ M1, smR b M M1 → xm_st b true p M1 → xm_gi M1 (b + 145) 9 = e.1 → xm_gi M1 (b + 145) 10 = e.2 → Q (some (.int 0)) M1) ∧
  ∀ r, o = .ok r → ∀ M1, smR b M M1 → xm_st b true p M1 → xm_gi M1 (b + 145) 9 = xm_gi M (b + 145) 9 → xm_gi M1 (b + 145) 10 = xm_gi M (b + 145) 10 → ok r M1 → Q (some (.int 1)) M1
section RD
variable {l : Launch} {E : xm_E} {b : Nat} {c p : Bool} {Q : Option Value → xm_M → Prop} {M : xm_M} {T : Nat → Int32} {sz : Nat}
theorem s3_get {j : Nat} (hT : tpX b M T sz) (hj : j < sz) (hS : xm_st b c p M) (h : xm_st b c p M → Q (some (.int (T j))) M) : xm_C l E y3_get rm3_get [.ref (b + 51), .int (Int32.ofNat j)] M Q := by
  obtain ⟨h1, h2, h3⟩ := hT
  refine xm_enter (by decide) (Nat.le_of_ble_eq_true rfl) (t3_get_0 M _ hS ⟨fun g => ?_, fun g => ⟨fun g2 => ?_, fun g2 => ⟨xn_in (by omega) (by decide), ?_⟩⟩⟩)
  · exact absurd ((xn_lt (b := 0) (by omega) (by omega)).mp g) (by omega)
  · rw [h2] at g2
    exact absurd ((xn_le (by omega) (by omega)).mp g2) (by omega)
  · rw [xn_c (by omega), h3 j hj]; exact h
theorem s9_refuse {w q : Int32} (hS : xm_st b true p M) (h : ∀ M1, smR b M M1 → xm_st b true p M1 → xm_gi M1 (b + 145) 9 = w → xm_gi M1 (b + 145) 10 = q → Q (some (.int 0)) M1) : xm_C l E y9_refuse rm9_refuse [.ref (b + 145), .int w, .int q] M Q :=
  xm_enter (by decide) (Nat.le_of_ble_eq_true rfl) (t9_refuse_0 (c := true) M w q hS (fun hS => h _ smR.rf.pi.pi hS (by rw [gi_pi, if_neg (by omega), gi_pi, if_pos ⟨rfl, rfl⟩]) (by rw [gi_pi, if_pos ⟨rfl, rfl⟩])))
theorem s9_readAny {u : Nat} (hT : tpX b M T sz) (hu : xm_gi M (b + 145) 7 = Int32.ofNat u) (hu2 : u ≤ sz) (hS : xm_st b true p M) (h : Pr2 b p Q M (rdA T sz u) (okA b)) : xm_C l E y9_readAny rm9_readAny [.ref (b + 145)] M Q := by
  have hT0 := hT
  obtain ⟨h1, h2, h3⟩ := hT
  refine xm_enter (by decide) (Nat.le_of_ble_eq_true rfl) (t9_readAny_0 (c := true) M hS ⟨fun g => ?_, fun g => ?_⟩)
  · rw [hu, h2] at g
    have g : u < sz := (xn_lt (by omega) (by omega)).mp g
    rw [hu]
    refine s3_get hT0 g hS (fun hS => ⟨_, rfl, hS, fun hS => ?_⟩)
    refine h.2 _ (if_pos g) _ smR.rf.pi.pi hS ?_ ?_ ⟨?_, ?_⟩
    · rw [gi_pi, if_neg (by omega), gi_pi, if_neg (by omega)]
    · rw [gi_pi, if_neg (by omega), gi_pi, if_neg (by omega)]
    · rw [gi_pi, if_neg (by omega), gi_pi, if_pos ⟨rfl, rfl⟩]
    · rw [gi_pi, if_pos ⟨rfl, rfl⟩, gi_pi, if_neg (by omega), hu]; exact xn_s u
  · have g : ¬ u < sz := fun q => g (by rw [hu, h2]; exact (xn_lt (by omega) (by omega)).mpr q)
    refine s9_refuse hS (fun M1 s1 hS e1 e2 => ⟨false, rfl, hS, fun hS => ?_⟩)
    exact h.1 _ (if_neg g) M1 s1 hS e1 (by rw [e2]; exact h2)
theorem s9_readWithin {u : Nat} {lo hi : Int32} (hT : tpX b M T sz) (hu : xm_gi M (b + 145) 7 = Int32.ofNat u) (hu2 : u ≤ sz) (hS : xm_st b true p M) (h : Pr2 b p Q M (rdW T sz lo hi u) (okA b)) : xm_C l E y9_readWithin rm9_readWithin [.ref (b + 145), .int lo, .int hi] M Q := by
  refine xm_enter (by decide) (Nat.le_of_ble_eq_true rfl) (t9_readWithin_0 (c := true) M lo hi hS (s9_readAny hT hu hu2 hS ⟨fun e he M1 s1 hS e1 e2 => ⟨false, rfl, hS, fun q => absurd rfl q, fun _ hS => ?_⟩, fun r hr M1 s1 hS e1 e2 e3 => ⟨true, rfl, hS, fun _ => ?_, fun q => absurd q (by decide)⟩⟩))
  · exact h.1 e (by unfold rdW; rw [he]) M1 s1 hS e1 e2
  · obtain ⟨g1, g2⟩ := rdA_ok hr
    subst g2
    obtain ⟨e3, e4⟩ := e3
    have e5 : xm_gi M1 (b + 145) 7 - 1 = Int32.ofNat u := by
      rw [e4, show Int32.ofNat (u + 1) = Int32.ofNat u + 1 from Int32.ofNat_add u 1]
      exact Int32.add_sub_cancel _ _
    rw [e3, e5]
    refine ⟨fun g => s9_refuse hS (fun M2 s2 hS a1 a2 => ⟨false, rfl, hS, fun _ hS => ?_, fun q => absurd rfl q⟩), fun g => ⟨fun g2 hS => ?_, fun g2 => s9_refuse hS (fun M2 s2 hS a1 a2 => ⟨false, rfl, hS, fun _ hS => ?_, fun q => absurd rfl q⟩)⟩⟩
    · exact h.1 (3, Int32.ofNat u) (by unfold rdW; rw [hr]; exact if_pos g) M2 (s1.tr s2) hS a1 a2
    · exact h.2 (T u, u + 1) (by unfold rdW; rw [hr]; exact (if_neg g).trans (if_pos g2)) M1 s1 hS e1 e2 ⟨e3, e4⟩
    · exact h.1 (3, Int32.ofNat u) (by unfold rdW; rw [hr]; exact (if_neg g).trans (if_neg g2)) M2 (s1.tr s2) hS a1 a2
theorem s9_readFact {u : Nat} (hT : tpX b M T sz) (hu : xm_gi M (b + 145) 7 = Int32.ofNat u) (hu2 : u ≤ sz) (hS : xm_st b true p M) (h : Pr2 b p Q M (rdF T sz u) (okU b)) : xm_C l E y9_readFact rm9_readFact [.ref (b + 145)] M Q := by
  refine xm_enter (by decide) (Nat.le_of_ble_eq_true rfl) (t9_readFact_0 (c := true) M hS (s9_readWithin hT hu hu2 hS ⟨fun e he M1 s1 hS e1 e2 => ⟨false, rfl, hS, fun q => absurd rfl q, fun _ hS => ?_⟩, fun r hr M1 s1 hS e1 e2 e3 => ⟨true, rfl, hS, fun _ => ?_, fun q => absurd q (by decide)⟩⟩))
  · exact h.1 e (by unfold rdF; rw [he]) M1 s1 hS e1 e2
  · obtain ⟨g1, g2, _⟩ := rdW_ok hr
    subst g2
    obtain ⟨e3, e4⟩ := e3
    refine s9_readWithin (hT.fr s1) e4 (by omega) hS ⟨fun e he M2 s2 hS a1 a2 => ⟨false, rfl, hS, fun q => absurd rfl q, fun _ hS => ?_⟩, fun r hr2 M2 s2 hS a1 a2 a3 => ⟨true, rfl, hS, fun _ => ?_, fun q => absurd q (by decide)⟩⟩
    · exact h.1 e (by unfold rdF; rw [hr]; simp only; rw [he]) M2 (s1.tr s2) hS a1 a2
    · obtain ⟨g3, g4, _⟩ := rdW_ok hr2
      subst g4
      obtain ⟨a3, a4⟩ := a3
      have a5 : xm_gi M2 (b + 145) 7 - 1 = Int32.ofNat (u + 1) := by
        rw [a4, show Int32.ofNat (u + 1 + 1) = Int32.ofNat (u + 1) + 1 from Int32.ofNat_add (u + 1) 1]
        exact Int32.add_sub_cancel _ _
      rw [a3, e3, a5]
      refine ⟨fun g => s9_readAny ((hT.fr s1).fr s2) a4 (by omega) hS ⟨fun e he M3 s3 hS c1 c2 => ⟨false, rfl, hS, fun hS => ?_⟩, fun r hr3 M3 s3 hS c1 c2 c3 => ⟨true, rfl, hS, fun hS => ?_⟩⟩, fun g => s9_refuse hS (fun M3 s3 hS c1 c2 => ⟨false, rfl, hS, fun hS => ?_⟩)⟩
      · exact h.1 e (by unfold rdF; rw [hr]; simp only; rw [hr2]; simp only; rw [if_neg (fun q => g q.symm), he]) M3 ((s1.tr s2).tr s3) hS c1 c2
      · exact h.2 r.2 (by unfold rdF; rw [hr]; simp only; rw [hr2]; simp only; rw [if_neg (fun q => g q.symm), hr3]) M3 ((s1.tr s2).tr s3) hS (c1.trans (a1.trans e1)) (c2.trans (a2.trans e2)) c3.2
      · exact h.1 (3, Int32.ofNat (u + 1)) (by unfold rdF; rw [hr]; simp only; rw [hr2]; simp only; rw [if_pos g.symm]) M3 ((s1.tr s2).tr s3) hS c1 c2
end RD
