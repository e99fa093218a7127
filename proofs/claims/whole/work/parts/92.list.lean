/-! the reference's list of steps -/
abbrev NsT : Type := Int32 × StT
def isB (w : Int64) : Bool := decide (-2147483648 ≤ w.toInt ∧ w.toInt ≤ 2147483647)
def apL (st : Bool) (L A : List NsT) : List NsT := L ++ A.filter (fun s => !st || isB s.2.2.2)
theorem apL_nil {st : Bool} {L : List NsT} : apL st L [] = L := List.append_nil L
theorem apL_app {st : Bool} {L A B : List NsT} : apL st (apL st L A) B = apL st L (A ++ B) := by
  unfold apL; rw [List.filter_append, List.append_assoc]
theorem apL_len {st : Bool} {L A : List NsT} : (apL st L A).length ≤ L.length + A.length := by
  unfold apL
  rw [List.length_append]
  have := List.length_filter_le (fun s : NsT => !st || isB s.2.2.2) A
  omega
def lsM (b : Nat) (M : xm_M) (L : List NsT) : Prop := xm_gi M (b + 154) 14 = Int32.ofNat L.length ∧ ∀ j s, L[j]? = some s → xm_gi M (b + 162) j = s.1 ∧ xm_gi M (b + 163) j = s.2.1 ∧ xm_gi M (b + 164) j = s.2.2.1 ∧ xm_gl M (b + 165) j = s.2.2.2
/-- only the list may differ -/
def smL (b : Nat) (M N : xm_M) : Prop := (∀ x k, ¬ ((x = b + 154 ∧ k = 14) ∨ (b + 162 ≤ x ∧ x ≤ b + 164)) → xm_gi N x k = xm_gi M x k) ∧ ∀ x k, ¬ x = b + 165 → xm_gl N x k = xm_gl M x k
theorem smL.rf {b : Nat} {M : xm_M} : smL b M M := ⟨fun _ _ _ => rfl, fun _ _ _ => rfl⟩
theorem smL.tr {b : Nat} {M N P : xm_M} (h : smL b M N) (g : smL b N P) : smL b M P := ⟨fun x k q => (g.1 x k q).trans (h.1 x k q), fun x k q => (g.2 x k q).trans (h.2 x k q)⟩
def PlL (b : Nat) (c p : Bool) (Q : Option Value → xm_M → Prop) (M : xm_M) (st : Bool) (L A : List NsT) : Prop := ∀ M1, smL b M M1 → lsM b M1 (apL st L A) → xm_st b c p M1 → Q none M1
def onL (n : Int32) (o : Option StT) : List NsT := match o with
  | none => []
  | some s => [(n, s)]
theorem onL_len {n : Int32} {o : Option StT} : (onL n o).length ≤ 1 := by cases o <;> simp [onL]
section LS
variable {l : Launch} {E : xm_E} {b : Nat} {c p : Bool} {Q : Option Value → xm_M → Prop} {M : xm_M} {st : Bool} {L A : List NsT}
theorem pl_on (h : PlL b c p Q M st L A) : PlL b c p (fun r M1 => r = none ∧ xm_st b c p M1 ∧ (xm_st b c p M1 → Q none M1)) M st L A := fun M1 s1 l1 hS => ⟨rfl, hS, fun hS => h M1 s1 l1 hS⟩
theorem pl_no (hL : lsM b M L) (h : PlL b c p Q M st L []) : xm_st b c p M → Q none M := fun hS => h M smL.rf (by rw [apL_nil]; exact hL) hS
theorem lsM_put {n u v : Int32} {w : Int64} {M1 : xm_M} (hL : lsM b M L) (hlen : L.length < 1200) (e : M1 = xm_pi (xm_pl (xm_pi (xm_pi (xm_pi M (b + 162) L.length n) (b + 163) L.length u) (b + 164) L.length v) (b + 165) L.length w) (b + 154) 14 (Int32.ofNat (L.length + 1))) : smL b M M1 ∧ lsM b M1 (L ++ [(n, u, v, w)]) := by
  subst e
  refine ⟨⟨fun x k hx => ?_, fun x k hx => ?_⟩, ?_, fun j s hs => ?_⟩
  · rw [gi_pi, if_neg (by omega), gi_pl, gi_pi, if_neg (by omega), gi_pi, if_neg (by omega), gi_pi, if_neg (by omega)]
  · rw [gl_pi, gl_pl, if_neg (by omega), gl_pi, gl_pi, gl_pi]
  · rw [gi_pi, if_pos ⟨rfl, rfl⟩, List.length_append]; rfl
  · rw [List.getElem?_append] at hs
    by_cases g : j < L.length
    · rw [if_pos g] at hs
      obtain ⟨h1, h2, h3, h4⟩ := hL.2 j s hs
      refine ⟨?_, ?_, ?_, ?_⟩
      · rw [gi_pi, if_neg (by omega), gi_pl, gi_pi, if_neg (by omega), gi_pi, if_neg (by omega), gi_pi, if_neg (by omega)]; exact h1
      · rw [gi_pi, if_neg (by omega), gi_pl, gi_pi, if_neg (by omega), gi_pi, if_neg (by omega), gi_pi, if_neg (by omega)]; exact h2
      · rw [gi_pi, if_neg (by omega), gi_pl, gi_pi, if_neg (by omega), gi_pi, if_neg (by omega), gi_pi, if_neg (by omega)]; exact h3
      · rw [gl_pi, gl_pl, if_neg (by omega), gl_pi, gl_pi, gl_pi]; exact h4
    · rw [if_neg g] at hs
      by_cases g2 : j - L.length = 0
      · have : j = L.length := by omega
        subst this
        rw [g2] at hs
        have hs : some (n, u, v, w) = some s := hs
        cases hs
        refine ⟨?_, ?_, ?_, ?_⟩
        · rw [gi_pi, if_neg (by omega), gi_pl, gi_pi, if_neg (by omega), gi_pi, if_neg (by omega), gi_pi, if_pos ⟨rfl, rfl⟩]
        · rw [gi_pi, if_neg (by omega), gi_pl, gi_pi, if_neg (by omega), gi_pi, if_pos ⟨rfl, rfl⟩]
        · rw [gi_pi, if_neg (by omega), gi_pl, gi_pi, if_pos ⟨rfl, rfl⟩]
        · rw [gl_pi, gl_pl, if_pos ⟨rfl, rfl⟩]
      · rw [List.getElem?_eq_none (by show 1 ≤ _; omega)] at hs
        cases hs
theorem s11_step {n u v : Int32} {w : Int64} (hL : lsM b M L) (hlen : L.length < 1200) (hs : xm_gi M (b + 154) 19 = xz st) (hS : xm_st b c p M) (h : PlL b c p Q M st L [(n, u, v, w)]) : xm_C l E y11_step rm11_step [.ref (b + 154), .int n, .int u, .int v, .long w] M Q := by
  have i0 : vp_in (Int32.ofNat L.length) 1200 := xn_in hlen (by decide)
  have h14 := hL.1
  have put : ∀ (P : Prop), (!st || isB w) = true → (∀ M1, smL b M M1 → lsM b M1 (L ++ [(n, u, v, w)]) → xm_st b c p M1 → Q none M1) := fun _ g M1 s1 l1 hS => by
    refine h M1 s1 ?_ hS
    rw [show apL st L [(n, u, v, w)] = L ++ [(n, u, v, w)] from congrArg (L ++ ·) (List.filter_cons_of_pos g)]
    exact l1
  refine xm_enter (by decide) (Nat.le_of_ble_eq_true rfl) (t11_step_0 M n u v w hS ?_)
  rw [hs, h14, xn_c (by omega)]
  have body : (!st || isB w) = true → (∀ M2 : xm_M, M2 = (xm_pi M (b + 162) L.length n) → (vp_in (xm_gi M2 (b + 154) 14) 1200 ∧ (∀ M5 : xm_M, M5 = (xm_pi M2 (b + 163) (Int32.toNatClampNeg (xm_gi M2 (b + 154) 14)) u) → (vp_in (xm_gi M5 (b + 154) 14) 1200 ∧ (∀ M8 : xm_M, M8 = (xm_pi M5 (b + 164) (Int32.toNatClampNeg (xm_gi M5 (b + 154) 14)) v) → (vp_in (xm_gi M8 (b + 154) 14) 1200 ∧ (∀ M11 : xm_M, M11 = (xm_pl M8 (b + 165) (Int32.toNatClampNeg (xm_gi M8 (b + 154) 14)) w) → (∀ M13 : xm_M, M13 = (xm_pi M11 (b + 154) 14 ((xm_gi M11 (b + 154) 14) + (1 : Int32))) → (xm_st b c p M13 → Q none M13))))))))) := by
    intro g M2 e2
    have f2 : xm_gi M2 (b + 154) 14 = Int32.ofNat L.length := by rw [e2, gi_pi, if_neg (by omega)]; exact h14
    rw [f2, xn_c (by omega)]
    refine ⟨i0, fun M5 e5 => ?_⟩
    have f5 : xm_gi M5 (b + 154) 14 = Int32.ofNat L.length := by rw [e5, gi_pi, if_neg (by omega)]; exact f2
    rw [f5, xn_c (by omega)]
    refine ⟨i0, fun M8 e8 => ?_⟩
    have f8 : xm_gi M8 (b + 154) 14 = Int32.ofNat L.length := by rw [e8, gi_pi, if_neg (by omega)]; exact f5
    rw [f8, xn_c (by omega)]
    refine ⟨i0, fun M11 e11 M13 e13 hS => ?_⟩
    have f11 : xm_gi M11 (b + 154) 14 = Int32.ofNat L.length := by rw [e11, gi_pl]; exact f8
    rw [f11, show Int32.ofNat L.length + (1 : Int32) = Int32.ofNat (L.length + 1) from ix1 _] at e13
    have := lsM_put (n := n) (u := u) (v := v) (w := w) (M1 := M13) hL hlen (by rw [e13, e11, e8, e5, e2])
    exact put True g M13 this.1 this.2 hS
  refine ⟨fun g => ⟨i0, body (by rw [xz_0.mp g]; rfl)⟩, fun g => ?_⟩
  refine s11_isInt hS (fun hS => ⟨_, rfl, hS, fun g2 => ?_, fun g2 hS => ?_⟩)
  · rw [h14, xn_c (by omega)]
    have g2 : isB w = true := xz_ne g2
    exact ⟨i0, body (by rw [g2, Bool.or_true])⟩
  · have g2 : isB w = false := xz_0.mp g2
    refine h M smL.rf ?_ hS
    rw [show apL st L [(n, u, v, w)] = L from ?_]
    · exact hL
    · have : ([(n, u, v, w)] : List NsT).filter (fun s => !st || isB s.2.2.2) = [] := List.filter_cons_of_neg (by show ¬ (!st || isB w) = true; rw [xz_ne g, g2]; decide)
      show L ++ _ = L
      rw [this, List.append_nil]
theorem s11_both {n u v : Int32} {w x : Int64} (hL : lsM b M L) (hlen : L.length + 2 ≤ 1200) (hs : xm_gi M (b + 154) 19 = xz st) (hS : xm_st b c p M) (h : PlL b c p Q M st L [(n, u, v, w), (n + 1, v, u, x)]) : xm_C l E y11_both rm11_both [.ref (b + 154), .int n, .int u, .int v, .long w, .long x] M Q := by
  refine xm_enter (by decide) (Nat.le_of_ble_eq_true rfl) (t11_both_0 M n u v w x hS (s11_step hL (by omega) hs hS (fun M1 s1 l1 hS => ⟨rfl, hS, ?_⟩)))
  have hlen1 := apL_len (st := st) (L := L) (A := [(n, u, v, w)])
  have hlen1 : (apL st L [(n, u, v, w)]).length ≤ L.length + 1 := hlen1
  refine s11_step l1 (by omega) (by rw [s1.1 _ _ (by omega)]; exact hs) hS (pl_on (fun M2 s2 l2 hS => h M2 (s1.tr s2) ?_ hS))
  rw [apL_app] at l2; exact l2
theorem s11_changes {i : Nat} (hi : i < 48) (hS : xm_st b c p M) (h : xm_st b c p M → Q (some (.int (xz (chB (xm_gi M (b + 155) i) (xm_gi M (b + 156) i) (xm_gi M (b + 157) i))))) M) : xm_C l E y11_changes rm11_changes [.ref (b + 154), .int (Int32.ofNat i)] M Q := by
  have ii : vp_in (Int32.ofNat i) 48 := xn_in hi (by decide)
  refine xm_enter (by decide) (Nat.le_of_ble_eq_true rfl) (t11_changes_0 M _ hS ⟨ii, ?_⟩)
  rw [xn_c (by omega)]
  generalize xm_gi M (b + 155) i = o at h ⊢
  generalize xm_gi M (b + 156) i = a at h ⊢
  generalize xm_gi M (b + 157) i = q at h ⊢
  have fin : ∀ t : Bool, chB o a q = t → xm_st b c p M → Q (some (.int (xz t))) M := fun t e => by rw [e] at h; exact h
  have e0 : o < 1 ↔ o ≤ 0 := by
    rw [Int32.lt_iff_toInt_lt, Int32.le_iff_toInt_le, show (1 : Int32).toInt = 1 by decide, show (0 : Int32).toInt = 0 by decide]; omega
  have e1 : 11 < o ↔ 12 ≤ o := by
    rw [Int32.lt_iff_toInt_lt, Int32.le_iff_toInt_le, show (11 : Int32).toInt = 11 by decide, show (12 : Int32).toInt = 12 by decide]; omega
  refine ⟨fun g => fin false ?_, fun g => ⟨ii, fun g2 => fin false ?_, fun g2 => ⟨ii, fun g3 => fin true ?_, fun g3 => ⟨ii, ii, fun g4 => fin false ?_, fun g4 => fin true ?_⟩⟩⟩⟩
  · simp [chB, e0.mpr g]
  · simp [chB, e1.mpr g2]
  · have n0 : ¬ o < 1 := fun q => g (e0.mp q)
    have n1 : ¬ 11 < o := fun q => g2 (e1.mp q)
    simp [chB, g3, n0, n1]
  · simp [chB, g3, g4]
  · subst g3
    simp [chB, g4]
theorem s11_isSum {i : Nat} {u v w x : Int32} {y z : Int64} (hi : i < 48) (hS : xm_st b c p M) (h : xm_st b c p M → Q (some (.int (xz (suO (xm_gi M (b + 156) i) (xm_gi M (b + 157) i) (u, v, y) (w, x, z)).isSome))) M) : xm_C l E y11_isSum rm11_isSum [.ref (b + 154), .int (Int32.ofNat i), .int u, .int v, .int w, .int x] M Q := by
  have ii : vp_in (Int32.ofNat i) 48 := xn_in hi (by decide)
  refine xm_enter (by decide) (Nat.le_of_ble_eq_true rfl) (t11_isSum_0 M _ u v w x hS ⟨ii, ii, ?_⟩)
  rw [xn_c (by omega)]
  unfold suO at h
  generalize (1 : Int32) + xm_gi M (b + 156) i = P at h ⊢
  generalize (1 : Int32) + xm_gi M (b + 157) i = R at h ⊢
  by_cases g : P = R
  · rw [if_pos g] at h
    exact ⟨fun q => absurd g q, fun _ => h⟩
  refine ⟨fun _ => ?_, fun q => absurd q g⟩
  rw [if_neg g] at h
  by_cases h1 : u = P ∧ ¬ v = R ∧ w = R ∧ x = 0
  · rw [if_pos h1] at h
    obtain ⟨g1, g2, g3, g4⟩ := h1
    exact ⟨fun q => absurd g1 q, fun _ => ⟨fun q => absurd q g2, fun _ => ⟨fun q => absurd g3 q, fun _ => ⟨fun _ => h, fun q => absurd g4 q⟩⟩⟩⟩
  · rw [if_neg h1] at h
    have second : ((¬ v = P → (xm_st b c p M → Q (some (.int (0 : Int32))) M)) ∧ (v = P → ((u = R → (xm_st b c p M → Q (some (.int (0 : Int32))) M)) ∧ (¬ u = R → ((¬ w = 0 → (xm_st b c p M → Q (some (.int (0 : Int32))) M)) ∧ (w = 0 → ((¬ x = R → (xm_st b c p M → Q (some (.int (0 : Int32))) M)) ∧ (x = R → (xm_st b c p M → Q (some (.int (1 : Int32))) M))))))))) := by
      by_cases h2 : v = P ∧ ¬ u = R ∧ w = 0 ∧ x = R
      · rw [if_pos h2] at h
        obtain ⟨g1, g2, g3, g4⟩ := h2
        exact ⟨fun q => absurd g1 q, fun _ => ⟨fun q => absurd q g2, fun _ => ⟨fun q => absurd g3 q, fun _ => ⟨fun q => absurd g4 q, fun _ => h⟩⟩⟩⟩
      · rw [if_neg h2] at h
        exact ⟨fun _ => h, fun g1 => ⟨fun _ => h, fun g2 => ⟨fun _ => h, fun g3 => ⟨fun _ => h, fun g4 => absurd ⟨g1, g2, g3, g4⟩ h2⟩⟩⟩⟩
    exact ⟨fun _ => second, fun g1 => ⟨fun _ => second, fun g2 => ⟨fun _ => second, fun g3 => ⟨fun g4 => absurd ⟨g1, g2, g3, g4⟩ h1, fun _ => second⟩⟩⟩⟩
theorem suO_eq {a q : Int32} {x y : StT} : suO a q x y = if (suO a q x y).isSome then some (x.1, x.2.1, x.2.2 + y.2.2) else none := by
  unfold suO
  by_cases g : 1 + a = 1 + q
  · rw [if_pos g]; rfl
  · rw [if_neg g]
    by_cases h1 : x.1 = 1 + a ∧ ¬ x.2.1 = 1 + q ∧ y.1 = 1 + q ∧ y.2.1 = 0
    · rw [if_pos h1]
      show some (1 + a, x.2.1, x.2.2 + y.2.2) = some (x.1, x.2.1, x.2.2 + y.2.2)
      rw [h1.1]
    · rw [if_neg h1]
      by_cases h2 : x.2.1 = 1 + a ∧ ¬ x.1 = 1 + q ∧ y.1 = 0 ∧ y.2.1 = 1 + q
      · rw [if_pos h2]
        show some (x.1, 1 + a, x.2.2 + y.2.2) = some (x.1, x.2.1, x.2.2 + y.2.2)
        rw [h2.1]
      · rw [if_neg h2]; rfl
end LS
