/-! steps, as both make them -/
abbrev StT : Type := Int32 × Int32 × Int64
def chB (o a q : Int32) : Bool := !(decide (o = 2) && decide (a = q)) && (!decide (o < 1) && !decide (11 < o))
def prO (n u v : Int32) (c d : Int64) : Option StT := if n = 0 then some (u, v, c) else if n = 1 then some (v, u, d) else none
def begO (n least : Int32) : Option StT :=
  if n < 0 then none else if n < 18 then
    (if 2 ≤ n then
      (if 16 ≤ n then (if n = 16 then some (0, 9, -(Int32.toInt64 least)) else some (9, 0, 1024))
       else prO (n - n / 2 * 2) (if (n - 2) / 2 = 0 then 1 + 0 else 1 + ((n - 2) / 2 + 1)) 0 0 0)
     else prO n 2 9 0 0)
  else none
def caO (o a q k : Int32) (s : StT) : Option StT :=
  if (s.1 = 1 + a ∨ s.2.1 = 1 + a) ∧ chB o a q = true then
    (if o = 3 then some (s.1, s.2.1, s.2.2 + (if s.1 = 1 + a then Int32.toInt64 k else -(Int32.toInt64 k)))
     else if o = 5 ∧ ¬ a = q then
      (if s.1 = 1 + a ∧ s.2.1 = 1 + q then some (s.1, 0, s.2.2) else if s.1 = 1 + q ∧ s.2.1 = 1 + a then some (0, s.2.1, s.2.2) else none)
     else none)
  else some s
def suO (a q : Int32) (x y : StT) : Option StT :=
  if 1 + a = 1 + q then none
  else if x.1 = 1 + a ∧ ¬ x.2.1 = 1 + q ∧ y.1 = 1 + q ∧ y.2.1 = 0 then some (1 + a, x.2.1, x.2.2 + y.2.2)
  else if x.2.1 = 1 + a ∧ ¬ x.1 = 1 + q ∧ y.1 = 0 ∧ y.2.1 = 1 + q then some (x.1, 1 + a, x.2.2 + y.2.2)
  else none
/-- only the cell a may differ -/
def smS (a : Nat) (M N : xm_M) : Prop := (∀ x k, x ≠ a → xm_gi N x k = xm_gi M x k) ∧ ∀ x k, x ≠ a → xm_gl N x k = xm_gl M x k
theorem smS.rf {a : Nat} {M : xm_M} : smS a M M := ⟨fun _ _ _ => rfl, fun _ _ _ => rfl⟩
theorem smS.pi {a k : Nat} {M N : xm_M} {v : Int32} (h : smS a M N) : smS a M (xm_pi N a k v) := ⟨fun x j hx => (if_neg (fun q => hx q.1)).trans (h.1 x j hx), h.2⟩
theorem smS.pl {a k : Nat} {M N : xm_M} {v : Int64} (h : smS a M N) : smS a M (xm_pl N a k v) := ⟨h.1, fun x j hx => (if_neg (fun q => hx q.1)).trans (h.2 x j hx)⟩
def stAt (M : xm_M) (a : Nat) : StT := (xm_gi M a 0, xm_gi M a 1, xm_gl M a 2)
def PfS (b : Nat) (c p : Bool) (Q : Option Value → xm_M → Prop) (M : xm_M) (a : Nat) (o : Option StT) : Prop := ∀ M1, smS a M M1 → (∀ s, o = some s → stAt M1 a = s) → xm_st b c p M1 → Q (some (.int (xz o.isSome))) M1
section SP
variable {l : Launch} {E : xm_E} {b : Nat} {c p : Bool} {Q : Option Value → xm_M → Prop} {M : xm_M} {a0 a1 : Nat}
theorem s7_become {v1 v2 : Int32} {w : Int64} (ha : xS b a0 = some (.inr 7)) (hS : xm_st b c p M) (h : PfS b c p Q M a0 (some (v1, v2, w))) : xm_C l E y7_become rm7_become [.ref a0, .int v1, .int v2, .long w] M Q :=
  xm_enter (by decide) (Nat.le_of_ble_eq_true rfl) (t7_become_0 M a0 v1 v2 w ha hS (fun hS => h _ (smS.rf.pi.pi.pl) (fun s e => by
    cases e
    unfold stAt
    rw [gi_pl, gi_pl, gl_pl, if_pos ⟨rfl, rfl⟩, gi_pi, if_neg (by omega), gi_pi, if_pos ⟨rfl, rfl⟩, gi_pi, if_pos ⟨rfl, rfl⟩]) hS))
/-- a call that makes a step, its answer handed on -/
theorem pf_on {o : Option StT} (h : PfS b c p Q M a0 o) : PfS b c p (fun r M1 => ∃ r2 : Bool, r = some (.int (xz r2)) ∧ xm_st b c p M1 ∧ (xm_st b c p M1 → Q (some (.int (xz r2))) M1)) M a0 o := fun M1 s1 e1 hS => ⟨_, rfl, hS, fun hS => h M1 s1 e1 hS⟩
theorem s7_becomePair {n u v : Int32} {w x : Int64} (ha : xS b a0 = some (.inr 7)) (hS : xm_st b c p M) (h : PfS b c p Q M a0 (prO n u v w x)) : xm_C l E y7_becomePair rm7_becomePair [.ref a0, .int n, .int u, .int v, .long w, .long x] M Q := by
  have rd : ∀ (v1 v2 : Int32) (w : Int64), stAt (xm_pl (xm_pi (xm_pi M a0 0 v1) a0 1 v2) a0 2 w) a0 = (v1, v2, w) := fun v1 v2 w => by
    unfold stAt
    rw [gi_pl, gi_pl, gl_pl, if_pos ⟨rfl, rfl⟩, gi_pi, if_neg (by omega), gi_pi, if_pos ⟨rfl, rfl⟩, gi_pi, if_pos ⟨rfl, rfl⟩]
  refine xm_enter (by decide) (Nat.le_of_ble_eq_true rfl) (t7_becomePair_0 M a0 n u v w x ha hS ⟨fun g => ⟨fun g2 hS => ?_, fun g2 hS => ?_⟩, fun g hS => ?_⟩)
  · have e : prO n u v w x = none := by unfold prO; rw [if_neg g, if_neg g2]
    rw [e] at h
    exact h _ (smS.rf.pi.pi.pl) (fun s e => by cases e) hS
  · have e : prO n u v w x = some (v, u, x) := by unfold prO; rw [if_neg g, if_pos g2]
    rw [e] at h
    exact h _ (smS.rf.pi.pi.pl) (fun s e => by cases e; exact rd _ _ _) hS
  · have e : prO n u v w x = some (u, v, w) := by unfold prO; rw [if_pos g]
    rw [e] at h
    exact h _ (smS.rf.pi.pi.pl) (fun s e => by cases e; exact rd _ _ _) hS
theorem s7_becomeBeginning {n least : Int32} (ha : xS b a0 = some (.inr 7)) (hS : xm_st b c p M) (h : PfS b c p Q M a0 (begO n least)) : xm_C l E y7_becomeBeginning rm7_becomeBeginning [.ref a0, .int n, .int least] M Q := by
  have no : begO n least = none → xm_st b c p M → Q (some (.int 0)) M := fun e hS => by rw [e] at h; exact h M smS.rf (fun s e => by cases e) hS
  refine xm_enter (by decide) (Nat.le_of_ble_eq_true rfl) (t7_becomeBeginning_0 M a0 n least ha hS ⟨fun g => no (by unfold begO; rw [if_pos g]), fun g => ⟨fun g2 => ⟨fun g3 => ⟨fun g4 => ⟨fun g5 => s7_become ha hS (pf_on ?_), fun g5 => s7_become ha hS (pf_on ?_)⟩, fun g4 => ⟨fun g5 => s7_becomePair ha hS (pf_on ?_), fun g5 => s7_becomePair ha hS (pf_on ?_)⟩⟩, fun g3 => s7_becomePair ha hS (pf_on ?_)⟩, fun g2 => no (by unfold begO; rw [if_neg g, if_neg g2])⟩⟩)
  · unfold begO at h; rw [if_neg g, if_pos g2, if_pos g3, if_pos g4, if_neg g5] at h; exact h
  · unfold begO at h; rw [if_neg g, if_pos g2, if_pos g3, if_pos g4, if_pos g5] at h; exact h
  · unfold begO at h; rw [if_neg g, if_pos g2, if_pos g3, if_neg g4, if_neg g5] at h; exact h
  · unfold begO at h; rw [if_neg g, if_pos g2, if_pos g3, if_neg g4, if_pos g5] at h; exact h
  · unfold begO at h; rw [if_neg g, if_pos g2, if_neg g3] at h; exact h
theorem s2_changesRegister (ha : xS b a1 = some (.inr 2)) (hS : xm_st b c p M) (h : xm_st b c p M → Q (some (.int (xz (chB (xm_gi M a1 0) (xm_gi M a1 1) (xm_gi M a1 2))))) M) : xm_C l E y2_changesRegister rm2_changesRegister [.ref a1] M Q := by
  have fin : ∀ t : Bool, chB (xm_gi M a1 0) (xm_gi M a1 1) (xm_gi M a1 2) = t → xm_st b c p M → Q (some (.int (xz t))) M := fun t e => by rw [e] at h; exact h
  refine xm_enter (by decide) (Nat.le_of_ble_eq_true rfl) (t2_changesRegister_0 M a1 ha hS ⟨fun g => ⟨fun g2 => fin false ?_, fun g2 => ⟨fun g3 => fin false ?_, fun g3 => fin true ?_⟩⟩, fun g => ⟨fun g1 => ⟨fun g2 => fin false ?_, fun g2 => ⟨fun g3 => fin false ?_, fun g3 => fin true ?_⟩⟩, fun g1 => fin false ?_⟩⟩)
  · unfold chB; simp [g, g2]
  · unfold chB; simp [g, g3]
  · unfold chB; simp [g, g2, g3]
  · rw [g] at g2; exact absurd g2 (by decide)
  · rw [g] at g3; exact absurd g3 (by decide)
  · unfold chB; simp [g1, g2, g3]
  · unfold chB; simp [g, g1]
theorem s7_carryOver (ha0 : xS b a0 = some (.inr 7)) (ha1 : xS b a1 = some (.inr 2)) (hS : xm_st b c p M) (h : PfS b c p Q M a0 (caO (xm_gi M a1 0) (xm_gi M a1 1) (xm_gi M a1 2) (xm_gi M a1 3) (stAt M a0))) : xm_C l E y7_carryOver rm7_carryOver [.ref a0, .ref a1] M Q := by
  have no : caO (xm_gi M a1 0) (xm_gi M a1 1) (xm_gi M a1 2) (xm_gi M a1 3) (stAt M a0) = none → xm_st b c p M → Q (some (.int 0)) M := fun e hS => by rw [e] at h; exact h M smS.rf (fun s e => by cases e) hS
  have ye : caO (xm_gi M a1 0) (xm_gi M a1 1) (xm_gi M a1 2) (xm_gi M a1 3) (stAt M a0) = some (stAt M a0) → xm_st b c p M → Q (some (.int 1)) M := fun e hS => by rw [e] at h; exact h M smS.rf (fun s e => by cases e; rfl) hS
  have yf : caO (xm_gi M a1 0) (xm_gi M a1 1) (xm_gi M a1 2) (xm_gi M a1 3) (stAt M a0) = some (0, xm_gi M a0 1, xm_gl M a0 2) → xm_st b c p (xm_pi M a0 0 0) → Q (some (.int 1)) (xm_pi M a0 0 0) := fun e hS => by
    rw [e] at h; exact h _ smS.rf.pi (fun s e => by cases e; unfold stAt; rw [gi_pi, if_pos ⟨rfl, rfl⟩, gi_pi, if_neg (by omega)]; rfl) hS
  have yt : caO (xm_gi M a1 0) (xm_gi M a1 1) (xm_gi M a1 2) (xm_gi M a1 3) (stAt M a0) = some (xm_gi M a0 0, 0, xm_gl M a0 2) → xm_st b c p (xm_pi M a0 1 0) → Q (some (.int 1)) (xm_pi M a0 1 0) := fun e hS => by
    rw [e] at h; exact h _ smS.rf.pi (fun s e => by cases e; unfold stAt; rw [gi_pi, if_neg (by omega), gi_pi, if_pos ⟨rfl, rfl⟩]; rfl) hS
  have yc : ∀ w, caO (xm_gi M a1 0) (xm_gi M a1 1) (xm_gi M a1 2) (xm_gi M a1 3) (stAt M a0) = some (xm_gi M a0 0, xm_gi M a0 1, w) → xm_st b c p (xm_pl M a0 2 w) → Q (some (.int 1)) (xm_pl M a0 2 w) := fun w e hS => by
    rw [e] at h; exact h _ smS.rf.pl (fun s e => by cases e; unfold stAt; rw [gi_pl, gi_pl, gl_pl, if_pos ⟨rfl, rfl⟩]) hS
  have core : (xm_gi M a0 0 = (1 : Int32) + xm_gi M a1 1 ∨ xm_gi M a0 1 = (1 : Int32) + xm_gi M a1 1) → chB (xm_gi M a1 0) (xm_gi M a1 1) (xm_gi M a1 2) = true → ((¬ (xm_gi M a1 0) = (3 : Int32) → ((¬ (xm_gi M a1 0) = (5 : Int32) → (xm_st b c p M → Q (some (.int (0 : Int32))) M)) ∧ ((xm_gi M a1 0) = (5 : Int32) → ((¬ (xm_gi M a1 1) = (xm_gi M a1 2) → ((¬ (xm_gi M a0 0) = ((1 : Int32) + (xm_gi M a1 1)) → ((¬ (xm_gi M a0 0) = ((1 : Int32) + (xm_gi M a1 2)) → (xm_st b c p M → Q (some (.int (0 : Int32))) M)) ∧ ((xm_gi M a0 0) = ((1 : Int32) + (xm_gi M a1 2)) → ((¬ (xm_gi M a0 1) = ((1 : Int32) + (xm_gi M a1 1)) → (xm_st b c p M → Q (some (.int (0 : Int32))) M)) ∧ ((xm_gi M a0 1) = ((1 : Int32) + (xm_gi M a1 1)) → (xm_st b c p (xm_pi M a0 0 (0 : Int32)) → Q (some (.int (1 : Int32))) (xm_pi M a0 0 (0 : Int32)))))))) ∧ ((xm_gi M a0 0) = ((1 : Int32) + (xm_gi M a1 1)) → ((¬ (xm_gi M a0 1) = ((1 : Int32) + (xm_gi M a1 2)) → ((¬ (xm_gi M a0 0) = ((1 : Int32) + (xm_gi M a1 2)) → (xm_st b c p M → Q (some (.int (0 : Int32))) M)) ∧ ((xm_gi M a0 0) = ((1 : Int32) + (xm_gi M a1 2)) → ((¬ (xm_gi M a0 1) = ((1 : Int32) + (xm_gi M a1 1)) → (xm_st b c p M → Q (some (.int (0 : Int32))) M)) ∧ ((xm_gi M a0 1) = ((1 : Int32) + (xm_gi M a1 1)) → (xm_st b c p (xm_pi M a0 0 (0 : Int32)) → Q (some (.int (1 : Int32))) (xm_pi M a0 0 (0 : Int32)))))))) ∧ ((xm_gi M a0 1) = ((1 : Int32) + (xm_gi M a1 2)) → (xm_st b c p (xm_pi M a0 1 (0 : Int32)) → Q (some (.int (1 : Int32))) (xm_pi M a0 1 (0 : Int32)))))))) ∧ ((xm_gi M a1 1) = (xm_gi M a1 2) → (xm_st b c p M → Q (some (.int (0 : Int32))) M)))))) ∧ ((xm_gi M a1 0) = (3 : Int32) → ((¬ (xm_gi M a0 0) = ((1 : Int32) + (xm_gi M a1 1)) → (xm_st b c p (xm_pl M a0 2 ((xm_gl M a0 2) + (-(Int32.toInt64 (xm_gi M a1 3))))) → Q (some (.int (1 : Int32))) (xm_pl M a0 2 ((xm_gl M a0 2) + (-(Int32.toInt64 (xm_gi M a1 3))))))) ∧ ((xm_gi M a0 0) = ((1 : Int32) + (xm_gi M a1 1)) → (xm_st b c p (xm_pl M a0 2 ((xm_gl M a0 2) + (Int32.toInt64 (xm_gi M a1 3)))) → Q (some (.int (1 : Int32))) (xm_pl M a0 2 ((xm_gl M a0 2) + (Int32.toInt64 (xm_gi M a1 3))))))))) := by
    intro hA gc
    have e1 : caO (xm_gi M a1 0) (xm_gi M a1 1) (xm_gi M a1 2) (xm_gi M a1 3) (stAt M a0) = (if xm_gi M a1 0 = 3 then some (xm_gi M a0 0, xm_gi M a0 1, xm_gl M a0 2 + (if xm_gi M a0 0 = 1 + xm_gi M a1 1 then Int32.toInt64 (xm_gi M a1 3) else -(Int32.toInt64 (xm_gi M a1 3)))) else if xm_gi M a1 0 = 5 ∧ ¬ xm_gi M a1 1 = xm_gi M a1 2 then (if xm_gi M a0 0 = 1 + xm_gi M a1 1 ∧ xm_gi M a0 1 = 1 + xm_gi M a1 2 then some (xm_gi M a0 0, 0, xm_gl M a0 2) else if xm_gi M a0 0 = 1 + xm_gi M a1 2 ∧ xm_gi M a0 1 = 1 + xm_gi M a1 1 then some (0, xm_gi M a0 1, xm_gl M a0 2) else none) else none) := if_pos ⟨hA, gc⟩
    refine ⟨fun g3 => ⟨fun g5 => no (by rw [e1, if_neg g3, if_neg (fun q => g5 q.1)]), fun g5 => ⟨fun g6 => ⟨fun gF => ⟨fun gG => no (by rw [e1, if_neg g3, if_pos ⟨g5, g6⟩, if_neg (fun q => gF q.1), if_neg (fun q => gG q.1)]), fun gG => ⟨fun gH => no (by rw [e1, if_neg g3, if_pos ⟨g5, g6⟩, if_neg (fun q => gF q.1), if_neg (fun q => gH q.2)]), fun gH => yf (by rw [e1, if_neg g3, if_pos ⟨g5, g6⟩, if_neg (fun q => gF q.1), if_pos ⟨gG, gH⟩])⟩⟩, fun gF => ⟨fun gK => ⟨fun gG => no (by rw [e1, if_neg g3, if_pos ⟨g5, g6⟩, if_neg (fun q => gK q.2), if_neg (fun q => gG q.1)]), fun gG => ⟨fun gH => no (by rw [e1, if_neg g3, if_pos ⟨g5, g6⟩, if_neg (fun q => gK q.2), if_neg (fun q => gH q.2)]), fun gH => yf (by rw [e1, if_neg g3, if_pos ⟨g5, g6⟩, if_neg (fun q => gK q.2), if_pos ⟨gG, gH⟩])⟩⟩, fun gK => yt (by rw [e1, if_neg g3, if_pos ⟨g5, g6⟩, if_pos ⟨gF, gK⟩])⟩⟩, fun g6 => no (by rw [e1, if_neg g3, if_neg (fun q => q.2 g6)])⟩⟩, fun g3 => ⟨fun gF => yc _ (by rw [e1, if_pos g3, if_neg gF]), fun gF => yc _ (by rw [e1, if_pos g3, if_pos gF])⟩⟩
  refine xm_enter (by decide) (Nat.le_of_ble_eq_true rfl) (t7_carryOver_0 M a0 a1 ha0 ha1 hS ⟨fun g => s2_changesRegister ha1 hS (fun hS => ⟨_, rfl, hS, fun gc => core (Or.inl g) (xz_ne gc), fun gc => ye ?_⟩), fun g => ⟨fun g2 => ye ?_, fun g2 => s2_changesRegister ha1 hS (fun hS => ⟨_, rfl, hS, fun gc => core (Or.inr g2) (xz_ne gc), fun gc => ye ?_⟩)⟩⟩)
  · exact if_neg (fun q => by rw [xz_0.mp gc] at q; exact absurd q.2 (by decide))
  · exact if_neg (fun q => q.1.elim g g2)
  · exact if_neg (fun q => by rw [xz_0.mp gc] at q; exact absurd q.2 (by decide))
end SP
