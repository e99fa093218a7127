/-! reads behind writes -/
theorem gi_pi (M : xm_M) (a k x j : Nat) (v : Int32) : xm_gi (xm_pi M a k v) x j = if x = a ∧ j = k then v else xm_gi M x j := rfl
theorem gl_pl (M : xm_M) (a k x j : Nat) (v : Int64) : xm_gl (xm_pl M a k v) x j = if x = a ∧ j = k then v else xm_gl M x j := rfl
theorem gi_pl (M : xm_M) (a k x j : Nat) (v : Int64) : xm_gi (xm_pl M a k v) x j = xm_gi M x j := rfl
theorem gl_pi (M : xm_M) (a k x j : Nat) (v : Int32) : xm_gl (xm_pi M a k v) x j = xm_gl M x j := rfl
/-! what class and reference have in common between two calls: filter, tape, place, packet, result; and the class's own unset bounds -/
def RlF (b : Nat) (M : xm_M) : Prop := ∃ n m : Nat, n ≤ 48 ∧ m ≤ 1024 ∧ xm_gi M (b + 1) 2 = Int32.ofNat n ∧ xm_gi M (b + 154) 1 = Int32.ofNat n ∧ xm_gi M (b + 1) 0 = Int32.ofNat m ∧ xm_gi M (b + 154) 0 = Int32.ofNat m ∧
  (∀ i, i < 48 → xm_gi M (b + 3 + i) 0 = xm_gi M (b + 155) i ∧ xm_gi M (b + 3 + i) 1 = xm_gi M (b + 156) i ∧ xm_gi M (b + 3 + i) 2 = xm_gi M (b + 157) i ∧ xm_gi M (b + 3 + i) 3 = xm_gi M (b + 158) i ∧ xm_gi M (b + 3 + i) 4 = xm_gi M (b + 159) i) ∧
  ∀ i, i < n → ∃ o : Nat, o ≤ 16 ∧ xm_gi M (b + 155) i = Int32.ofNat o
def RlT (b : Nat) (M : xm_M) : Prop := ∃ t : Nat, t ≤ 20000 ∧ xm_gi M (b + 51) 1 = Int32.ofNat t ∧ xm_gi M (b + 154) 8 = Int32.ofNat t ∧ ∀ i, i < t → xm_gi M (b + 52) i = xm_gi M (b + 160) i
def RlW (b : Nat) (M : xm_M) : Prop := xm_gi M (b + 0) 6 = xm_gi M (b + 154) 9
def RlP (b : Nat) (M : xm_M) : Prop := ∃ t : Nat, t ≤ 1024 ∧ xm_gi M (b + 53) 1 = Int32.ofNat t ∧ xm_gi M (b + 154) 11 = Int32.ofNat t ∧ ∀ i, i < t → xm_gi M (b + 54) i = xm_gi M (b + 161) i
def RlR (b : Nat) (M : xm_M) : Prop := xm_gi M (b + 151) 2 = xm_gi M (b + 154) 12 ∧ xm_gi M (b + 151) 3 = xm_gi M (b + 154) 13
def RlD (b : Nat) (M : xm_M) : Prop := ∀ i u, i < 48 → u < 10 → xm_gl M (b + 57 + i) (11 * u) = 4611686018427387904
def Rl (b : Nat) (M : xm_M) : Prop := RlF b M ∧ RlT b M ∧ RlW b M ∧ RlP b M ∧ RlR b M ∧ RlD b M
def arF (b a k : Nat) : Prop := a = b + 1 ∨ (b + 3 ≤ a ∧ a < b + 51) ∨ (a = b + 154 ∧ (k = 0 ∨ k = 1)) ∨ (b + 155 ≤ a ∧ a ≤ b + 159)
def arT (b a k : Nat) : Prop := (a = b + 51 ∧ k = 1) ∨ a = b + 52 ∨ (a = b + 154 ∧ k = 8) ∨ a = b + 160
def arW (b a k : Nat) : Prop := (a = b + 0 ∧ k = 6) ∨ (a = b + 154 ∧ k = 9)
def arP (b a k : Nat) : Prop := (a = b + 53 ∧ k = 1) ∨ a = b + 54 ∨ (a = b + 154 ∧ k = 11) ∨ a = b + 161
def arR (b a k : Nat) : Prop := (a = b + 151 ∧ (k = 2 ∨ k = 3)) ∨ (a = b + 154 ∧ (k = 12 ∨ k = 13))
section RL
variable {b : Nat} {M N : xm_M}
theorem RlF.frame (h : RlF b M) (e : ∀ a k, arF b a k → xm_gi N a k = xm_gi M a k) : RlF b N := by
  obtain ⟨n, m, h1, h2, h3, h4, h5, h6, h7, h8⟩ := h
  refine ⟨n, m, h1, h2, ?_, ?_, ?_, ?_, fun i hi => ?_, fun i hi => ?_⟩
  · rw [e _ _ (by unfold arF; omega)]; exact h3
  · rw [e _ _ (by unfold arF; omega)]; exact h4
  · rw [e _ _ (by unfold arF; omega)]; exact h5
  · rw [e _ _ (by unfold arF; omega)]; exact h6
  · obtain ⟨a1, a2, a3, a4, a5⟩ := h7 i hi
    refine ⟨?_, ?_, ?_, ?_, ?_⟩ <;> rw [e _ _ (by unfold arF; omega), e _ _ (by unfold arF; omega)] <;> assumption
  · obtain ⟨o, o1, o2⟩ := h8 i hi
    exact ⟨o, o1, by rw [e _ _ (by unfold arF; omega)]; exact o2⟩
theorem RlT.frame (h : RlT b M) (e : ∀ a k, arT b a k → xm_gi N a k = xm_gi M a k) : RlT b N := by
  obtain ⟨t, h1, h2, h3, h4⟩ := h
  refine ⟨t, h1, ?_, ?_, fun i hi => ?_⟩
  · rw [e _ _ (by unfold arT; omega)]; exact h2
  · rw [e _ _ (by unfold arT; omega)]; exact h3
  · rw [e _ _ (by unfold arT; omega), e _ _ (by unfold arT; omega)]; exact h4 i hi
theorem RlW.frame (h : RlW b M) (e : ∀ a k, arW b a k → xm_gi N a k = xm_gi M a k) : RlW b N := by
  unfold RlW
  rw [e _ _ (by unfold arW; omega), e _ _ (by unfold arW; omega)]; exact h
theorem RlP.frame (h : RlP b M) (e : ∀ a k, arP b a k → xm_gi N a k = xm_gi M a k) : RlP b N := by
  obtain ⟨t, h1, h2, h3, h4⟩ := h
  refine ⟨t, h1, ?_, ?_, fun i hi => ?_⟩
  · rw [e _ _ (by unfold arP; omega)]; exact h2
  · rw [e _ _ (by unfold arP; omega)]; exact h3
  · rw [e _ _ (by unfold arP; omega), e _ _ (by unfold arP; omega)]; exact h4 i hi
theorem RlR.frame (h : RlR b M) (e : ∀ a k, arR b a k → xm_gi N a k = xm_gi M a k) : RlR b N := by
  unfold RlR
  rw [e _ _ (by unfold arR; omega), e _ _ (by unfold arR; omega), e _ _ (by unfold arR; omega), e _ _ (by unfold arR; omega)]; exact h
theorem RlD.frame (h : RlD b M) (e : ∀ i u, i < 48 → u < 10 → xm_gl N (b + 57 + i) (11 * u) = xm_gl M (b + 57 + i) (11 * u)) : RlD b N := fun i u hi hu => (e i u hi hu).trans (h i u hi hu)
/-- only ints at places of S may differ -/
def smI (S : Nat → Nat → Prop) (M N : xm_M) : Prop := (∀ a k, ¬ S a k → xm_gi N a k = xm_gi M a k) ∧ ∀ a k, xm_gl N a k = xm_gl M a k
theorem smI.pi {S : Nat → Nat → Prop} {M N : xm_M} {a k : Nat} {v : Int32} (h : smI S M N) (hs : S a k) : smI S M (xm_pi N a k v) := ⟨fun x j hx => (if_neg (fun c => hx (by rw [c.1, c.2]; exact hs))).trans (h.1 x j hx), h.2⟩
theorem smI.rf {S : Nat → Nat → Prop} {M : xm_M} : smI S M M := ⟨fun _ _ _ => rfl, fun _ _ => rfl⟩
end RL
theorem xz_0 {t : Bool} : xz t = 0 ↔ t = false := by cases t <;> decide
