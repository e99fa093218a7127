def fuL (o a q k : Int32) (jump : Bool) (n : Int32) : List NsT := onL n (fuO o a q k jump 0) ++ onL (n + 1) (fuO o a q k jump 1)
theorem fuL_len {o a q k n : Int32} {jump : Bool} : (fuL o a q k jump n).length ≤ 2 := by
  unfold fuL
  rw [List.length_append]
  have h1 := onL_len (n := n) (o := fuO o a q k jump 0)
  have h2 := onL_len (n := n + 1) (o := fuO o a q k jump 1)
  omega
section KP
variable {l : Launch} {E : xm_E} {b : Nat} {c p : Bool} {Q : Option Value → xm_M → Prop} {M : xm_M} {st : Bool} {L : List NsT}
theorem s11_keep {i : Nat} {n u v : Int32} {w : Int64} (hi : i < 48) (hL : lsM b M L) (hlen : L.length < 1200) (hs : xm_gi M (b + 154) 19 = xz st) (hS : xm_st b c p M) (h : PlL b c p Q M st L (onL n (caO (xm_gi M (b + 155) i) (xm_gi M (b + 156) i) (xm_gi M (b + 157) i) (xm_gi M (b + 158) i) (u, v, w)))) : xm_C l E y11_keep rm11_keep [.ref (b + 154), .int (Int32.ofNat i), .int n, .int u, .int v, .long w] M Q := by
  have ii : vp_in (Int32.ofNat i) 48 := xn_in hi (by decide)
  refine xm_enter (by decide) (Nat.le_of_ble_eq_true rfl) (t11_keep_0 M _ n u v w hS ⟨ii, s11_changes hi hS (fun hS => ⟨_, rfl, hS, ?_⟩)⟩)
  rw [xn_c (by omega)]
  generalize ho : xm_gi M (b + 155) i = o at h ⊢
  generalize ha : xm_gi M (b + 156) i = a at h ⊢
  generalize hq : xm_gi M (b + 157) i = q at h ⊢
  generalize hk : xm_gi M (b + 158) i = k at h ⊢
  have ex : ∀ r, caO o a q k (u, v, w) = r → PlL b c p Q M st L (onL n r) := fun r e => by rw [← e]; exact h
  have no : caO o a q k (u, v, w) = none → xm_st b c p M → Q none M := fun e => pl_no hL (ex none e)
  have ye : ∀ s : StT, caO o a q k (u, v, w) = some s → xm_C l E y11_step rm11_step [.ref (b + 154), .int n, .int s.1, .int s.2.1, .long s.2.2] M (fun r M1 => r = none ∧ xm_st b c p M1 ∧ (xm_st b c p M1 → Q none M1)) := fun s e => s11_step hL hlen hs hS (pl_on (ex (some s) e))
  refine ⟨fun g => ye (u, v, w) (if_neg (fun z => by rw [xz_0.mp g] at z; exact absurd z.2 (by decide))), fun g => ?_⟩
  have g := xz_ne g
  refine ⟨fun g1 => ⟨ii, fun g3 => ⟨ii, fun g5 => no ?_, fun g5 => ⟨ii, ii, fun g6 => no ?_, fun g6 => ⟨fun z => absurd g1 z, fun _ => ⟨ii, fun g7 => no ?_, fun g7 => ⟨fun z => absurd g1 z, fun _ => ⟨fun z => absurd g1 z, fun _ => ye (1 + a, 0, w) ?_⟩⟩⟩⟩⟩⟩, fun g3 => ⟨fun z => absurd g1 z, fun _ => ⟨ii, ye (u, v, w + Int32.toInt64 k) ?_⟩⟩⟩, fun g1 => ⟨fun g2 => ⟨ii, fun g3 => ⟨ii, fun g5 => no ?_, fun g5 => ⟨ii, ii, fun g6 => no ?_, fun g6 => ⟨fun _ => ⟨ii, fun g7 => no ?_, fun g7 => ⟨fun _ => ⟨fun _ => ye (0, 1 + a, w) ?_, fun z => absurd z g1⟩, fun z => absurd z g1⟩⟩, fun z => absurd z g1⟩⟩⟩, fun g3 => ⟨fun _ => ⟨ii, ye (u, v, w - Int32.toInt64 k) ?_⟩, fun z => absurd z g1⟩⟩, fun g2 => ye (u, v, w) ?_⟩⟩
  · exact (if_pos ⟨Or.inl g1, g⟩).trans ((if_neg g3).trans (if_neg (fun z => g5 z.1)))
  · exact (if_pos ⟨Or.inl g1, g⟩).trans ((if_neg g3).trans (if_neg (fun z => z.2 g6)))
  · exact (if_pos ⟨Or.inl g1, g⟩).trans ((if_neg g3).trans ((if_pos ⟨g5, g6⟩).trans ((if_neg (fun z => g7 z.2)).trans (if_neg (fun z => g6 (by
      have := g1.symm.trans z.1
      exact (Int32.add_right_inj (1 : Int32)).mp this))))))
  · refine (if_pos ⟨Or.inl g1, g⟩).trans ((if_neg g3).trans ((if_pos ⟨g5, g6⟩).trans ((if_pos ⟨g1, g7⟩).trans ?_)))
    show some (u, 0, w) = some (1 + a, 0, w)
    rw [g1]
  · refine (if_pos ⟨Or.inl g1, g⟩).trans ((if_pos g3).trans ?_)
    show some (u, v, w + (if u = 1 + a then Int32.toInt64 k else -(Int32.toInt64 k))) = _
    rw [if_pos g1]
  · exact (if_pos ⟨Or.inr g2, g⟩).trans ((if_neg g3).trans (if_neg (fun z => g5 z.1)))
  · exact (if_pos ⟨Or.inr g2, g⟩).trans ((if_neg g3).trans (if_neg (fun z => z.2 g6)))
  · exact (if_pos ⟨Or.inr g2, g⟩).trans ((if_neg g3).trans ((if_pos ⟨g5, g6⟩).trans ((if_neg (fun z => g1 z.1)).trans (if_neg (fun z => g7 z.1)))))
  · refine (if_pos ⟨Or.inr g2, g⟩).trans ((if_neg g3).trans ((if_pos ⟨g5, g6⟩).trans ((if_neg (fun z => g1 z.1)).trans ((if_pos ⟨g7, g2⟩).trans ?_))))
    show some (0, v, w) = some (0, 1 + a, w)
    rw [g2]
  · refine (if_pos ⟨Or.inr g2, g⟩).trans ((if_pos g3).trans ?_)
    show some (u, v, w + (if u = 1 + a then Int32.toInt64 k else -(Int32.toInt64 k))) = _
    rw [if_neg g1, Int64.sub_eq_add_neg]
  · exact if_neg (fun z => z.1.elim g1 g2)
theorem s11_further {i : Nat} {n : Int32} {j : Bool} (hi : i < 48) (hL : lsM b M L) (hlen : L.length + 2 ≤ 1200) (hs : xm_gi M (b + 154) 19 = xz st) (hS : xm_st b c p M) (h : PlL b c p Q M st L (fuL (xm_gi M (b + 155) i) (xm_gi M (b + 156) i) (xm_gi M (b + 157) i) (xm_gi M (b + 158) i) j n)) : xm_C l E y11_further rm11_further [.ref (b + 154), .int (Int32.ofNat i), .int (xz j), .int n] M Q := by
  have ii : vp_in (Int32.ofNat i) 48 := xn_in hi (by decide)
  refine xm_enter (by decide) (Nat.le_of_ble_eq_true rfl) (t11_further_0 M _ _ n hS ⟨ii, ii, ii, ii, ?_⟩)
  rw [xn_c (by omega)]
  generalize xm_gi M (b + 155) i = o at h ⊢
  generalize xm_gi M (b + 156) i = a at h ⊢
  generalize xm_gi M (b + 157) i = q at h ⊢
  generalize xm_gi M (b + 158) i = k at h ⊢
  have no : fuL o a q k j n = [] → xm_st b c p M → Q none M := fun e => pl_no hL (e ▸ h)
  have on1 : ∀ s : StT, fuL o a q k j n = [(n, s)] → xm_C l E y11_step rm11_step [.ref (b + 154), .int n, .int s.1, .int s.2.1, .long s.2.2] M (fun r M1 => r = none ∧ xm_st b c p M1 ∧ (xm_st b c p M1 → Q none M1)) := fun s e => s11_step hL (by omega) hs hS (pl_on (e ▸ h))
  have on2 : ∀ (u v : Int32) (w x : Int64), fuL o a q k j n = [(n, u, v, w), (n + 1, v, u, x)] → xm_C l E y11_both rm11_both [.ref (b + 154), .int n, .int u, .int v, .long w, .long x] M (fun r M1 => r = none ∧ xm_st b c p M1 ∧ (xm_st b c p M1 → Q none M1)) := fun u v w x e => s11_both hL hlen hs hS (pl_on (e ▸ h))
  have pr : ∀ (u v : Int32) (w x : Int64), (∀ m, fuO o a q k j m = prO m u v w x) → fuL o a q k j n = [(n, u, v, w), (n + 1, v, u, x)] := fun u v w x e => by
    unfold fuL; rw [e 0, e 1]; rfl
  have nn : (∀ m, fuO o a q k j m = none) → fuL o a q k j n = [] := fun e => by unfold fuL; rw [e 0, e 1]; rfl
  refine ⟨fun g => on2 _ _ _ _ (pr _ _ _ _ ?_), fun g => ⟨fun g1 => no (nn ?_), fun g1 => on2 _ _ _ _ (pr _ _ _ _ ?_)⟩, fun g => ⟨fun g1 => no (nn ?_), fun g1 => on2 _ _ _ _ (pr _ _ _ _ ?_)⟩, fun g => on2 _ _ _ _ (pr _ _ _ _ ?_), fun g => ⟨ii, on2 _ _ _ _ (pr _ _ _ _ ?_)⟩, fun g => on2 _ _ _ _ (pr _ _ _ _ ?_), fun g => on2 _ _ _ _ (pr _ _ _ _ ?_), fun g => on2 _ _ _ _ (pr _ _ _ _ ?_), fun g => ?_, fun g => ?_, fun g => ?_, fun g => no (nn ?_)⟩
  · intro m; unfold fuO; rw [g]; rfl
  · intro m; unfold fuO; rw [g, if_neg (by decide), if_pos rfl, if_pos g1]
  · intro m; unfold fuO; rw [g, if_neg (by decide), if_pos rfl, if_neg g1]
  · intro m; unfold fuO; rw [g, if_neg (by decide), if_neg (by decide), if_pos rfl, if_neg g1]
  · intro m; unfold fuO; rw [g, if_neg (by decide), if_neg (by decide), if_pos rfl, if_pos g1]
  · intro m; unfold fuO; rw [g]; rfl
  · intro m; unfold fuO; rw [g]; rfl
  · intro m; unfold fuO; rw [g]; rfl
  · intro m; unfold fuO; rw [g]; rfl
  · intro m; unfold fuO; rw [g]; rfl
  · have e : ∀ m, fuO o a q k j m = (if 1 + a = 1 + q then none else if m = 0 then (if j then some (1 + a, 1 + q, -1) else some (1 + q, 1 + a, 0)) else none) := fun m => by unfold fuO; rw [g]; rfl
    cases j with
    | true =>
      have g4 : ¬ 1 + a = 1 + q → fuL o a q k true n = [(n, 1 + a, 1 + q, -1)] := fun g2 => by
        unfold fuL; rw [e 0, e 1, if_neg g2, if_neg g2]; rfl
      exact ⟨fun g1 => ⟨fun _ => no (nn (fun m => by rw [e m, if_pos g1])), fun g2 => absurd g1 g2⟩, fun g1 => ⟨fun _ => ⟨fun z => absurd z g1, fun g2 => ⟨fun z => absurd rfl z, fun _ => on1 _ (g4 g1)⟩⟩, fun z => absurd z (by decide)⟩⟩
    | false =>
      have g4 : ¬ 1 + a = 1 + q → fuL o a q k false n = [(n, 1 + q, 1 + a, 0)] := fun g2 => by
        unfold fuL; rw [e 0, e 1, if_neg g2, if_neg g2]; rfl
      refine ⟨fun g1 => ⟨fun _ => no (nn (fun m => by rw [e m, if_pos g1])), fun g2 => absurd g1 g2⟩, fun g1 => ⟨fun z => absurd rfl z, fun _ => s11_step hL (by omega) hs hS (fun M1 s1 l1 hS => ⟨rfl, hS, fun z => absurd z g1, fun _ => ⟨fun _ hS => ?_, fun z => absurd z (by decide)⟩⟩)⟩⟩
      rw [g4 g1] at h
      exact h M1 s1 l1 hS
  · have e : ∀ m, fuO o a q k j m = (if m = 0 then (if j then some (1 + a, 0, Int32.toInt64 k - 1) else some (0, 1 + a, -(Int32.toInt64 k))) else none) := fun m => by unfold fuO; rw [g]; rfl
    cases j with
    | true => exact ⟨fun _ => on1 (1 + a, 0, Int32.toInt64 k - 1) (by unfold fuL; rw [e 0, e 1]; rfl), fun z => absurd z (by decide)⟩
    | false => exact ⟨fun z => absurd rfl z, fun _ => on1 (0, 1 + a, -(Int32.toInt64 k)) (by unfold fuL; rw [e 0, e 1]; rfl)⟩
  · have e : ∀ m, fuO o a q k j m = (if j then (if 1 + a = 1 + q then none else prO m (1 + a) (1 + q) 0 0) else none) := fun m => by unfold fuO; rw [g]; rfl
    refine ⟨fun g1 => no (nn (fun m => ?_)), fun g1 => ?_⟩
    · rw [e m]; cases j with
      | true => rw [if_pos rfl, if_pos g1]
      | false => rfl
    · cases j with
      | true => exact ⟨fun z => absurd rfl z, fun _ => on2 _ _ _ _ (pr _ _ _ _ (fun m => by rw [e m, if_pos rfl, if_neg g1]))⟩
      | false => exact ⟨fun _ => no (nn (fun m => by rw [e m]; rfl)), fun z => absurd z (by decide)⟩
  · intro m
    obtain ⟨n1, n2, n3, n4, n5, n6, n7, n8, n9, n10, n11⟩ := g
    unfold fuO
    rw [if_neg n1, if_neg n2, if_neg n3, if_neg n4, if_neg n5, if_neg n6, if_neg n7, if_neg n8, if_neg n9, if_neg n10, if_neg n11]
end KP
