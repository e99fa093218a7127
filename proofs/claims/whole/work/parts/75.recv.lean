def bx (w : Int64) (v : Int32) : Int32 := (Int32.toInt8 ((Int32.toInt8 (Int64.toInt32 ((Int64.toUInt64 w >>> ((Int32.toInt64 ((8 : Int32) * v)).toUInt64 &&& Int64.toUInt64 63)).toInt64))).toInt32)).toInt32
def bm (w : Int64) (v : Int32) : Int32 := (Int32.toInt8 ((Int32.toInt8 (Int64.toInt32 (w >>> (Int32.toInt64 ((8 : Int32) * v) &&& 63)))).toInt32)).toInt32
theorem byt_g (w X Y : Int64) (s : Nat) (hs : s ≤ 56) (hX : X.toBitVec = w.toBitVec >>> s) (hY : Y.toBitVec = w.toBitVec.sshiftRight s) : X.toInt32.toInt8 = Y.toInt32.toInt8 := by
  apply Int8.toBitVec_inj.mp
  rw [Int32.toBitVec_toInt8, Int32.toBitVec_toInt8, Int64.toBitVec_toInt32, Int64.toBitVec_toInt32, hX, hY, BitVec.signExtend_eq_setWidth_of_le _ (by decide), BitVec.signExtend_eq_setWidth_of_le _ (by decide), BitVec.signExtend_eq_setWidth_of_le _ (by decide), BitVec.signExtend_eq_setWidth_of_le _ (by decide)]
  exact byt_k w s hs
theorem bx_bm (w : Int64) : ∀ k, k < 8 → bx w (Int32.ofNat k) = bm w (Int32.ofNat k) := by
  intro k hk
  unfold bx bm
  have : ∀ (X Y : Int64), X.toInt32.toInt8 = Y.toInt32.toInt8 → (Int32.toInt8 ((Int32.toInt8 (Int64.toInt32 X)).toInt32)).toInt32 = (Int32.toInt8 ((Int32.toInt8 (Int64.toInt32 Y)).toInt32)).toInt32 := fun X Y h => by rw [h]
  apply this
  rcases (by omega : k = 0 ∨ k = 1 ∨ k = 2 ∨ k = 3 ∨ k = 4 ∨ k = 5 ∨ k = 6 ∨ k = 7) with rfl | rfl | rfl | rfl | rfl | rfl | rfl | rfl
  · exact byt_g w _ _ 0 (by omega) rfl rfl
  · exact byt_g w _ _ 8 (by omega) rfl rfl
  · exact byt_g w _ _ 16 (by omega) rfl rfl
  · exact byt_g w _ _ 24 (by omega) rfl rfl
  · exact byt_g w _ _ 32 (by omega) rfl rfl
  · exact byt_g w _ _ 40 (by omega) rfl rfl
  · exact byt_g w _ _ 48 (by omega) rfl rfl
  · exact byt_g w _ _ 56 (by omega) rfl rfl
theorem xd_k : ∀ k, k < 9 → (0 < k → ¬ (Int32.ofNat k - 1 < 0) ∧ Int32.ofNat k - 1 = Int32.ofNat (k - 1) ∧ Int32.ofNat k - 1 + Int32.ofInt (-1) = Int32.ofNat (k - 1) - 1) ∧ (k = 0 → Int32.ofNat k - 1 < 0) := by decide
section RCV
variable {l : Launch} {E : xm_E} {b : Nat} {c p : Bool} {Q : Option Value → xm_M → Prop} {w : Int64}
theorem lp4_append : ∀ (k z : Nat) (M : xm_M), k < 9 → z + k ≤ 1024 → xm_gi M (b + 53) 1 = Int32.ofNat z → xm_st b c p M → (∀ M1, smI (fun a j => (a = b + 53 ∧ j = 1) ∨ (a = b + 54 ∧ z ≤ j ∧ j < z + k)) M M1 → xm_gi M1 (b + 53) 1 = Int32.ofNat (z + k) → (∀ j, j < k → xm_gi M1 (b + 54) (z + j) = bx w (Int32.ofNat (k - 1 - j))) → xm_st b c p M1 → Q (some (.int 1)) M1) → xm_X l E y4_append rm4_append Q 19 [(0, .ref (b + 53)), (1, .long w), (4, .int (Int32.ofNat k - 1))] [] 0 0 M := by
  intro k
  induction k with
  | zero =>
    intro z M hk hz hc hS h
    exact t4_append_19 M w _ hS ⟨fun _ hS => h M smI.rf hc (fun j hj => absurd hj (Nat.not_lt_zero j)) hS, fun g => absurd ((xd_k 0 hk).2 rfl) g⟩
  | succ k ih =>
    intro z M hk hz hc hS h
    obtain ⟨a1, a2, a3⟩ := (xd_k (k + 1) hk).1 (by omega)
    have c1 : (Int32.ofNat z).toNatClampNeg = z := xn_c (by omega)
    refine t4_append_19 M w _ hS ⟨fun g => absurd g a1, fun _ => ⟨by rw [hc]; exact xn_in (by omega) (by decide), fun hS => ?_⟩⟩
    rw [a3]
    change xm_st b c p (xm_pi (xm_pi M (b + 54) (Int32.toNatClampNeg (xm_gi M (b + 53) 1)) (bx w (Int32.ofNat (k + 1) - 1))) (b + 53) 1 (xm_gi (xm_pi M (b + 54) (Int32.toNatClampNeg (xm_gi M (b + 53) 1)) (bx w (Int32.ofNat (k + 1) - 1))) (b + 53) 1 + 1)) at hS
    change xm_X l E y4_append rm4_append Q 19 _ [] 0 0 (xm_pi (xm_pi M (b + 54) (Int32.toNatClampNeg (xm_gi M (b + 53) 1)) (bx w (Int32.ofNat (k + 1) - 1))) (b + 53) 1 (xm_gi (xm_pi M (b + 54) (Int32.toNatClampNeg (xm_gi M (b + 53) 1)) (bx w (Int32.ofNat (k + 1) - 1))) (b + 53) 1 + 1))
    rw [gi_pi, if_neg (by omega), hc, c1, ← inc_ofNat, a2] at hS ⊢
    refine ih (z + 1) _ (by omega) (by omega) (by rw [gi_pi, if_pos ⟨rfl, rfl⟩]) hS (fun M1 s1 q1 q2 hS => ?_)
    refine h M1 ⟨fun a j hj => ?_, s1.2⟩ (by rw [q1]; congr 1; omega) (fun j hj => ?_) hS
    · rw [s1.1 a j (by omega), gi_pi, if_neg (by omega), gi_pi, if_neg (by omega)]
    · by_cases e : j = 0
      · subst e
        rw [s1.1 _ _ (by omega), gi_pi, if_neg (by omega), gi_pi, if_pos ⟨rfl, by omega⟩]
        rfl
      · have := q2 (j - 1) (by omega)
        rw [show z + 1 + (j - 1) = z + j by omega] at this
        rw [this]
        congr 2
        omega
theorem lp11_receive : ∀ (k z : Nat) (M : xm_M), k < 9 → z + k ≤ 1024 → xm_gi M (b + 154) 11 = Int32.ofNat z → xm_st b c p M → (∀ M1, smI (fun a j => (a = b + 154 ∧ j = 11) ∨ (a = b + 161 ∧ z ≤ j ∧ j < z + k)) M M1 → xm_gi M1 (b + 154) 11 = Int32.ofNat (z + k) → (∀ j, j < k → xm_gi M1 (b + 161) (z + j) = bm w (Int32.ofNat (k - 1 - j))) → xm_st b c p M1 → Q (some (.int (xm_gi M1 (b + 154) 11))) M1) → xm_X l E y11_receive rm11_receive Q 33 [(0, .ref (b + 154)), (1, .long w), (4, .int (Int32.ofNat k - 1))] [] 0 0 M := by
  intro k
  induction k with
  | zero =>
    intro z M hk hz hc hS h
    exact t11_receive_33 M w _ hS ⟨fun _ hS => h M smI.rf hc (fun j hj => absurd hj (Nat.not_lt_zero j)) hS, fun g => absurd ((xd_k 0 hk).2 rfl) g⟩
  | succ k ih =>
    intro z M hk hz hc hS h
    obtain ⟨a1, a2, a3⟩ := (xd_k (k + 1) hk).1 (by omega)
    have c1 : (Int32.ofNat z).toNatClampNeg = z := xn_c (by omega)
    refine t11_receive_33 M w _ hS ⟨fun g => absurd g a1, fun _ => ⟨by rw [hc]; exact xn_in (by omega) (by decide), fun hS => ?_⟩⟩
    rw [a3]
    change xm_st b c p (xm_pi (xm_pi M (b + 161) (Int32.toNatClampNeg (xm_gi M (b + 154) 11)) (bm w (Int32.ofNat (k + 1) - 1))) (b + 154) 11 (xm_gi (xm_pi M (b + 161) (Int32.toNatClampNeg (xm_gi M (b + 154) 11)) (bm w (Int32.ofNat (k + 1) - 1))) (b + 154) 11 + 1)) at hS
    change xm_X l E y11_receive rm11_receive Q 33 _ [] 0 0 (xm_pi (xm_pi M (b + 161) (Int32.toNatClampNeg (xm_gi M (b + 154) 11)) (bm w (Int32.ofNat (k + 1) - 1))) (b + 154) 11 (xm_gi (xm_pi M (b + 161) (Int32.toNatClampNeg (xm_gi M (b + 154) 11)) (bm w (Int32.ofNat (k + 1) - 1))) (b + 154) 11 + 1))
    rw [gi_pi, if_neg (by omega), hc, c1, ← inc_ofNat, a2] at hS ⊢
    refine ih (z + 1) _ (by omega) (by omega) (by rw [gi_pi, if_pos ⟨rfl, rfl⟩]) hS (fun M1 s1 q1 q2 hS => ?_)
    refine h M1 ⟨fun a j hj => ?_, s1.2⟩ (by rw [q1]; congr 1; omega) (fun j hj => ?_) hS
    · rw [s1.1 a j (by omega), gi_pi, if_neg (by omega), gi_pi, if_neg (by omega)]
    · by_cases e : j = 0
      · subst e
        rw [s1.1 _ _ (by omega), gi_pi, if_neg (by omega), gi_pi, if_pos ⟨rfl, by omega⟩]
        rfl
      · have := q2 (j - 1) (by omega)
        rw [show z + 1 + (j - 1) = z + j by omega] at this
        rw [this]
        congr 2
        omega
end RCV
theorem op_receive {l : Launch} {E : xm_E} {b : Nat} {M : xm_M} {F : Prop → Prop} {K : Int32 → Int32 → xm_M → Prop} {w : Int64} {v : Int32} (hR : Rl b M) (hS : xm_st b false false M) (hF : ∀ P, P → F P) (hK : ∀ r M2, Rl b M2 → xm_st b false false M2 → K r r M2) : Op l E b F y0_receive rm0_receive [.ref (b + 0), .long w, .int v] y11_receive rm11_receive [.ref (b + 154), .long w, .int v] M K := by
  have hR0 := hR
  obtain ⟨rF, rT, rW, ⟨z, h1, h2, h3, h4⟩, rR, rD⟩ := hR
  have e1 : (1 : Int32).toInt = 1 := by decide
  have e8 : (8 : Int32).toInt = 8 := by decide
  by_cases g1 : v < 1
  · exact xm_enter (by decide) (Nat.le_of_ble_eq_true rfl) (t0_receive_0 M w v hS ⟨fun _ hS => ⟨_, rfl, hS, hF _ (xm_enter (by decide) (Nat.le_of_ble_eq_true rfl) (t11_receive_0 M w v hS ⟨fun _ hS => ⟨_, rfl, hS, hK _ _ hR0 hS⟩, fun g => absurd g1 g⟩))⟩, fun g => absurd g1 g⟩)
  · by_cases g2 : v ≤ 8
    · obtain ⟨k, hk, hk0, ev⟩ : ∃ k : Nat, k < 9 ∧ 0 < k ∧ v = Int32.ofNat k := by
        rw [Int32.lt_iff_toInt_lt] at g1; rw [Int32.le_iff_toInt_le] at g2
        exact ⟨v.toInt.toNat, by omega, by omega, Int32.toInt_inj.mp (by rw [toInt_of rfl (by omega)]; omega)⟩
      subst ev
      have es : Int32.ofNat z + Int32.ofNat k = Int32.ofNat (z + k) := (Int32.ofNat_add z k).symm
      by_cases g3 : z + k ≤ 1024
      · refine xm_enter (by decide) (Nat.le_of_ble_eq_true rfl) (t0_receive_0 M w _ hS ⟨fun g => absurd g g1, fun _ => ⟨fun _ => xm_enter (by decide) (Nat.le_of_ble_eq_true rfl) (t4_append_0 M w _ hS ⟨fun _ hS => lp4_append k z M hk g3 h2 hS (fun M1 s1 q1 q2 hS => ⟨true, rfl, hS, fun q => absurd q (by decide), fun _ hS => ⟨_, rfl, hS, hF _ ?_⟩⟩), fun q => absurd (by rw [h2, es]; exact (xn_le (b := 1024) (by omega) (by decide)).mpr g3) q⟩), fun g => absurd g2 g⟩⟩)
        have k1 : xm_gi M1 (b + 154) 11 = Int32.ofNat z := by rw [s1.1 _ _ (by omega)]; exact h3
        refine xm_enter (by decide) (Nat.le_of_ble_eq_true rfl) (t11_receive_0 M1 w _ hS ⟨fun g => absurd g g1, fun _ => ⟨fun _ => ⟨fun _ hS => lp11_receive k z M1 hk g3 k1 hS (fun M2 s2 p1 p2 hS => ⟨_, rfl, hS, ?_⟩), fun q => absurd (by rw [k1, es]; exact (xn_le (b := 1024) (by omega) (by decide)).mpr g3) q⟩, fun g => absurd g2 g⟩⟩)
        rw [q1, p1]
        have sa : ∀ a j, ¬ ((a = b + 53 ∧ j = 1) ∨ (a = b + 54 ∧ z ≤ j ∧ j < z + k) ∨ (a = b + 154 ∧ j = 11) ∨ (a = b + 161 ∧ z ≤ j ∧ j < z + k)) → xm_gi M2 a j = xm_gi M a j := fun a j h => by rw [s2.1 _ _ (by omega), s1.1 _ _ (by omega)]
        refine hK _ _ ⟨rF.frame (fun a k h => sa a k (by unfold arF at h; omega)), rT.frame (fun a k h => sa a k (by unfold arT at h; omega)), rW.frame (fun a k h => sa a k (by unfold arW at h; omega)), ⟨z + k, g3, by rw [s2.1 _ _ (by omega)]; exact q1, p1, fun i hi => ?_⟩, rR.frame (fun a k h => sa a k (by unfold arR at h; omega)), rD.frame (fun i u _ _ => by rw [s2.2, s1.2])⟩ hS
        by_cases e : i < z
        · rw [sa _ _ (by omega), sa _ _ (by omega)]; exact h4 i e
        · have a1 := q2 (i - z) (by omega)
          have a2 := p2 (i - z) (by omega)
          rw [show z + (i - z) = i by omega] at a1 a2
          rw [s2.1 _ _ (by omega), a1, a2]
          exact bx_bm w _ (by omega)
      · refine xm_enter (by decide) (Nat.le_of_ble_eq_true rfl) (t0_receive_0 M w _ hS ⟨fun g => absurd g g1, fun _ => ⟨fun _ => xm_enter (by decide) (Nat.le_of_ble_eq_true rfl) (t4_append_0 M w _ hS ⟨fun q => absurd ((xn_le (b := 1024) (by omega) (by decide)).mp (by rw [h2, es] at q; exact q)) g3, fun _ hS => ⟨false, rfl, hS, fun _ hS => ⟨_, rfl, hS, hF _ ?_⟩, fun q => absurd rfl q⟩⟩), fun g => absurd g2 g⟩⟩)
        exact xm_enter (by decide) (Nat.le_of_ble_eq_true rfl) (t11_receive_0 M w _ hS ⟨fun g => absurd g g1, fun _ => ⟨fun _ => ⟨fun q => absurd ((xn_le (b := 1024) (by omega) (by decide)).mp (by rw [h3, es] at q; exact q)) g3, fun _ hS => ⟨_, rfl, hS, hK _ _ hR0 hS⟩⟩, fun g => absurd g2 g⟩⟩)
    · exact xm_enter (by decide) (Nat.le_of_ble_eq_true rfl) (t0_receive_0 M w v hS ⟨fun g => absurd g g1, fun _ => ⟨fun g => absurd g g2, fun _ hS => ⟨_, rfl, hS, hF _ (xm_enter (by decide) (Nat.le_of_ble_eq_true rfl) (t11_receive_0 M w v hS ⟨fun g => absurd g g1, fun _ => ⟨fun g => absurd g g2, fun _ hS => ⟨_, rfl, hS, hK _ _ hR0 hS⟩⟩⟩))⟩⟩⟩)
