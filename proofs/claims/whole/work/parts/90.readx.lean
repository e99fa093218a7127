/-! the class's whole reading -/
def acB (o : Int32) : Bool := !decide (o < 8) && !decide (12 < o)
def atI (o : Int32) : Int32 := if o = 11 ∨ o = 12 then 0 else 9
def amL (o k : Int32) : Int64 := if o = 11 ∨ o = 12 then 31 - Int32.toInt64 k else -(Int32.toInt64 k) - Int32.toInt64 (Int32.ofNat (szO o))
def ecN (o : Int32) : Int32 := if o = 0 then 0 else if o < 14 then 1 else 2
def acS (o q k : Int32) (fs : Int32 → Option StT) (T : Nat → Int32) (sz u : Nat) : Except FpT Nat := if acB o = true then (match rrS fs T sz 0 (1 + q) (Int32.toInt64 k) u with
    | .error e => .error e
    | .ok v => rrS fs T sz (1 + q) (atI o) (amL o k) v) else .ok u
def e1C (fs : Int32 → Option StT) (T : Nat → Int32) (sz : Nat) (c : Option Nat) (f u v : Nat) : Except FpT Nat := match c with
  | none => .error (7, Int32.ofNat u)
  | some m => rrF fs T sz f m 0 v
def e1S (fs : Int32 → Option StT) (T : Nat → Int32) (sz : Nat) (c : Option Nat) (f u : Nat) : Except FpT Nat := match rdW T sz 0 1 u with
  | .error e => .error e
  | .ok (x, v) => if x = 0 then e1C fs T sz c f u v else (match rdW T sz 0 9 v with
      | .error e => .error e
      | .ok (y, w) => rrS fs T sz y y (-1) w)
def fsI (F : Flt) (i : Nat) (jump : Bool) (T : Nat → Int32) (f m : Nat) : Int32 → Option StT := fsE (F.1 i) (F.2.1 i) (F.2.2.1 i) (F.2.2.2.1 i) jump T f m
def egS (F : Flt) (C : Nat → Option Nat) (f : Nat → Nat) (T : Nat → Int32) (sz i m u : Nat) : Except FpT Nat :=
  if F.1 i = 0 then .ok u
  else if F.1 i = 13 then e1S (fsI F i true T (f i) m) T sz (C (F.2.2.2.2 i).toNatClampNeg) (f (F.2.2.2.2 i).toNatClampNeg) u
  else match e1S (fsI F i false T (f i) m) T sz (C (i + 1)) (f (i + 1)) u with
    | .error e => .error e
    | .ok v => if F.1 i < 14 then .ok v else e1S (fsI F i true T (f i) m) T sz (C (F.2.2.2.2 i).toNatClampNeg) (f (F.2.2.2.2 i).toNatClampNeg) v
def mnS (F : Flt) (C : Nat → Option Nat) (f : Nat → Nat) (T : Nat → Int32) (sz : Nat) : Nat → Nat → Nat → Except FpT Unit
  | 0, _, u => if u < sz then .error (8, Int32.ofNat u) else .ok ()
  | k + 1, i, u => match C i with
    | none => mnS F C f T sz k (i + 1) u
    | some m => match acS (F.1 i) (F.2.2.1 i) (F.2.2.2.1 i) (fsP T (f i) m) T sz u with
      | .error e => .error e
      | .ok v => match egS F C f T sz i m v with
        | .error e => .error e
        | .ok w => mnS F C f T sz k (i + 1) w
def chS (F : Flt) (least : Int32) (n : Nat) (T : Nat → Int32) (sz : Nat) : Except FpT Unit := match rdI T sz n 0 0 (fun _ => none) (fun _ => 0) with
  | .error e => .error e
  | .ok (C, f, u) => match rrF (fun x => begO x least) T sz (f 0) ((C 0).getD 0) 0 u with
    | .error e => .error e
    | .ok v => mnS F C f T sz n 0 v
def vS : Except FpT Unit → FpT
  | .error e => e
  | .ok _ => (0, -2)
theorem acS_ok {o q k : Int32} {fs : Int32 → Option StT} {T : Nat → Int32} {sz u v : Nat} (hu : u ≤ sz) (h : acS o q k fs T sz u = .ok v) : v ≤ sz := by
  unfold acS at h
  by_cases g : acB o = true
  · rw [if_pos g] at h
    cases h1 : rrS fs T sz 0 (1 + q) (Int32.toInt64 k) u with
    | error e => rw [h1] at h; cases h
    | ok w => rw [h1] at h; exact rrS_ok h
  · rw [if_neg g] at h; cases h; exact hu
theorem e1S_ok {fs : Int32 → Option StT} {T : Nat → Int32} {sz f u v : Nat} {c : Option Nat} (h : e1S fs T sz c f u = .ok v) : v ≤ sz := by
  unfold e1S at h
  cases h1 : rdW T sz 0 1 u with
  | error e => rw [h1] at h; cases h
  | ok r =>
    rw [h1] at h
    obtain ⟨g1, g2, _⟩ := rdW_ok h1
    subst g2
    simp only at h
    by_cases g : T u = 0
    · rw [if_pos g] at h
      cases c with
      | none => cases h
      | some m => exact rrF_ok _ _ _ _ (by omega) h
    · rw [if_neg g] at h
      cases h2 : rdW T sz 0 9 (u + 1) with
      | error e => rw [h2] at h; cases h
      | ok r => rw [h2] at h; exact rrS_ok h
theorem egS_ok {F : Flt} {C : Nat → Option Nat} {f : Nat → Nat} {T : Nat → Int32} {sz i m u v : Nat} (hu : u ≤ sz) (h : egS F C f T sz i m u = .ok v) : v ≤ sz := by
  unfold egS at h
  by_cases g : F.1 i = 0
  · rw [if_pos g] at h; cases h; exact hu
  · rw [if_neg g] at h
    by_cases g2 : F.1 i = 13
    · rw [if_pos g2] at h; exact e1S_ok h
    · rw [if_neg g2] at h
      cases h1 : e1S (fsI F i false T (f i) m) T sz (C (i + 1)) (f (i + 1)) u with
      | error e => rw [h1] at h; cases h
      | ok w =>
        rw [h1] at h
        simp only at h
        by_cases g3 : F.1 i < 14
        · rw [if_pos g3] at h; cases h; exact e1S_ok h1
        · rw [if_neg g3] at h; exact e1S_ok h
def flX (b : Nat) (M : xm_M) (F : Flt) : Prop := ∀ i, i < 48 → xm_gi M (b + 3 + i) 0 = F.1 i ∧ xm_gi M (b + 3 + i) 1 = F.2.1 i ∧ xm_gi M (b + 3 + i) 2 = F.2.2.1 i ∧ xm_gi M (b + 3 + i) 3 = F.2.2.2.1 i ∧ xm_gi M (b + 3 + i) 4 = F.2.2.2.2 i
theorem flX.fr {b : Nat} {M N : xm_M} {F : Flt} (h : flX b M F) (s : smQ b M N) : flX b N F := fun i hi => by
  rw [s.1 _ _ (by omega), s.1 _ _ (by omega), s.1 _ _ (by omega), s.1 _ _ (by omega), s.1 _ _ (by omega)]; exact h i hi
section RX
variable {l : Launch} {E : xm_E} {b : Nat} {c p : Bool} {Q : Option Value → xm_M → Prop} {T : Nat → Int32} {sz : Nat}
theorem s2_isAccess {a : Nat} {M : xm_M} (ha : xS b a = some (.inr 2)) (hS : xm_st b c p M) (h : xm_st b c p M → Q (some (.int (xz (acB (xm_gi M a 0))))) M) : xm_C l E y2_isAccess rm2_isAccess [.ref a] M Q := by
  refine xm_enter (by decide) (Nat.le_of_ble_eq_true rfl) (t2_isAccess_0 M a ha hS ⟨fun g => ?_, fun g => ⟨fun g2 => ?_, fun g2 => ?_⟩⟩)
  · rw [show acB (xm_gi M a 0) = false by simp [acB, g]] at h; exact h
  · rw [show acB (xm_gi M a 0) = false by simp [acB, g2]] at h; exact h
  · rw [show acB (xm_gi M a 0) = true by simp [acB, g, g2]] at h; exact h
theorem s2_isScratch {a : Nat} {M : xm_M} (ha : xS b a = some (.inr 2)) (hS : xm_st b c p M) (h : xm_st b c p M → Q (some (.int (xz (decide (xm_gi M a 0 = 11 ∨ xm_gi M a 0 = 12))))) M) : xm_C l E y2_isScratchAccess rm2_isScratchAccess [.ref a] M Q := by
  refine xm_enter (by decide) (Nat.le_of_ble_eq_true rfl) (t2_isScratchAccess_0 M a ha hS ⟨fun g => ?_, fun g => ⟨fun g2 => ?_, fun g2 => ?_⟩⟩)
  · rw [decide_eq_true (Or.inl g)] at h; exact h
  · rw [decide_eq_false (fun q => q.elim g g2)] at h; exact h
  · rw [decide_eq_true (Or.inr g2)] at h; exact h
theorem s2_accessTop {a : Nat} {M : xm_M} (ha : xS b a = some (.inr 2)) (hS : xm_st b c p M) (h : xm_st b c p M → Q (some (.int (atI (xm_gi M a 0)))) M) : xm_C l E y2_accessTop rm2_accessTop [.ref a] M Q := by
  refine xm_enter (by decide) (Nat.le_of_ble_eq_true rfl) (t2_accessTop_0 M a ha hS (s2_isScratch ha hS (fun hS => ⟨_, rfl, hS, fun g => ?_, fun g => ?_⟩)))
  · rw [show atI (xm_gi M a 0) = 9 from if_neg (of_decide_eq_false (xz_0.mp g))] at h; exact h
  · rw [show atI (xm_gi M a 0) = 0 from if_pos (of_decide_eq_true (xz_ne g))] at h; exact h
theorem acB_8 {o : Int32} (h : acB o = true) (h2 : ¬ (o = 11 ∨ o = 12)) : o = 8 ∨ o = 9 ∨ o = 10 := by
  unfold acB at h
  simp only [Bool.and_eq_true, Bool.not_eq_true', decide_eq_false_iff_not] at h
  obtain ⟨g1, g2⟩ := h
  rw [Int32.lt_iff_toInt_lt] at g1 g2
  rw [show (8 : Int32).toInt = 8 by decide] at g1
  rw [show (12 : Int32).toInt = 12 by decide] at g2
  have e : ∀ v : Int32, o.toInt = v.toInt → o = v := fun v q => Int32.toInt_inj.mp q
  have n11 : ¬ o.toInt = 11 := fun q => h2 (Or.inl (e 11 (by rw [q]; decide)))
  have n12 : ¬ o.toInt = 12 := fun q => h2 (Or.inr (e 12 (by rw [q]; decide)))
  have : o.toInt = 8 ∨ o.toInt = 9 ∨ o.toInt = 10 := by omega
  rcases this with q | q | q
  · exact Or.inl (e 8 (by rw [q]; decide))
  · exact Or.inr (Or.inl (e 9 (by rw [q]; decide)))
  · exact Or.inr (Or.inr (e 10 (by rw [q]; decide)))
theorem s2_accessMost {a : Nat} {M : xm_M} (ha : xS b a = some (.inr 2)) (hac : acB (xm_gi M a 0) = true) (hS : xm_st b c p M) (h : xm_st b c p M → Q (some (.long (amL (xm_gi M a 0) (xm_gi M a 3)))) M) : xm_C l E y2_accessMost rm2_accessMost [.ref a] M Q := by
  refine xm_enter (by decide) (Nat.le_of_ble_eq_true rfl) (t2_accessMost_0 M a ha hS (s2_isScratch ha hS (fun hS => ⟨_, rfl, hS, fun g => ?_, fun g => ?_⟩)))
  · have g := of_decide_eq_false (xz_0.mp g)
    rw [show amL (xm_gi M a 0) (xm_gi M a 3) = _ from if_neg g] at h
    exact s2_loadSize ha (acB_8 hac g) hS (fun hS => ⟨_, rfl, hS, h⟩)
  · rw [show amL (xm_gi M a 0) (xm_gi M a 3) = _ from if_pos (of_decide_eq_true (xz_ne g))] at h; exact h
theorem s2_edgeCount {a : Nat} {M : xm_M} (ha : xS b a = some (.inr 2)) (hS : xm_st b c p M) (h : xm_st b c p M → Q (some (.int (ecN (xm_gi M a 0)))) M) : xm_C l E y2_edgeCount rm2_edgeCount [.ref a] M Q := by
  refine xm_enter (by decide) (Nat.le_of_ble_eq_true rfl) (t2_edgeCount_0 M a ha hS ⟨fun g => ⟨fun g2 => ?_, fun g2 => ?_⟩, fun g => ?_⟩)
  · rw [show ecN (xm_gi M a 0) = 1 from (if_neg g).trans (if_pos g2)] at h; exact h
  · rw [show ecN (xm_gi M a 0) = 2 from (if_neg g).trans (if_neg g2)] at h; exact h
  · rw [show ecN (xm_gi M a 0) = 0 from if_pos g] at h; exact h
theorem s2_edgeEnd {a : Nat} {i e : Int32} {M : xm_M} (ha : xS b a = some (.inr 2)) (hS : xm_st b c p M) (h : xm_st b c p M → Q (some (.int (if jB (xm_gi M a 0) e = true then xm_gi M a 4 else i + 1))) M) : xm_C l E y2_edgeEnd rm2_edgeEnd [.ref a, .int i, .int e] M Q := by
  refine xm_enter (by decide) (Nat.le_of_ble_eq_true rfl) (t2_edgeEnd_0 M a i e ha hS (s2_jumpsBy ha hS (fun hS => ⟨_, rfl, hS, fun g => ?_, fun g => ?_⟩)))
  · rw [if_neg (by rw [xz_0.mp g]; decide)] at h; exact h
  · rw [if_pos (xz_ne g)] at h; exact h
theorem s9_readAccess {i f m u : Nat} {M : xm_M} {F : Flt} (hi : i < 48) (hm : m ≤ 24) (hf : f + 3 * m ≤ sz) (hL : flX b M F) (hT : tpX b M T sz) (e1 : xm_gi M (b + 146) i = Int32.ofNat m) (e2 : xm_gi M (b + 147) i = Int32.ofNat f) (hu : xm_gi M (b + 145) 7 = Int32.ofNat u) (hu2 : u ≤ sz) (hS : xm_st b true p M) (h : Pr2 b p Q M (acS (F.1 i) (F.2.2.1 i) (F.2.2.2.1 i) (fsP T f m) T sz u) (okU b)) : xm_C l E y9_readAccess rm9_readAccess [.ref (b + 145), .int (Int32.ofNat i)] M Q := by
  obtain ⟨l0, l1, l2, l3, l4⟩ := hL i hi
  have hF : FsO b M T sz (Int32.ofNat i) (-1) (fsP T f m) := Or.inr ⟨i, f, m, hi, hm, hf, rfl, e1, e2, Or.inl ⟨rfl, fun _ => rfl⟩⟩
  refine xm_enter (by decide) (Nat.le_of_ble_eq_true rfl) (t9_readAccess_0 (c := true) M _ hS ⟨xn_in hi (by decide), ?_⟩)
  rw [xn_c (by omega)]
  refine s2_isAccess (shf_2 hi) hS (fun hS => ⟨_, rfl, hS, fun g => ?_, fun g hS => ?_⟩)
  · have g := xz_ne g
    have hl : acS (F.1 i) (F.2.2.1 i) (F.2.2.2.1 i) (fsP T f m) T sz u = (match rrS (fsP T f m) T sz 0 (1 + F.2.2.1 i) (Int32.toInt64 (F.2.2.2.1 i)) u with
      | .error e => .error e
      | .ok v => rrS (fsP T f m) T sz (1 + F.2.2.1 i) (atI (F.1 i)) (amL (F.1 i) (F.2.2.2.1 i)) v) := if_pos (by rw [← l0]; exact g)
    rw [l2, l3]
    refine s9_readReason hF hT hu hu2 hS ⟨fun e hr M1 s1 hS a1 a2 => ⟨false, rfl, hS, fun _ hS => ?_, fun q => absurd rfl q⟩, fun v hr M1 s1 hS a1 a2 a3 => ⟨true, rfl, hS, fun q => absurd q (by decide), fun _ => ?_⟩⟩
    · exact h.1 e (by rw [hl, hr]) M1 s1 hS a1 a2
    · rw [hr] at hl
      have hL1 : flX b M1 F := hL.fr s1.q
      obtain ⟨k0, k1, k2, k3, k4⟩ := hL1 i hi
      refine s2_accessTop (shf_2 hi) hS (fun hS => ⟨_, rfl, hS, s2_accessMost (shf_2 hi) (by rw [k0, ← l0]; exact g) hS (fun hS => ⟨_, rfl, hS, ?_⟩)⟩)
      rw [k0, k3]
      refine s9_readReason (hF.fr s1) (hT.fr s1) a3 (rrS_ok hr) hS ⟨fun e hr M2 s2 hS c1 c2 => ⟨false, rfl, hS, fun _ hS => ?_, fun q => absurd rfl q⟩, fun v hr M2 s2 hS c1 c2 c3 => ⟨true, rfl, hS, fun q => absurd q (by decide), fun _ hS => ?_⟩⟩
      · exact h.1 e (hl.trans hr) M2 (s1.tr s2) hS c1 c2
      · exact h.2 v (hl.trans hr) M2 (s1.tr s2) hS (c1.trans a1) (c2.trans a2) c3
  · have g := xz_0.mp g
    exact h.2 u (if_neg (by rw [← l0, g]; decide)) M smR.rf hS rfl rfl hu
theorem lp_re12 {i j : Nat} {e : Int32} {F : Flt} {fs : Int32 → Option StT} {cj : Option Nat} {fj u : Nat} {M : xm_M} (hi : i < 48) (hj : j < 48) (hL : flX b M F) (hend : (if jB (F.1 i) e = true then F.2.2.2.2 i else Int32.ofNat i + 1) = Int32.ofNat j) (hlt : ¬ ecN (F.1 i) ≤ e) (hF : FsO b M T sz (Int32.ofNat i) e fs) (hc : xm_gi M (b + 146) j = cI cj) (hf : xm_gi M (b + 147) j = Int32.ofNat fj) (hK : ∀ m, cj = some m → m ≤ 24 ∧ fj + 3 * m ≤ sz) (hT : tpX b M T sz) (hu : xm_gi M (b + 145) 7 = Int32.ofNat u) (hu2 : u ≤ sz) (hS : xm_st b true p M)
    (he : ∀ er, e1S fs T sz cj fj u = .error er → ∀ M1, smR b M M1 → xm_st b true p M1 → xm_gi M1 (b + 145) 9 = er.1 → xm_gi M1 (b + 145) 10 = er.2 → Q (some (.int 0)) M1)
    (ho : ∀ v, e1S fs T sz cj fj u = .ok v → ∀ M1, smR b M M1 → xm_st b true p M1 → xm_gi M1 (b + 145) 9 = xm_gi M (b + 145) 9 → xm_gi M1 (b + 145) 10 = xm_gi M (b + 145) 10 → okU b v M1 → xm_X l E y9_readEdges rm9_readEdges Q 12 [(0, .ref (b + 145)), (1, .int (Int32.ofNat i)), (2, .ref (b + 3 + i)), (3, .int (e + Int32.ofInt 1))] [] 0 0 M1) :
    xm_X l E y9_readEdges rm9_readEdges Q 12 [(0, .ref (b + 145)), (1, .int (Int32.ofNat i)), (2, .ref (b + 3 + i)), (3, .int e)] [] 0 0 M := by
  obtain ⟨l0, l1, l2, l3, l4⟩ := hL i hi
  refine t9_readEdges_12 (c := true) M _ _ e (shf_2 hi) hS (s2_edgeCount (shf_2 hi) hS (fun hS => ⟨_, rfl, hS, fun g => absurd (by rw [← l0]; exact g) hlt, fun _ => ?_⟩))
  refine s9_readWithin hT hu hu2 hS ⟨fun er hr M1 s1 hS a1 a2 => ⟨false, rfl, hS, fun q => absurd rfl q, fun _ hS => ?_⟩, fun r hr M1 s1 hS a1 a2 a3 => ⟨true, rfl, hS, fun _ => ?_, fun q => absurd q (by decide)⟩⟩
  · exact he er (by unfold e1S; rw [hr]) M1 s1 hS a1 a2
  · have hl : e1S fs T sz cj fj u = (if r.1 = 0 then e1C fs T sz cj fj u r.2 else (match rdW T sz 0 9 r.2 with
      | .error e => .error e
      | .ok (y, w) => rrS fs T sz y y (-1) w)) := by unfold e1S; rw [hr]
    obtain ⟨g1, g2, _⟩ := rdW_ok hr
    subst g2
    obtain ⟨a3, a4⟩ := a3
    have hz := hT.1
    have e5 : Int32.ofNat (u + 1) - 1 = Int32.ofNat u := by
      rw [show Int32.ofNat (u + 1) = Int32.ofNat u + 1 from Int32.ofNat_add u 1]
      exact Int32.add_sub_cancel _ _
    have hL1 : flX b M1 F := hL.fr s1.q
    obtain ⟨k0, k1, k2, k3, k4⟩ := hL1 i hi
    refine s2_edgeEnd (shf_2 hi) hS (fun hS => ⟨_, rfl, hS, ?_⟩)
    rw [k0, k4, hend, a3, a4, e5]
    have b1 : xm_gi M1 (b + 146) j = cI cj := by rw [s1.1 _ _ (by omega)]; exact hc
    have b2 : xm_gi M1 (b + 147) j = Int32.ofNat fj := by rw [s1.1 _ _ (by omega)]; exact hf
    refine ⟨fun g => ⟨fun _ => ?_, fun q => absurd q g⟩, fun g => ⟨xn_in hj (by decide), ?_⟩⟩
    · have hl := hl.trans (if_neg g)
      refine s9_readWithin (hT.fr s1) a4 (by omega) hS ⟨fun er hr2 M2 s2 hS c1 c2 => ⟨false, rfl, hS, fun _ hS => ?_, fun q => absurd rfl q⟩, fun r hr2 M2 s2 hS c1 c2 c3 => ⟨true, rfl, hS, fun q => absurd q (by decide), fun _ => ?_⟩⟩
      · exact he er (by rw [hl, hr2]) M2 (s1.tr s2) hS c1 c2
      · rw [hr2] at hl
        obtain ⟨g3, g4, _⟩ := rdW_ok hr2
        subst g4
        obtain ⟨c3, c4⟩ := c3
        rw [c3]
        refine s9_readReason ((hF.fr s1).fr s2) ((hT.fr s1).fr s2) c4 (by omega) hS ⟨fun er hr M3 s3 hS d1 d2 => ⟨false, rfl, hS, fun _ hS => ?_, fun q => absurd rfl q⟩, fun v hr M3 s3 hS d1 d2 d3 => ⟨true, rfl, hS, fun q => absurd q (by decide), fun _ hS => ?_⟩⟩
        · exact he er (hl.trans hr) M3 ((s1.tr s2).tr s3) hS d1 d2
        · exact ho v (hl.trans hr) M3 ((s1.tr s2).tr s3) hS (d1.trans (c1.trans a1)) (d2.trans (c2.trans a2)) d3
    · have hl := hl.trans (if_pos g)
      rw [xn_c (by omega), b1]
      refine ⟨fun g2 => ⟨fun q => absurd g q, fun _ => ?_⟩, fun g2 => ?_⟩
      · cases cj with
        | none => exact absurd rfl g2
        | some m =>
          obtain ⟨m1, m2⟩ := hK m rfl
          refine s9_readReasonsFor hj m1 m2 (hF.fr s1) (hT.fr s1) b1 b2 a4 (by omega) hS ⟨fun er hr M3 s3 hS d1 d2 => ⟨false, rfl, hS, fun q => absurd rfl q, fun _ hS => ?_⟩, fun v hr M3 s3 hS d1 d2 d3 => ⟨true, rfl, hS, fun _ hS => ?_, fun q => absurd q (by decide)⟩⟩
          · exact he er (hl.trans hr) M3 (s1.tr s3) hS d1 d2
          · exact ho v (hl.trans hr) M3 (s1.tr s3) hS (d1.trans a1) (d2.trans a2) d3
      · cases cj with
        | none => exact s9_refuse hS (fun M3 s3 hS d1 d2 => ⟨false, rfl, hS, fun hS => he _ hl M3 (s1.tr s3) hS d1 d2⟩)
        | some m =>
          have := (hK m rfl).1
          have g3 := congrArg Int32.toInt g2
          rw [show (cI (some m)).toInt = (m : Int) from toInt_of rfl (by omega), show (-1 : Int32).toInt = -1 by decide] at g3
          omega
end RX
