/-! the reference's needs -/
def smGE (b : Nat) (M N : xm_M) : Prop := (∀ x k, ¬ ((x = b + 154 ∧ (k = 14 ∨ k = 19 ∨ k = 26)) ∨ (b + 162 ≤ x ∧ x ≤ b + 164) ∨ x = b + 171) → xm_gi N x k = xm_gi M x k) ∧ ∀ x k, ¬ (x = b + 165 ∨ x = b + 170) → xm_gl N x k = xm_gl M x k
theorem smGE.rf {b : Nat} {M : xm_M} : smGE b M M := ⟨fun _ _ _ => rfl, fun _ _ _ => rfl⟩
theorem smGE.tr {b : Nat} {M N P : xm_M} (h : smGE b M N) (g : smGE b N P) : smGE b M P := ⟨fun x k q => (g.1 x k q).trans (h.1 x k q), fun x k q => (g.2 x k q).trans (h.2 x k q)⟩
theorem smG.ge {b : Nat} {M N : xm_M} (h : smG b M N) : smGE b M N := ⟨fun x k q => h.1 x k (by omega), fun x k q => h.2 x k (by omega)⟩
theorem smE.ge {b : Nat} {M N : xm_M} (h : smE b M N) : smGE b M N := ⟨fun x k q => h.1 x k (by omega), fun x k q => h.2 x k (by omega)⟩
/-- what stays while reasons are told -/
def cnM (b : Nat) (M : xm_M) (F : Flt) (n : Nat) (least : Int32) (s : BdT) : Prop := flM b M F ∧ bdM b M n s ∧ imW b M F s n ∧ xm_gi M (b + 154) 1 = Int32.ofNat n ∧ xm_gi M (b + 154) 0 = least
theorem cnM.fr {b n : Nat} {M N : xm_M} {F : Flt} {least : Int32} {s : BdT} (h : cnM b M F n least s) (g1 : ∀ x k, (x = b + 154 ∧ k ≤ 1) ∨ (b + 155 ≤ x ∧ x ≤ b + 159) ∨ x = b + 167 ∨ x = b + 168 → xm_gi N x k = xm_gi M x k) (g2 : ∀ x k, x = b + 166 → xm_gl N x k = xm_gl M x k) : cnM b N F n least s := by
  obtain ⟨h1, h2, h3, h4, h5⟩ := h
  refine ⟨fun i hi => ?_, fun i hi => ⟨?_, fun q k hk => ?_⟩, fun i hi hl e he => ?_, ?_, ?_⟩
  · rw [g1 _ _ (by omega), g1 _ _ (by omega), g1 _ _ (by omega), g1 _ _ (by omega), g1 _ _ (by omega)]; exact h1 i hi
  · rw [g1 _ _ (by omega)]; exact (h2 i hi).1
  · rw [g2 _ _ (by omega)]; exact (h2 i hi).2 q k hk
  · rw [g1 _ _ (by omega)]; exact h3 i hi hl e he
  · rw [g1 _ _ (by omega)]; exact h4
  · rw [g1 _ _ (by omega)]; exact h5
theorem cnM.ge {b n : Nat} {M N : xm_M} {F : Flt} {least : Int32} {s : BdT} (h : cnM b M F n least s) (g : smGE b M N) : cnM b N F n least s := h.fr (fun x k q => g.1 _ _ (by omega)) (fun x k q => g.2 _ _ (by omega))
def nrM (b : Nat) (M : xm_M) (e : Nat) (f : Nat → Bool) : Prop := ∀ k, k < 100 → xm_gi M (b + 172) (100 * e + k) = xz (f k)
theorem nrM.ge {b e : Nat} {M N : xm_M} {f : Nat → Bool} (h : nrM b M e f) (g : smGE b M N) : nrM b N e f := fun k hk => by rw [g.1 _ _ (by omega)]; exact h k hk
def smNM (b i : Nat) (M N : xm_M) : Prop := (∀ x k, ¬ (x = b + 172 ∧ 100 * i ≤ k ∧ k < 100 * i + 100) → xm_gi N x k = xm_gi M x k) ∧ ∀ x k, xm_gl N x k = xm_gl M x k
theorem smNM.rf {b i : Nat} {M : xm_M} : smNM b i M M := ⟨fun _ _ _ => rfl, fun _ _ => rfl⟩
theorem smNM.tr {b i : Nat} {M N P : xm_M} (h : smNM b i M N) (g : smNM b i N P) : smNM b i M P := ⟨fun x k q => (g.1 x k q).trans (h.1 x k q), fun x k => (g.2 x k).trans (h.2 x k)⟩
/-- needing an instruction -/
def smNE (b i : Nat) (M N : xm_M) : Prop := (∀ x k, ¬ ((x = b + 154 ∧ (k = 14 ∨ k = 19 ∨ k = 26)) ∨ (b + 162 ≤ x ∧ x ≤ b + 164) ∨ x = b + 171 ∨ (x = b + 172 ∧ 100 * i ≤ k ∧ k < 100 * i + 100)) → xm_gi N x k = xm_gi M x k) ∧ ∀ x k, ¬ (x = b + 165 ∨ x = b + 170) → xm_gl N x k = xm_gl M x k
theorem smNE.rf {b i : Nat} {M : xm_M} : smNE b i M M := ⟨fun _ _ _ => rfl, fun _ _ _ => rfl⟩
theorem smNE.tr {b i : Nat} {M N P : xm_M} (h : smNE b i M N) (g : smNE b i N P) : smNE b i M P := ⟨fun x k q => (g.1 x k q).trans (h.1 x k q), fun x k q => (g.2 x k q).trans (h.2 x k q)⟩
theorem smGE.ne {b i : Nat} {M N : xm_M} (h : smGE b M N) : smNE b i M N := ⟨fun x k q => h.1 x k (by omega), fun x k q => h.2 x k (by omega)⟩
theorem smNM.ne {b i : Nat} {M N : xm_M} (h : smNM b i M N) : smNE b i M N := ⟨fun x k q => h.1 x k (by omega), fun x k q => h.2 x k⟩
theorem cnM.ne {b n i : Nat} {M N : xm_M} {F : Flt} {least : Int32} {s : BdT} (h : cnM b M F n least s) (g : smNE b i M N) : cnM b N F n least s := h.fr (fun x k q => g.1 _ _ (by omega)) (fun x k q => g.2 _ _ (by omega))
theorem lsM.nm {b i : Nat} {M N : xm_M} {L : List NsT} (h : lsM b M L) (s : smNM b i M N) : lsM b N L := ⟨by rw [s.1 _ _ (by omega)]; exact h.1, fun j t ht => by rw [s.1 _ _ (by omega), s.1 _ _ (by omega), s.1 _ _ (by omega), s.2]; exact h.2 j t ht⟩
def ndM (b : Nat) (M : xm_M) (n : Nat) (nd : NdT) (i : Nat) : Prop := ∀ x, i < x → x < n → nrM b M x (nd x)
theorem ndM.ne {b n i : Nat} {M N : xm_M} {nd : NdT} (h : ndM b M n nd i) (s : smNE b i M N) : ndM b N n nd i := fun x h1 h2 k hk => by rw [s.1 _ _ (by omega)]; exact h x h1 h2 k hk
section NM
variable {l : Launch} {E : xm_E} {b : Nat} {c p : Bool} {Q : Option Value → xm_M → Prop} {F : Flt} {n : Nat} {least : Int32} {s : BdT}
theorem lp_fB12 {i : Nat} {B : Nat → Option Int64} {w : Int32} (hi : i < 48) (hO : boOk B) : ∀ (k j : Nat) (L : List NsT) (M : xm_M), j + k = 100 → L.length + k ≤ 100 → boM b M i B → lsM b M L → xm_gi M (b + 154) 19 = xz true → xm_st b c p M →
    (∀ M1, smG b M M1 → lsM b M1 (apL true L (catL (fun k => onL (Int32.ofNat k) (ftB B k)) k j)) → xm_st b c p M1 → xm_X l E y11_findBound rm11_findBound Q 12 [(0, .ref (b + 154)), (1, .int (Int32.ofNat i)), (2, .int w), (3, .int (Int32.ofNat 100))] [] 0 0 M1) →
    xm_X l E y11_findBound rm11_findBound Q 12 [(0, .ref (b + 154)), (1, .int (Int32.ofNat i)), (2, .int w), (3, .int (Int32.ofNat j))] [] 0 0 M := by
  intro k
  induction k with
  | zero =>
    intro j L M hj hlen hB hL hs hS h
    rw [show j = 100 by omega]
    exact h M ⟨fun _ _ _ => rfl, fun _ _ _ => rfl⟩ (by show lsM b M (apL true L []); rw [apL_nil]; exact hL) hS
  | succ k ih =>
    intro j L M hj hlen hB hL hs hS h
    have ec : catL (fun k => onL (Int32.ofNat k) (ftB B k)) (k + 1) j = onL (Int32.ofNat j) (ftB B j) ++ catL (fun k => onL (Int32.ofNat k) (ftB B k)) k (j + 1) := rfl
    rw [ec] at h
    refine t11_findBound_12 M _ _ _ hS ⟨fun g => ?_, fun _ => ?_⟩
    · have g := (xn_le (a := 100) (by decide) (by omega)).mp g
      omega
    rw [ixH, xn_c (by omega), hB j (by omega), show (10 : Int32) = Int32.ofNat 10 from rfl, i32_mod (by omega) (by decide), i32_div (by omega) (by decide), nM_n hO (by omega), xn_s]
    have ii : vp_in (Int32.ofNat (100 * i + j)) 4800 := xn_in (by omega) (by decide)
    refine ⟨ii, fun g hS => ?_, fun g => ⟨ii, ?_⟩⟩
    · have en : ftB B j = none := by unfold ftB; rw [g]; rfl
      rw [en] at h
      exact ih (j + 1) L M (by omega) (by omega) hB hL hs hS h
    · cases hb : B j with
      | none => exact absurd hb g
      | some v =>
        have en : ftB B j = some (Int32.ofNat (j / 10), Int32.ofNat (j % 10), v) := by unfold ftB; rw [hb]; rfl
        rw [en] at h
        refine s11_step hL (by omega) hs hS (fun M1 s1 l1 hS => ⟨rfl, hS, fun hS => ?_⟩)
        have hn1 := apL_len (st := true) (L := L) (A := [(Int32.ofNat j, Int32.ofNat (j / 10), Int32.ofNat (j % 10), v)])
        have hn1 : (apL true L [(Int32.ofNat j, Int32.ofNat (j / 10), Int32.ofNat (j % 10), v)]).length ≤ L.length + 1 := hn1
        have l1 : lsM b M1 (apL true L [(Int32.ofNat j, Int32.ofNat (j / 10), Int32.ofNat (j % 10), v)]) := l1
        exact ih (j + 1) _ M1 (by omega) (by omega) (hB.g s1.g) l1 (by rw [s1.1 _ _ (by omega)]; exact hs) hS (fun M2 s2 l2 hS => h M2 (s1.g.tr s2) (by rw [apL_app] at l2; exact l2) hS)
theorem s11_fB {i : Nat} {B : Nat → Option Int64} {w : Int32} {M : xm_M} (hi : i < 48) (hO : boOk B) (hB : boM b M i B) (hS : xm_st b c p M)
    (h : ∀ M1, smG b M M1 → lsM b M1 (acL B) → xm_st b c p M1 → xm_X l E y11_findBound rm11_findBound Q 12 [(0, .ref (b + 154)), (1, .int (Int32.ofNat i)), (2, .int w), (3, .int (Int32.ofNat 100))] [] 0 0 M1) : xm_C l E y11_findBound rm11_findBound [.ref (b + 154), .int (Int32.ofNat i), .int w] M Q := by
  have s0 := smG_0 (b := b) (M := M) (v := 1) (w := 0)
  have l0 := lsM_0 (b := b) (M := M) (v := 1)
  have g0 := g19_0 (b := b) (M := M) (v := 1)
  refine xm_enter (by decide) (Nat.le_of_ble_eq_true rfl) (t11_findBound_0 M _ _ hS (fun hS => ?_))
  generalize xm_pi (xm_pi M (b + 154) 19 1) (b + 154) 14 0 = N at s0 l0 g0 hS
  exact lp_fB12 hi hO 100 0 [] N rfl (by decide) (hB.g s0) l0 g0 hS (fun M1 s1 l1 hS => h M1 (s0.tr s1) l1 hS)
/-- the first and the second of an access -/
def acR (F : Flt) (B : Nat → Option Int64) (i : Nat) (t : Bool) : Option (List NsT) := if t = true then fnR (acL B) (1 + fB F i) (atI (F.1 i)).toNatClampNeg (amL (F.1 i) (F.2.2.2.1 i)).toInt else fnR (acL B) 0 (1 + fB F i) (F.2.2.2.1 i).toInt
theorem s11_findBound {i : Nat} {t : Bool} {M : xm_M} (hF : fOk F n) (hi : i < n) (hl : s.1 i = true) (hO : bdOk s) (hac : acB (F.1 i) = true) (hC : cnM b M F n least s) (hS : xm_st b c p M) (h : ∀ M1, smGE b M M1 → lsM b M1 (acL (s.2 i)) → (∀ C, acR F (s.2 i) i t = some C → chM b M1 (acL (s.2 i)) C) → xm_st b c p M1 → Q (some (.int (xz (acR F (s.2 i) i t).isSome))) M1) : xm_C l E y11_findBound rm11_findBound [.ref (b + 154), .int (Int32.ofNat i), .int (xz t)] M Q := by
  have hi48 : i < 48 := by have := hF.1; omega
  have ii : vp_in (Int32.ofNat i) 48 := xn_in hi48 (by decide)
  have hOi := hO i hl
  have gd : goodL (acL (s.2 i)) := good_pl hOi
  have hq := (hF.2.2.2 i hi).2.2.1
  have hfb : fB F i < 8 := hq.1
  refine s11_fB hi48 hOi ((hC.2.1 i hi).2 hl) hS (fun M1 s1 l1 hS => ?_)
  have C1 := hC.ge s1.ge
  obtain ⟨f0, f1, f2, f3, f4⟩ := C1.1 i hi48
  have q1 : (1 : Int32) + F.2.2.1 i = Int32.ofNat (1 + fB F i) := by rw [hq.2, one_add]
  refine t11_findBound_12 M1 _ _ _ hS ⟨fun _ => ?_, fun g => absurd (by decide) g⟩
  rw [xn_c (show i < 2 ^ 31 by omega), f2, f3, q1]
  refine ⟨fun g => ⟨ii, ?_⟩, fun g => ⟨ii, ii, ?_⟩⟩
  · have gt := xz_ne g
    have er : acR F (s.2 i) i t = fnR (acL (s.2 i)) (1 + fB F i) (atI (F.1 i)).toNatClampNeg (amL (F.1 i) (F.2.2.2.1 i)).toInt := if_pos gt
    rw [er] at h
    have hac1 : acB (xm_gi M1 (b + 155) i) = true := by rw [f0]; exact hac
    refine s11_upper hi48 hac1 hS (fun hS => ⟨_, rfl, hS, s11_greatest hi48 hac1 hS (fun hS => ⟨_, rfl, hS, ?_⟩)⟩)
    rw [f0, f3]
    obtain ⟨at1, at2⟩ := atI_ok (F.1 i)
    obtain ⟨am1, am2⟩ := amL_bd (F.1 i) (F.2.2.2.1 i)
    rw [at2]
    exact s11_findReason gd.1 (by have := gd.2.1; omega) gd.2.2 (by omega) at1 rfl am1 am2 l1 hS (fun M2 s2 c2 hS => ⟨_, rfl, hS, fun hS => h M2 (s1.ge.tr s2.ge) (l1.e s2) c2 hS⟩)
  · have gf := xz_0.mp g
    have er : acR F (s.2 i) i t = fnR (acL (s.2 i)) 0 (1 + fB F i) (F.2.2.2.1 i).toInt := if_neg (fun z => by rw [gf] at z; cases z)
    rw [er] at h
    have bk1 := Int32.le_toInt (F.2.2.2.1 i)
    have bk2 := Int32.toInt_lt (F.2.2.2.1 i)
    rw [show (0 : Int32) = Int32.ofNat 0 from rfl]
    exact s11_findReason gd.1 (by have := gd.2.1; omega) gd.2.2 (by decide) (by omega) (Int32.toInt_toInt64 (F.2.2.2.1 i)) (by omega) (by omega) l1 hS (fun M2 s2 c2 hS => ⟨_, rfl, hS, fun hS => h M2 (s1.ge.tr s2.ge) (l1.e s2) c2 hS⟩)
theorem acI_R {i : Nat} {B : Nat → Option Int64} (hac : acB (F.1 i) = true) : acI F B i = match acR F B i false with
    | none => none
    | some C => match acR F B i true with
      | none => none
      | some D => some [.inr C, .inr D] := by
  have e1 : acR F B i false = fnR (acL B) 0 (1 + fB F i) (F.2.2.2.1 i).toInt := if_neg (by decide)
  have e2 : acR F B i true = fnR (acL B) (1 + fB F i) (atI (F.1 i)).toNatClampNeg (amL (F.1 i) (F.2.2.2.1 i)).toInt := if_pos rfl
  unfold acI
  rw [if_pos hac, e1, e2]
  generalize fnR (acL B) 0 (1 + fB F i) (F.2.2.2.1 i).toInt = x
  generalize fnR (acL B) (1 + fB F i) (atI (F.1 i)).toNatClampNeg (amL (F.1 i) (F.2.2.2.1 i)).toInt = y
  cases x <;> cases y <;> rfl
/-- needs of a row -/
theorem lp_nc2 {i : Nat} {o : Int32} {B : Nat → Option Int64} {L C : List NsT} (hi : i < 48) (hlen : L.length ≤ 1200) (hC : C.length ≤ 12) (hK : ∀ t, t ∈ C → okN o B t) : ∀ (C2 C1 : List NsT) (f : Nat → Bool) (M : xm_M), C = C1 ++ C2 → lsM b M L → chM b M L C → xm_gi M (b + 155) i = o → nrM b M i f → xm_st b c p M →
    (∀ M1, smNM b i M M1 → nrM b M1 i (mkR o C2 f) → xm_st b c p M1 → Q none M1) →
    xm_X l E y11_needChosen rm11_needChosen Q 2 [(0, .ref (b + 154)), (1, .int (Int32.ofNat i)), (2, .int (Int32.ofNat C1.length))] [] 0 0 M := by
  intro C2
  induction C2 with
  | nil =>
    intro C1 f M e hL hR ho hN hS h
    rw [List.append_nil] at e
    subst e
    refine t11_needChosen_2 M _ _ hS ?_
    rw [hR.1]
    exact ⟨fun _ hS => h M smNM.rf hN hS, fun g => absurd ((xn_le (by omega) (by omega)).mpr (Nat.le_refl _)) g⟩
  | cons t C2 ih =>
    intro C1 f M e hL hR ho hN hS h
    have hl : C1.length < C.length := by rw [e, List.length_append]; show _ < _ + (C2.length + 1); omega
    have gs : C[C1.length]? = some t := by rw [e, List.getElem?_append_right (Nat.le_refl _), Nat.sub_self]; rfl
    have hl' : (C1 ++ [t]).length = C1.length + 1 := by rw [List.length_append]; rfl
    obtain ⟨j, j1, j2⟩ := hR.2 _ t gs
    have hjl : j < L.length := (List.getElem?_eq_some_iff.mp j2).1
    obtain ⟨m, m1, m2, m3, m4⟩ := hK t (List.mem_of_getElem? gs)
    have q1 := (hL.2 j t j2).1
    have em : t.1.toNatClampNeg = m := by rw [m2, xn_c (by omega)]
    have eR : mkR o (t :: C2) f = mkR o C2 (mk1 o m f) := by show mkR o C2 (mk1 o t.1.toNatClampNeg f) = _; rw [em]
    rw [eR] at h
    have nx : ∀ M1, smNM b i M M1 → nrM b M1 i (mk1 o m f) → xm_st b c p M1 → xm_X l E y11_needChosen rm11_needChosen Q 2 [(0, .ref (b + 154)), (1, .int (Int32.ofNat i)), (2, .int (Int32.ofNat (C1.length + 1)))] [] 0 0 M1 := fun M1 s1 n1 hS => by
      have := ih (C1 ++ [t]) _ M1 (by rw [List.append_assoc]; exact e) (hL.nm s1) ⟨by rw [s1.1 _ _ (by omega)]; exact hR.1, fun k z hz => by rw [s1.1 _ _ (by omega)]; exact hR.2 k z hz⟩ (by rw [s1.1 _ _ (by omega)]; exact ho) n1 hS (fun M2 s2 n2 hS => h M2 (s1.tr s2) n2 hS)
      rw [hl'] at this
      exact this
    have e1 : mk1 o m f = if m < 100 then st1 f m else if o = 4 then st1 (st1 f ((m - 100) / 100)) ((m - 100) % 100) else f := rfl
    have put : ∀ (g : Nat → Bool) (N : xm_M) (y : Nat), y < 100 → smNM b i M N → nrM b N i g → smNM b i M (xm_pi N (b + 172) (100 * i + y) 1) ∧ nrM b (xm_pi N (b + 172) (100 * i + y) 1) i (st1 g y) := fun g N y hy sN nN => by
      refine ⟨sN.tr ⟨fun x k q => by rw [gi_pi, if_neg (by omega)], fun _ _ => rfl⟩, fun k hk => ?_⟩
      rw [gi_pi]
      unfold st1
      by_cases ek : k = y
      · rw [if_pos ⟨rfl, by omega⟩, if_pos ek]; rfl
      · rw [if_neg (by omega), if_neg ek]; exact nN k hk
    refine t11_needChosen_2 M _ _ hS ?_
    rw [hR.1, xn_c (show C1.length < 2 ^ 31 by omega), j1, xn_c (show j < 2 ^ 31 by omega), q1, m2, xn_c (show i < 2 ^ 31 by omega), ho, xn_s]
    refine ⟨fun g => ?_, fun _ => ⟨xn_in (by omega) (by decide), xn_in (by omega) (by decide), fun g => ⟨xn_in hi (by decide), ?_⟩, fun g => ?_⟩⟩
    · have g := (xn_le (by omega) (by omega)).mp g
      omega
    · have g : 100 ≤ m := (xn_le (a := 100) (by decide) (by omega)).mp g
      rw [if_neg (by omega)] at e1
      refine ⟨fun g4 hS => nx M smNM.rf ?_ hS, fun g4 => ?_⟩
      · rw [e1, if_neg g4]; exact hN
      · obtain ⟨p1, _, _⟩ := m4 g g4
        rw [if_pos g4] at e1
        have ix : ∀ y, (100 : Int32) * Int32.ofNat i + Int32.ofNat y = Int32.ofNat (100 * i + y) := fun y => ixH i y
        have d1 : (Int32.ofNat m - (100 : Int32)) / (100 : Int32) = Int32.ofNat ((m - 100) / 100) := by rw [n100 g, show (100 : Int32) = Int32.ofNat 100 from rfl, i32_div (by omega) (by decide)]
        have d2 : (Int32.ofNat m - (100 : Int32)) - (Int32.ofNat m - (100 : Int32)) / (100 : Int32) * (100 : Int32) = Int32.ofNat ((m - 100) % 100) := by rw [n100 g, show (100 : Int32) = Int32.ofNat 100 from rfl, i32_mod (by omega) (by decide)]
        rw [d2, d1, ix, ix, xn_c (by omega), xn_c (by omega)]
        have p2 := put f M ((m - 100) / 100) p1 smNM.rf hN
        have p3 := put (st1 f ((m - 100) / 100)) _ ((m - 100) % 100) (by omega) p2.1 p2.2
        refine ⟨xn_in (by omega) (by decide), xn_in (by omega) (by decide), fun hS => nx _ p3.1 ?_ hS⟩
        rw [e1]; exact p3.2
    · have g : ¬ 100 ≤ m := fun z => g ((xn_le (a := 100) (by decide) (by omega)).mpr z)
      rw [if_pos (by omega)] at e1
      rw [ixH, xn_c (by omega)]
      have p2 := put f M m (by omega) smNM.rf hN
      exact ⟨xn_in (by omega) (by decide), fun hS => nx _ p2.1 (by rw [e1]; exact p2.2) hS⟩
theorem s11_needChosen {i : Nat} {o : Int32} {B : Nat → Option Int64} {L C : List NsT} {f : Nat → Bool} {M : xm_M} (hi : i < 48) (hlen : L.length ≤ 1200) (hC : C.length ≤ 12) (hK : ∀ t, t ∈ C → okN o B t) (hL : lsM b M L) (hR : chM b M L C) (ho : xm_gi M (b + 155) i = o) (hN : nrM b M i f) (hS : xm_st b c p M) (h : ∀ M1, smNM b i M M1 → nrM b M1 i (mkR o C f) → xm_st b c p M1 → Q none M1) : xm_C l E y11_needChosen rm11_needChosen [.ref (b + 154), .int (Int32.ofNat i)] M Q :=
  xm_enter (by decide) (Nat.le_of_ble_eq_true rfl) (t11_needChosen_0 M _ hS (fun hS => lp_nc2 hi hlen hC hK C [] f M rfl hL hR ho hN hS h))
theorem lp_fa4 {i : Nat} {f : Nat → Bool} {M : xm_M} (hi : i < 48) (hN : nrM b M i f) (h : xm_st b c p M → Q (some (.int (Int32.ofNat (rkN f 100)))) M) : ∀ (k j : Nat), j + k = 100 → xm_st b c p M →
    xm_X l E y11_factsAt rm11_factsAt Q 4 [(0, .ref (b + 154)), (1, .int (Int32.ofNat i)), (2, .int (Int32.ofNat (rkN f j))), (3, .int (Int32.ofNat j))] [] 0 0 M := by
  intro k
  induction k with
  | zero =>
    intro j hj hS
    have hj : j = 100 := by omega
    subst hj
    exact t11_factsAt_4 M _ _ _ hS ⟨fun _ => h, fun g => absurd (by decide) g⟩
  | succ k ih =>
    intro j hj hS
    refine t11_factsAt_4 M _ _ _ hS ⟨fun g => ?_, fun _ => ?_⟩
    · have g := (xn_le (a := 100) (by decide) (by omega)).mp g
      omega
    have er : rkN f (j + 1) = rkN f j + oneN f j := rfl
    have go := ih (j + 1) (by omega)
    rw [ixH, xn_c (by omega), hN j (by omega), xn_s]
    refine ⟨xn_in (by omega) (by decide), fun g hS => ?_, fun g hS => ?_⟩
    · have : oneN f j = 0 := if_neg (fun z => by rw [xz_0.mp g] at z; cases z)
      rw [er, this] at go
      rw [Int32.add_zero]
      exact go hS
    · have : oneN f j = 1 := if_pos (xz_ne g)
      rw [er, this] at go
      rw [ix1]
      exact go hS
theorem s11_factsAt {i : Nat} {f : Nat → Bool} {M : xm_M} (hi : i < 48) (hN : nrM b M i f) (hS : xm_st b c p M) (h : xm_st b c p M → Q (some (.int (Int32.ofNat (rkN f 100)))) M) : xm_C l E y11_factsAt rm11_factsAt [.ref (b + 154), .int (Int32.ofNat i)] M Q :=
  xm_enter (by decide) (Nat.le_of_ble_eq_true rfl) (t11_factsAt_0 M _ hS (fun hS => lp_fa4 hi hN h 100 0 rfl hS))
theorem lp_fn5 {i m : Nat} {f : Nat → Bool} {M : xm_M} (hi : i < 48) (hm : m ≤ 100) (hN : nrM b M i f) (h : xm_st b c p M → Q (some (.int (Int32.ofNat (rkN f m)))) M) : ∀ (k j : Nat), j + k = m → xm_st b c p M →
    xm_X l E y11_factNumber rm11_factNumber Q 5 [(0, .ref (b + 154)), (1, .int (Int32.ofNat i)), (2, .int (Int32.ofNat m)), (3, .int (Int32.ofNat (rkN f j))), (4, .int (Int32.ofNat j))] [] 0 0 M := by
  intro k
  induction k with
  | zero =>
    intro j hj hS
    have hj : j = m := by omega
    subst hj
    exact t11_factNumber_5 M _ _ _ _ hS ⟨fun _ => h, fun g => absurd ((xn_le (by omega) (by omega)).mpr (Nat.le_refl _)) g⟩
  | succ k ih =>
    intro j hj hS
    refine t11_factNumber_5 M _ _ _ _ hS ⟨fun g => ?_, fun _ => ?_⟩
    · have g := (xn_le (by omega) (by omega)).mp g
      omega
    have er : rkN f (j + 1) = rkN f j + oneN f j := rfl
    have go := ih (j + 1) (by omega)
    rw [ixH, xn_c (by omega), hN j (by omega), xn_s]
    refine ⟨xn_in (by omega) (by decide), fun g hS => ?_, fun g hS => ?_⟩
    · have : oneN f j = 0 := if_neg (fun z => by rw [xz_0.mp g] at z; cases z)
      rw [er, this] at go
      rw [Int32.add_zero]
      exact go hS
    · have : oneN f j = 1 := if_pos (xz_ne g)
      rw [er, this] at go
      rw [ix1]
      exact go hS
theorem s11_factNumber {i m : Nat} {f : Nat → Bool} {M : xm_M} (hi : i < 48) (hm : m ≤ 100) (hN : nrM b M i f) (hS : xm_st b c p M) (h : xm_st b c p M → Q (some (.int (Int32.ofNat (rkN f m)))) M) : xm_C l E y11_factNumber rm11_factNumber [.ref (b + 154), .int (Int32.ofNat i), .int (Int32.ofNat m)] M Q :=
  xm_enter (by decide) (Nat.le_of_ble_eq_true rfl) (t11_factNumber_0 M _ _ hS (fun hS => lp_fn5 hi hm hN h m 0 (by omega) hS))
end NM
