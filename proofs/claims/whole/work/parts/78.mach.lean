/-! one instruction of the machine, as both do it: trap, the register's new value, what is written to scratch -/
def ldf (P : Nat → Int32) (s : Nat) : Nat → Nat → Int32 → Int32
  | 0, _, v => v
  | k + 1, i, v => ldf P s k (i + 1) ((v <<< ((8 : Int32) &&& 31)) ||| (P (s + i) &&& 255))
def szO (o : Int32) : Nat := if o = 8 then 1 else if o = 9 then 2 else 4
def bec (w : Int64) : Int32 × Option Int32 × Option (Nat × Int32) := if w = Int32.toInt64 (Int64.toInt32 w) then (0, some (Int64.toInt32 w), none) else (3, none, none)
def mW (o k : Int32) (a q : Nat) (R S P : Nat → Int32) (len : Nat) : Int32 × Option Int32 × Option (Nat × Int32) :=
  if o = 1 then (0, some k, none)
  else if o = 2 then (0, some (R q), none)
  else if o = 3 then bec (Int32.toInt64 (R a) + Int32.toInt64 k)
  else if o = 4 then bec (Int32.toInt64 (R a) + Int32.toInt64 (R q))
  else if o = 5 then bec (Int32.toInt64 (R a) - Int32.toInt64 (R q))
  else if o = 6 then (0, some (R a &&& k), none)
  else if o = 7 then (0, some (Int32.toUInt32 (R a) >>> (Int32.toUInt32 k &&& Int32.toUInt32 31)).toInt32, none)
  else if o = 8 ∨ o = 9 ∨ o = 10 then (if (R q).toInt + k.toInt < 0 ∨ (len : Int) < (R q).toInt + k.toInt + (szO o : Nat) then (1, none, none) else (0, some (ldf P ((R q).toInt + k.toInt).toNat (szO o) 0 0), none))
  else if o = 11 then (if (R q).toInt + k.toInt < 0 ∨ 31 < (R q).toInt + k.toInt then (2, none, none) else (0, some (S ((R q).toInt + k.toInt).toNat), none))
  else if o = 12 then (if (R q).toInt + k.toInt < 0 ∨ 31 < (R q).toInt + k.toInt then (2, none, none) else (0, none, some (((R q).toInt + k.toInt).toNat, R a &&& 255)))
  else (0, none, none)
def mRg (a : Nat) (R : Nat → Int32) (v : Option Int32) : Nat → Int32 := match v with
  | none => R
  | some x => fun j => if j = a then x else R j
def mSc (S : Nat → Int32) (v : Option (Nat × Int32)) : Nat → Int32 := match v with
  | none => S
  | some x => fun j => if j = x.1 then x.2 else S j
def mJ (o k : Int32) (a q : Nat) (R : Nat → Int32) : Bool := decide (o = 13) || (decide (o = 14) && decide (R a < R q)) || (decide (o = 15) && decide (R a < k)) || (decide (o = 16) && decide (R a = R q))
def mcX (b : Nat) (M : xm_M) (R S : Nat → Int32) : Prop := (∀ j, j < 8 → xm_gi M (b + 152) j = R j) ∧ ∀ j, j < 32 → xm_gi M (b + 153) j &&& 255 = S j
def mcM (b : Nat) (M : xm_M) (R S : Nat → Int32) : Prop := (∀ j, j < 8 → xm_gi M (b + 176) j = R j) ∧ ∀ j, j < 32 → xm_gi M (b + 177) j = S j
/-! longs of two ints -/
theorem zl_i2l (x : Int32) : (Int32.toInt64 x).toInt = x.toInt := Int32.toInt_toInt64 x
theorem i32_rng (x : Int32) : -2147483648 ≤ x.toInt ∧ x.toInt ≤ 2147483647 := ⟨Int32.le_toInt x, Int32.toInt_le x⟩
theorem zl_add (a b : Int64) (h : -9223372036854775808 ≤ a.toInt + b.toInt ∧ a.toInt + b.toInt < 9223372036854775808) : (a + b).toInt = a.toInt + b.toInt := by
  rw [Int64.toInt_add]; exact Int.bmod_eq_of_le (by omega) (by omega)
theorem zl_sub (a b : Int64) (h : -9223372036854775808 ≤ a.toInt - b.toInt ∧ a.toInt - b.toInt < 9223372036854775808) : (a - b).toInt = a.toInt - b.toInt := by
  rw [Int64.toInt_sub]; exact Int.bmod_eq_of_le (by omega) (by omega)
theorem zl_sum (x y : Int32) : (Int32.toInt64 x + Int32.toInt64 y).toInt = x.toInt + y.toInt := by
  have h1 := i32_rng x; have h2 := i32_rng y
  rw [zl_add _ _ (by rw [zl_i2l, zl_i2l]; omega), zl_i2l, zl_i2l]
theorem zl_dif (x y : Int32) : (Int32.toInt64 x - Int32.toInt64 y).toInt = x.toInt - y.toInt := by
  have h1 := i32_rng x; have h2 := i32_rng y
  rw [zl_sub _ _ (by rw [zl_i2l, zl_i2l]; omega), zl_i2l, zl_i2l]
theorem zl_l2i {w : Int64} (h : -2147483648 ≤ w.toInt ∧ w.toInt ≤ 2147483647) : (Int64.toInt32 w).toInt = w.toInt := by
  rw [Int64.toInt_toInt32]; exact Int.bmod_eq_of_le (by omega) (by omega)
theorem zl_l2n {w : Int64} (h : 0 ≤ w.toInt ∧ w.toInt ≤ 2147483647) : Int64.toInt32 w = Int32.ofNat w.toInt.toNat := Int32.toInt_inj.mp (by rw [zl_l2i (by omega), toInt_of rfl (by omega)]; omega)
theorem zl_fit (w : Int64) : w = Int32.toInt64 (Int64.toInt32 w) ↔ -2147483648 ≤ w.toInt ∧ w.toInt ≤ 2147483647 := by
  constructor
  · intro h
    have := congrArg Int64.toInt h
    rw [zl_i2l] at this
    have := i32_rng (Int64.toInt32 w)
    omega
  · intro h
    exact Int64.toInt_inj.mp (by rw [zl_i2l, zl_l2i h])
theorem b255 : ∀ i : Fin 32, 8 ≤ i.val → (255 : Int32).toBitVec.getLsbD i.val = false := by decide
theorem byte_255 (x : Int32) : ((Int32.toInt8 ((Int32.toInt8 x).toInt32)).toInt32) &&& 255 = x &&& 255 := by
  apply Int32.toBitVec_inj.mp
  simp only [Int32.toBitVec_and, Int8.toBitVec_toInt32, Int32.toBitVec_toInt8]
  ext i hi
  simp only [BitVec.getElem_and]
  by_cases h8 : i < 8
  · simp [BitVec.getElem_signExtend, h8, hi]
  · have : (255 : Int32).toBitVec[i] = false := by
      rw [← BitVec.getLsbD_eq_getElem]
      exact b255 ⟨i, hi⟩ (Nat.not_lt.mp h8)
    rw [this, Bool.and_false, Bool.and_false]
