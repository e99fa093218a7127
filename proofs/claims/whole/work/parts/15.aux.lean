theorem xm_vl {i : Int32} {n : Nat} (h : ¬ (i < 0 ∨ n ≤ i.toNatClampNeg)) : vp_in i n := h
/-- the memory gets a name -/
theorem xm_nm {l : Launch} {E : xm_E} {Y : xm_Y} {R : Room} {Q : Option Value → xm_M → Prop} {pc : Nat} {L : List (Nat × Value)} {st : List Value} {cs sl : Nat} {M : xm_M} (k : ∀ M1 : xm_M, M1 = M → xm_X l E Y R Q pc L st cs sl M1) : xm_X l E Y R Q pc L st cs sl M := k M rfl
