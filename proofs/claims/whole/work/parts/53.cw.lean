def rm2_init : Room := { frames := 1, cells := 0, slots := 0, locals := 20 }
def rm7_init : Room := { frames := 1, cells := 0, slots := 0, locals := 20 }
def rm3_init : Room := { frames := 1, cells := 1, slots := 20000, locals := 20 }
def rm4_init : Room := { frames := 1, cells := 1, slots := 1024, locals := 20 }
def rm10_init : Room := { frames := 1, cells := 2, slots := 40, locals := 20 }
def rm9_init : Room := { frames := 2, cells := 5, slots := 105, locals := 40 }
def rm8_init : Room := { frames := 1, cells := 15, slots := 155, locals := 20 }
def rm6_init : Room := { frames := 2, cells := 18, slots := 919, locals := 40 }
def rm1_init : Room := { frames := 2, cells := 49, slots := 288, locals := 40 }
def rm5_init : Room := { frames := 3, cells := 89, slots := 11026, locals := 60 }
def rm0_init : Room := { frames := 4, cells := 153, slots := 32517, locals := 81 }
def rm11_init : Room := { frames := 1, cells := 23, slots := 56186, locals := 20 }
theorem ciL_7 : xm_ci "FilterProofLaw" 7 0 7 := ⟨_, rfl, rfl, (xm_in (List.mem_of_getElem? (i := 15) (by decide +kernel)) rfl), (xm_in (List.mem_of_getElem? (i := 16) (by decide +kernel)) rfl), (xm_in (List.mem_of_getElem? (i := 1) (by decide +kernel)) rfl), by decide⟩
theorem ci0_9 : xm_ci "FilterProof" 9 1 3 := ⟨_, rfl, rfl, (xm_in (List.mem_of_getElem? (i := 23) (by decide +kernel)) rfl), (xm_in (List.mem_of_getElem? (i := 24) (by decide +kernel)) rfl), (xm_in (List.mem_of_getElem? (i := 2) (by decide +kernel)) rfl), by decide⟩
theorem cl1_9 : Cond.classLink "FilterProof$Filter" 9 "FilterProof$Instruction" ∈ xm_tbl := (xm_in (List.mem_of_getElem? (i := 35) (by decide +kernel)) rfl)
theorem ci1_9 : xm_ci "FilterProof$Filter" 9 2 5 := ⟨_, rfl, rfl, (xm_in (List.mem_of_getElem? (i := 35) (by decide +kernel)) rfl), (xm_in (List.mem_of_getElem? (i := 37) (by decide +kernel)) rfl), (xm_in (List.mem_of_getElem? (i := 4) (by decide +kernel)) rfl), by decide⟩
theorem ci0_27 : xm_ci "FilterProof" 27 3 2 := ⟨_, rfl, rfl, (xm_in (List.mem_of_getElem? (i := 101) (by decide +kernel)) rfl), (xm_in (List.mem_of_getElem? (i := 102) (by decide +kernel)) rfl), (xm_in (List.mem_of_getElem? (i := 5) (by decide +kernel)) rfl), by decide⟩
theorem ci0_34 : xm_ci "FilterProof" 34 4 2 := ⟨_, rfl, rfl, (xm_in (List.mem_of_getElem? (i := 117) (by decide +kernel)) rfl), (xm_in (List.mem_of_getElem? (i := 118) (by decide +kernel)) rfl), (xm_in (List.mem_of_getElem? (i := 6) (by decide +kernel)) rfl), by decide⟩
theorem ci0_41 : xm_ci "FilterProof" 41 5 12 := ⟨_, rfl, rfl, (xm_in (List.mem_of_getElem? (i := 133) (by decide +kernel)) rfl), (xm_in (List.mem_of_getElem? (i := 134) (by decide +kernel)) rfl), (xm_in (List.mem_of_getElem? (i := 7) (by decide +kernel)) rfl), by decide⟩
theorem cl5_9 : Cond.classLink "FilterProof$Producer" 9 "[[J" ∈ xm_tbl := (xm_in (List.mem_of_getElem? (i := 139) (by decide +kernel)) rfl)
theorem ci5_33 : xm_ci "FilterProof$Producer" 33 6 9 := ⟨_, rfl, rfl, (xm_in (List.mem_of_getElem? (i := 141) (by decide +kernel)) rfl), (xm_in (List.mem_of_getElem? (i := 142) (by decide +kernel)) rfl), (xm_in (List.mem_of_getElem? (i := 8) (by decide +kernel)) rfl), by decide⟩
theorem cl6_25 : Cond.classLink "FilterProof$StepList" 25 "[[J" ∈ xm_tbl := (xm_in (List.mem_of_getElem? (i := 147) (by decide +kernel)) rfl)
theorem ci6_30 : xm_ci "FilterProof$StepList" 30 7 3 := ⟨_, rfl, rfl, (xm_in (List.mem_of_getElem? (i := 148) (by decide +kernel)) rfl), (xm_in (List.mem_of_getElem? (i := 149) (by decide +kernel)) rfl), (xm_in (List.mem_of_getElem? (i := 9) (by decide +kernel)) rfl), by decide⟩
theorem ci5_40 : xm_ci "FilterProof$Producer" 40 8 3 := ⟨_, rfl, rfl, (xm_in (List.mem_of_getElem? (i := 206) (by decide +kernel)) rfl), (xm_in (List.mem_of_getElem? (i := 207) (by decide +kernel)) rfl), (xm_in (List.mem_of_getElem? (i := 10) (by decide +kernel)) rfl), by decide⟩
theorem cl8_9 : Cond.classLink "FilterProof$RowFinder" 9 "[[J" ∈ xm_tbl := (xm_in (List.mem_of_getElem? (i := 212) (by decide +kernel)) rfl)
theorem ci0_48 : xm_ci "FilterProof" 48 9 11 := ⟨_, rfl, rfl, (xm_in (List.mem_of_getElem? (i := 266) (by decide +kernel)) rfl), (xm_in (List.mem_of_getElem? (i := 267) (by decide +kernel)) rfl), (xm_in (List.mem_of_getElem? (i := 12) (by decide +kernel)) rfl), by decide⟩
theorem ci9_18 : xm_ci "FilterProof$Consumer" 18 7 3 := ⟨_, rfl, rfl, (xm_in (List.mem_of_getElem? (i := 272) (by decide +kernel)) rfl), (xm_in (List.mem_of_getElem? (i := 149) (by decide +kernel)) rfl), (xm_in (List.mem_of_getElem? (i := 9) (by decide +kernel)) rfl), by decide⟩
theorem ci0_55 : xm_ci "FilterProof" 55 10 4 := ⟨_, rfl, rfl, (xm_in (List.mem_of_getElem? (i := 309) (by decide +kernel)) rfl), (xm_in (List.mem_of_getElem? (i := 310) (by decide +kernel)) rfl), (xm_in (List.mem_of_getElem? (i := 13) (by decide +kernel)) rfl), by decide⟩
theorem ciL_18 : xm_ci "FilterProofLaw" 18 11 37 := ⟨_, rfl, rfl, (xm_in (List.mem_of_getElem? (i := 756) (by decide +kernel)) rfl), (xm_in (List.mem_of_getElem? (i := 757) (by decide +kernel)) rfl), (xm_in (List.mem_of_getElem? (i := 14) (by decide +kernel)) rfl), by decide⟩
theorem ac_int : Cond.arrayClass .int ∈ xm_tbl := (xm_in (List.mem_of_getElem? (i := 116) (by decide +kernel)) rfl)
theorem ac_long : Cond.arrayClass .long ∈ xm_tbl := (xm_in (List.mem_of_getElem? (i := 170) (by decide +kernel)) rfl)
theorem ac_boolean : Cond.arrayClass .boolean ∈ xm_tbl := (xm_in (List.mem_of_getElem? (i := 171) (by decide +kernel)) rfl)
theorem ac_byte : Cond.arrayClass .byte ∈ xm_tbl := (xm_in (List.mem_of_getElem? (i := 132) (by decide +kernel)) rfl)
theorem oi_1 : Cond.instanceMethod Lib.objectInit ∈ xm_tbl := (xm_in (List.mem_of_getElem? (i := 21) (by decide +kernel)) rfl)
theorem oi_2 : Cond.code Lib.objectInit ⟨#[0xb1]⟩ 1 none ∈ xm_tbl := (xm_in (List.mem_of_getElem? (i := 22) (by decide +kernel)) rfl)
