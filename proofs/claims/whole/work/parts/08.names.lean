theorem qi_0 : Int32.ofInt (0) = (0) := by decide +kernel
theorem qs_1024 : (Int16.ofInt (1024)).toInt32 = (1024) := by decide +kernel
theorem qb_n2 : (Int8.ofInt (-2)).toInt32 = (-2) := by decide +kernel
theorem qb_48 : (Int8.ofInt (48)).toInt32 = (48) := by decide +kernel
theorem qs_20000 : (Int16.ofInt (20000)).toInt32 = (20000) := by decide +kernel
theorem qb_100 : (Int8.ofInt (100)).toInt32 = (100) := by decide +kernel
theorem qb_96 : (Int8.ofInt (96)).toInt32 = (96) := by decide +kernel
theorem qs_4800 : (Int16.ofInt (4800)).toInt32 = (4800) := by decide +kernel
theorem qs_200 : (Int16.ofInt (200)).toInt32 = (200) := by decide +kernel
theorem qb_10 : (Int8.ofInt (10)).toInt32 = (10) := by decide +kernel
theorem qb_13 : (Int8.ofInt (13)).toInt32 = (13) := by decide +kernel
theorem qb_12 : (Int8.ofInt (12)).toInt32 = (12) := by decide +kernel
theorem qb_8 : (Int8.ofInt (8)).toInt32 = (8) := by decide +kernel
theorem qb_32 : (Int8.ofInt (32)).toInt32 = (32) := by decide +kernel
theorem qb_16 : (Int8.ofInt (16)).toInt32 = (16) := by decide +kernel
theorem qi_n1 : Int32.ofInt (-1) = (-1) := by decide +kernel
theorem qb_n3 : (Int8.ofInt (-3)).toInt32 = (-3) := by decide +kernel
theorem qi_1 : Int32.ofInt (1) = (1) := by decide +kernel
theorem qb_6 : (Int8.ofInt (6)).toInt32 = (6) := by decide +kernel
theorem qb_7 : (Int8.ofInt (7)).toInt32 = (7) := by decide +kernel
theorem qb_31 : (Int8.ofInt (31)).toInt32 = (31) := by decide +kernel
theorem qb_24 : (Int8.ofInt (24)).toInt32 = (24) := by decide +kernel
theorem qi_2 : Int32.ofInt (2) = (2) := by decide +kernel
theorem qb_18 : (Int8.ofInt (18)).toInt32 = (18) := by decide +kernel
theorem qb_9 : (Int8.ofInt (9)).toInt32 = (9) := by decide +kernel
theorem ql_0 : Int64.ofNat (((0 : Fin 2)) : Nat) = (0) := by decide +kernel
theorem qb_14 : (Int8.ofInt (14)).toInt32 = (14) := by decide +kernel
theorem qi_4 : Int32.ofInt (4) = (4) := by decide +kernel
theorem qi_3 : Int32.ofInt (3) = (3) := by decide +kernel
theorem qi_5 : Int32.ofInt (5) = (5) := by decide +kernel
theorem qb_11 : (Int8.ofInt (11)).toInt32 = (11) := by decide +kernel
theorem ql_1 : Int64.ofNat (((1 : Fin 2)) : Nat) = (1) := by decide +kernel
theorem qs_255 : (Int16.ofInt (255)).toInt32 = (255) := by decide +kernel
theorem qs_1200 : (Int16.ofInt (1200)).toInt32 = (1200) := by decide +kernel
theorem qs_130 : (Int16.ofInt (130)).toInt32 = (130) := by decide +kernel
theorem qb_15 : (Int8.ofInt (15)).toInt32 = (15) := by decide +kernel
def y0_init : xm_Y := (⟨"FilterProof", "<init>", "(I)V"⟩, prog_1_method_1_code, 2, none)
theorem k0_init : xm_calI y0_init 1 := ⟨⟨(xm_in (List.mem_of_getElem? (i := 19) (by decide +kernel)) rfl), (xm_in (List.mem_of_getElem? (i := 1) (by decide +kernel)) rfl), by decide +kernel, by decide +kernel, by decide +kernel⟩, (xm_in (List.mem_of_getElem? (i := 18) (by decide +kernel)) rfl), rfl, rfl⟩
def ym_min_I : xm_Y := (⟨"java/lang/Math", "min", "(II)I"⟩, prog_14_method_69_code, 2, (some .int))
def rmm_min_I : Room := { frames := 0, cells := 0, slots := 0, locals := 0 }
theorem km_min_I : xm_calS ym_min_I 2 := ⟨⟨(xm_in (List.mem_of_getElem? (i := 27) (by decide +kernel)) rfl), (xm_in (List.mem_of_getElem? (i := 3) (by decide +kernel)) rfl), by decide +kernel, by decide +kernel, by decide +kernel⟩, (xm_in (List.mem_of_getElem? (i := 26) (by decide +kernel)) rfl)⟩
def ym_max_I : xm_Y := (⟨"java/lang/Math", "max", "(II)I"⟩, prog_14_method_65_code, 2, (some .int))
def rmm_max_I : Room := { frames := 0, cells := 0, slots := 0, locals := 0 }
theorem km_max_I : xm_calS ym_max_I 2 := ⟨⟨(xm_in (List.mem_of_getElem? (i := 30) (by decide +kernel)) rfl), (xm_in (List.mem_of_getElem? (i := 3) (by decide +kernel)) rfl), by decide +kernel, by decide +kernel, by decide +kernel⟩, (xm_in (List.mem_of_getElem? (i := 29) (by decide +kernel)) rfl)⟩
def y1_init : xm_Y := (⟨"FilterProof$Filter", "<init>", "(I)V"⟩, prog_3_method_1_code, 3, none)
theorem k1_init : xm_calI y1_init 1 := ⟨⟨(xm_in (List.mem_of_getElem? (i := 33) (by decide +kernel)) rfl), (xm_in (List.mem_of_getElem? (i := 2) (by decide +kernel)) rfl), by decide +kernel, by decide +kernel, by decide +kernel⟩, (xm_in (List.mem_of_getElem? (i := 32) (by decide +kernel)) rfl), rfl, rfl⟩
def y2_init : xm_Y := (⟨"FilterProof$Instruction", "<init>", "()V"⟩, prog_4_method_1_code, 1, none)
theorem k2_init : xm_calI y2_init 0 := ⟨⟨(xm_in (List.mem_of_getElem? (i := 40) (by decide +kernel)) rfl), (xm_in (List.mem_of_getElem? (i := 4) (by decide +kernel)) rfl), by decide +kernel, by decide +kernel, by decide +kernel⟩, (xm_in (List.mem_of_getElem? (i := 39) (by decide +kernel)) rfl), rfl, rfl⟩
def y3_init : xm_Y := (⟨"FilterProof$Tape", "<init>", "()V"⟩, prog_11_method_1_code, 1, none)
theorem k3_init : xm_calI y3_init 0 := ⟨⟨(xm_in (List.mem_of_getElem? (i := 105) (by decide +kernel)) rfl), (xm_in (List.mem_of_getElem? (i := 5) (by decide +kernel)) rfl), by decide +kernel, by decide +kernel, by decide +kernel⟩, (xm_in (List.mem_of_getElem? (i := 104) (by decide +kernel)) rfl), rfl, rfl⟩
def y4_init : xm_Y := (⟨"FilterProof$Packet", "<init>", "()V"⟩, prog_6_method_1_code, 1, none)
theorem k4_init : xm_calI y4_init 0 := ⟨⟨(xm_in (List.mem_of_getElem? (i := 121) (by decide +kernel)) rfl), (xm_in (List.mem_of_getElem? (i := 6) (by decide +kernel)) rfl), by decide +kernel, by decide +kernel, by decide +kernel⟩, (xm_in (List.mem_of_getElem? (i := 120) (by decide +kernel)) rfl), rfl, rfl⟩
def y5_init : xm_Y := (⟨"FilterProof$Producer", "<init>", "()V"⟩, prog_7_method_1_code, 2, none)
theorem k5_init : xm_calI y5_init 0 := ⟨⟨(xm_in (List.mem_of_getElem? (i := 137) (by decide +kernel)) rfl), (xm_in (List.mem_of_getElem? (i := 7) (by decide +kernel)) rfl), by decide +kernel, by decide +kernel, by decide +kernel⟩, (xm_in (List.mem_of_getElem? (i := 136) (by decide +kernel)) rfl), rfl, rfl⟩
def y6_init : xm_Y := (⟨"FilterProof$StepList", "<init>", "()V"⟩, prog_10_method_1_code, 1, none)
theorem k6_init : xm_calI y6_init 0 := ⟨⟨(xm_in (List.mem_of_getElem? (i := 145) (by decide +kernel)) rfl), (xm_in (List.mem_of_getElem? (i := 8) (by decide +kernel)) rfl), by decide +kernel, by decide +kernel, by decide +kernel⟩, (xm_in (List.mem_of_getElem? (i := 144) (by decide +kernel)) rfl), rfl, rfl⟩
def y7_init : xm_Y := (⟨"FilterProof$Step", "<init>", "()V"⟩, prog_9_method_1_code, 1, none)
theorem k7_init : xm_calI y7_init 0 := ⟨⟨(xm_in (List.mem_of_getElem? (i := 152) (by decide +kernel)) rfl), (xm_in (List.mem_of_getElem? (i := 9) (by decide +kernel)) rfl), by decide +kernel, by decide +kernel, by decide +kernel⟩, (xm_in (List.mem_of_getElem? (i := 151) (by decide +kernel)) rfl), rfl, rfl⟩
def y8_init : xm_Y := (⟨"FilterProof$RowFinder", "<init>", "()V"⟩, prog_8_method_1_code, 1, none)
theorem k8_init : xm_calI y8_init 0 := ⟨⟨(xm_in (List.mem_of_getElem? (i := 210) (by decide +kernel)) rfl), (xm_in (List.mem_of_getElem? (i := 10) (by decide +kernel)) rfl), by decide +kernel, by decide +kernel, by decide +kernel⟩, (xm_in (List.mem_of_getElem? (i := 209) (by decide +kernel)) rfl), rfl, rfl⟩
def yr_fill_J : xm_Y := (⟨"java/util/Arrays", "fill", "([JJ)V"⟩, prog_15_method_101_code, 5, none)
def rmr_fill_J : Room := { frames := 0, cells := 0, slots := 0, locals := 0 }
theorem kr_fill_J : xm_calS yr_fill_J 2 := ⟨⟨(xm_in (List.mem_of_getElem? (i := 228) (by decide +kernel)) rfl), (xm_in (List.mem_of_getElem? (i := 11) (by decide +kernel)) rfl), by decide +kernel, by decide +kernel, by decide +kernel⟩, (xm_in (List.mem_of_getElem? (i := 227) (by decide +kernel)) rfl)⟩
def y9_init : xm_Y := (⟨"FilterProof$Consumer", "<init>", "()V"⟩, prog_2_method_1_code, 1, none)
theorem k9_init : xm_calI y9_init 0 := ⟨⟨(xm_in (List.mem_of_getElem? (i := 270) (by decide +kernel)) rfl), (xm_in (List.mem_of_getElem? (i := 12) (by decide +kernel)) rfl), by decide +kernel, by decide +kernel, by decide +kernel⟩, (xm_in (List.mem_of_getElem? (i := 269) (by decide +kernel)) rfl), rfl, rfl⟩
def y10_init : xm_Y := (⟨"FilterProof$Machine", "<init>", "()V"⟩, prog_5_method_1_code, 1, none)
theorem k10_init : xm_calI y10_init 0 := ⟨⟨(xm_in (List.mem_of_getElem? (i := 313) (by decide +kernel)) rfl), (xm_in (List.mem_of_getElem? (i := 13) (by decide +kernel)) rfl), by decide +kernel, by decide +kernel, by decide +kernel⟩, (xm_in (List.mem_of_getElem? (i := 312) (by decide +kernel)) rfl), rfl, rfl⟩
def y0_instruction : xm_Y := (⟨"FilterProof", "instruction", "(IIIII)I"⟩, prog_1_method_2_code, 6, (some .int))
def rm0_instruction : Room := { frames := 1, cells := 0, slots := 0, locals := 26 }
theorem k0_instruction : xm_calV y0_instruction 5 := ⟨⟨(xm_in (List.mem_of_getElem? (i := 355) (by decide +kernel)) rfl), (xm_in (List.mem_of_getElem? (i := 1) (by decide +kernel)) rfl), by decide +kernel, by decide +kernel, by decide +kernel⟩, (xm_in (List.mem_of_getElem? (i := 353) (by decide +kernel)) rfl), (xm_in (List.mem_of_getElem? (i := 354) (by decide +kernel)) rfl)⟩
def y1_append : xm_Y := (⟨"FilterProof$Filter", "append", "(IIIII)Z"⟩, prog_3_method_2_code, 7, (some .boolean))
def rm1_append : Room := { frames := 0, cells := 0, slots := 0, locals := 0 }
theorem k1_append : xm_calV y1_append 5 := ⟨⟨(xm_in (List.mem_of_getElem? (i := 359) (by decide +kernel)) rfl), (xm_in (List.mem_of_getElem? (i := 2) (by decide +kernel)) rfl), by decide +kernel, by decide +kernel, by decide +kernel⟩, (xm_in (List.mem_of_getElem? (i := 357) (by decide +kernel)) rfl), (xm_in (List.mem_of_getElem? (i := 358) (by decide +kernel)) rfl)⟩
def y0_clear : xm_Y := (⟨"FilterProof", "clear", "()I"⟩, prog_1_method_3_code, 2, (some .int))
def rm0_clear : Room := { frames := 0, cells := 0, slots := 0, locals := 0 }
theorem k0_clear : xm_calV y0_clear 0 := ⟨⟨(xm_in (List.mem_of_getElem? (i := 363) (by decide +kernel)) rfl), (xm_in (List.mem_of_getElem? (i := 1) (by decide +kernel)) rfl), by decide +kernel, by decide +kernel, by decide +kernel⟩, (xm_in (List.mem_of_getElem? (i := 361) (by decide +kernel)) rfl), (xm_in (List.mem_of_getElem? (i := 362) (by decide +kernel)) rfl)⟩
def y0_prove : xm_Y := (⟨"FilterProof", "prove", "()I"⟩, prog_1_method_4_code, 1, (some .int))
def rm0_prove : Room := { frames := 6, cells := 0, slots := 0, locals := 155 }
theorem k0_prove : xm_calV y0_prove 0 := ⟨⟨(xm_in (List.mem_of_getElem? (i := 367) (by decide +kernel)) rfl), (xm_in (List.mem_of_getElem? (i := 1) (by decide +kernel)) rfl), by decide +kernel, by decide +kernel, by decide +kernel⟩, (xm_in (List.mem_of_getElem? (i := 365) (by decide +kernel)) rfl), (xm_in (List.mem_of_getElem? (i := 366) (by decide +kernel)) rfl)⟩
def y3_keep : xm_Y := (⟨"FilterProof$Tape", "keep", "(I)Z"⟩, prog_11_method_3_code, 2, (some .boolean))
def rm3_keep : Room := { frames := 0, cells := 0, slots := 0, locals := 0 }
theorem k3_keep : xm_calV y3_keep 1 := ⟨⟨(xm_in (List.mem_of_getElem? (i := 371) (by decide +kernel)) rfl), (xm_in (List.mem_of_getElem? (i := 5) (by decide +kernel)) rfl), by decide +kernel, by decide +kernel, by decide +kernel⟩, (xm_in (List.mem_of_getElem? (i := 369) (by decide +kernel)) rfl), (xm_in (List.mem_of_getElem? (i := 370) (by decide +kernel)) rfl)⟩
def y1_wrongPlace : xm_Y := (⟨"FilterProof$Filter", "wrongPlace", "()I"⟩, prog_3_method_3_code, 2, (some .int))
def rm1_wrongPlace : Room := { frames := 2, cells := 0, slots := 0, locals := 44 }
theorem k1_wrongPlace : xm_calV y1_wrongPlace 0 := ⟨⟨(xm_in (List.mem_of_getElem? (i := 375) (by decide +kernel)) rfl), (xm_in (List.mem_of_getElem? (i := 2) (by decide +kernel)) rfl), by decide +kernel, by decide +kernel, by decide +kernel⟩, (xm_in (List.mem_of_getElem? (i := 373) (by decide +kernel)) rfl), (xm_in (List.mem_of_getElem? (i := 374) (by decide +kernel)) rfl)⟩
def y2_isRight : xm_Y := (⟨"FilterProof$Instruction", "isRight", "(II)Z"⟩, prog_4_method_2_code, 3, (some .boolean))
def rm2_isRight : Room := { frames := 1, cells := 0, slots := 0, locals := 22 }
theorem k2_isRight : xm_calV y2_isRight 2 := ⟨⟨(xm_in (List.mem_of_getElem? (i := 379) (by decide +kernel)) rfl), (xm_in (List.mem_of_getElem? (i := 4) (by decide +kernel)) rfl), by decide +kernel, by decide +kernel, by decide +kernel⟩, (xm_in (List.mem_of_getElem? (i := 377) (by decide +kernel)) rfl), (xm_in (List.mem_of_getElem? (i := 378) (by decide +kernel)) rfl)⟩
def y2_isRegister : xm_Y := (⟨"FilterProof$Instruction", "isRegister", "(I)Z"⟩, prog_4_method_3_code, 1, (some .boolean))
def rm2_isRegister : Room := { frames := 0, cells := 0, slots := 0, locals := 0 }
theorem k2_isRegister : xm_calS y2_isRegister 1 := ⟨⟨(xm_in (List.mem_of_getElem? (i := 382) (by decide +kernel)) rfl), (xm_in (List.mem_of_getElem? (i := 4) (by decide +kernel)) rfl), by decide +kernel, by decide +kernel, by decide +kernel⟩, (xm_in (List.mem_of_getElem? (i := 381) (by decide +kernel)) rfl)⟩
def y2_hasRightNumber : xm_Y := (⟨"FilterProof$Instruction", "hasRightNumber", "()Z"⟩, prog_4_method_4_code, 1, (some .boolean))
def rm2_hasRightNumber : Room := { frames := 0, cells := 0, slots := 0, locals := 0 }
theorem k2_hasRightNumber : xm_calV y2_hasRightNumber 0 := ⟨⟨(xm_in (List.mem_of_getElem? (i := 386) (by decide +kernel)) rfl), (xm_in (List.mem_of_getElem? (i := 4) (by decide +kernel)) rfl), by decide +kernel, by decide +kernel, by decide +kernel⟩, (xm_in (List.mem_of_getElem? (i := 385) (by decide +kernel)) rfl), (List.mem_filter.mpr ⟨List.mem_append_left _ (List.mem_of_getElem? (i := 0) (by decide +kernel)), rfl⟩)⟩
def y2_hasRightTarget : xm_Y := (⟨"FilterProof$Instruction", "hasRightTarget", "(II)Z"⟩, prog_4_method_5_code, 3, (some .boolean))
def rm2_hasRightTarget : Room := { frames := 0, cells := 0, slots := 0, locals := 0 }
theorem k2_hasRightTarget : xm_calV y2_hasRightTarget 2 := ⟨⟨(xm_in (List.mem_of_getElem? (i := 390) (by decide +kernel)) rfl), (xm_in (List.mem_of_getElem? (i := 4) (by decide +kernel)) rfl), by decide +kernel, by decide +kernel, by decide +kernel⟩, (xm_in (List.mem_of_getElem? (i := 389) (by decide +kernel)) rfl), (List.mem_filter.mpr ⟨List.mem_append_left _ (List.mem_of_getElem? (i := 1) (by decide +kernel)), rfl⟩)⟩
def y5_produce : xm_Y := (⟨"FilterProof$Producer", "produce", "(LFilterProof$Filter;LFilterProof$Tape;)I"⟩, prog_7_method_2_code, 5, (some .int))
def rm5_produce : Room := { frames := 5, cells := 0, slots := 0, locals := 131 }
theorem k5_produce : xm_calV y5_produce 2 := ⟨⟨(xm_in (List.mem_of_getElem? (i := 394) (by decide +kernel)) rfl), (xm_in (List.mem_of_getElem? (i := 7) (by decide +kernel)) rfl), by decide +kernel, by decide +kernel, by decide +kernel⟩, (xm_in (List.mem_of_getElem? (i := 392) (by decide +kernel)) rfl), (xm_in (List.mem_of_getElem? (i := 393) (by decide +kernel)) rfl)⟩
def y5_findBounds : xm_Y := (⟨"FilterProof$Producer", "findBounds", "()V"⟩, prog_7_method_3_code, 5, none)
def rm5_findBounds : Room := { frames := 4, cells := 0, slots := 0, locals := 99 }
theorem k5_findBounds : xm_calV y5_findBounds 0 := ⟨⟨(xm_in (List.mem_of_getElem? (i := 398) (by decide +kernel)) rfl), (xm_in (List.mem_of_getElem? (i := 7) (by decide +kernel)) rfl), by decide +kernel, by decide +kernel, by decide +kernel⟩, (xm_in (List.mem_of_getElem? (i := 397) (by decide +kernel)) rfl), (List.mem_filter.mpr ⟨List.mem_append_left _ (List.mem_of_getElem? (i := 2) (by decide +kernel)), rfl⟩)⟩
def y6_takeBeginning : xm_Y := (⟨"FilterProof$StepList", "takeBeginning", "(I)V"⟩, prog_10_method_4_code, 3, none)
def rm6_takeBeginning : Room := { frames := 2, cells := 0, slots := 0, locals := 52 }
theorem k6_takeBeginning : xm_calV y6_takeBeginning 1 := ⟨⟨(xm_in (List.mem_of_getElem? (i := 402) (by decide +kernel)) rfl), (xm_in (List.mem_of_getElem? (i := 8) (by decide +kernel)) rfl), by decide +kernel, by decide +kernel, by decide +kernel⟩, (xm_in (List.mem_of_getElem? (i := 400) (by decide +kernel)) rfl), (xm_in (List.mem_of_getElem? (i := 401) (by decide +kernel)) rfl)⟩
def y6_forget : xm_Y := (⟨"FilterProof$StepList", "forget", "()V"⟩, prog_10_method_2_code, 2, none)
def rm6_forget : Room := { frames := 1, cells := 0, slots := 0, locals := 24 }
theorem k6_forget : xm_calV y6_forget 0 := ⟨⟨(xm_in (List.mem_of_getElem? (i := 406) (by decide +kernel)) rfl), (xm_in (List.mem_of_getElem? (i := 8) (by decide +kernel)) rfl), by decide +kernel, by decide +kernel, by decide +kernel⟩, (xm_in (List.mem_of_getElem? (i := 405) (by decide +kernel)) rfl), (List.mem_filter.mpr ⟨List.mem_append_left _ (List.mem_of_getElem? (i := 3) (by decide +kernel)), rfl⟩)⟩
def y7_becomeBeginning : xm_Y := (⟨"FilterProof$Step", "becomeBeginning", "(II)Z"⟩, prog_9_method_3_code, 5, (some .boolean))
def rm7_becomeBeginning : Room := { frames := 1, cells := 0, slots := 0, locals := 28 }
theorem k7_becomeBeginning : xm_calV y7_becomeBeginning 2 := ⟨⟨(xm_in (List.mem_of_getElem? (i := 412) (by decide +kernel)) rfl), (xm_in (List.mem_of_getElem? (i := 9) (by decide +kernel)) rfl), by decide +kernel, by decide +kernel, by decide +kernel⟩, (xm_in (List.mem_of_getElem? (i := 410) (by decide +kernel)) rfl), (xm_in (List.mem_of_getElem? (i := 411) (by decide +kernel)) rfl)⟩
def y7_becomePair : xm_Y := (⟨"FilterProof$Step", "becomePair", "(IIIJJ)Z"⟩, prog_9_method_7_code, 9, (some .boolean))
def rm7_becomePair : Room := { frames := 0, cells := 0, slots := 0, locals := 0 }
theorem k7_becomePair : xm_calV y7_becomePair 5 := ⟨⟨(xm_in (List.mem_of_getElem? (i := 416) (by decide +kernel)) rfl), (xm_in (List.mem_of_getElem? (i := 9) (by decide +kernel)) rfl), by decide +kernel, by decide +kernel, by decide +kernel⟩, (xm_in (List.mem_of_getElem? (i := 415) (by decide +kernel)) rfl), (List.mem_filter.mpr ⟨List.mem_append_left _ (List.mem_of_getElem? (i := 4) (by decide +kernel)), rfl⟩)⟩
def y7_become : xm_Y := (⟨"FilterProof$Step", "become", "(IIJ)Z"⟩, prog_9_method_2_code, 5, (some .boolean))
def rm7_become : Room := { frames := 0, cells := 0, slots := 0, locals := 0 }
theorem k7_become : xm_calV y7_become 3 := ⟨⟨(xm_in (List.mem_of_getElem? (i := 420) (by decide +kernel)) rfl), (xm_in (List.mem_of_getElem? (i := 9) (by decide +kernel)) rfl), by decide +kernel, by decide +kernel, by decide +kernel⟩, (xm_in (List.mem_of_getElem? (i := 418) (by decide +kernel)) rfl), (xm_in (List.mem_of_getElem? (i := 419) (by decide +kernel)) rfl)⟩
def y6_append : xm_Y := (⟨"FilterProof$StepList", "append", "(I)V"⟩, prog_10_method_3_code, 2, none)
def rm6_append : Room := { frames := 1, cells := 0, slots := 0, locals := 23 }
theorem k6_append : xm_calV y6_append 1 := ⟨⟨(xm_in (List.mem_of_getElem? (i := 425) (by decide +kernel)) rfl), (xm_in (List.mem_of_getElem? (i := 8) (by decide +kernel)) rfl), by decide +kernel, by decide +kernel, by decide +kernel⟩, (xm_in (List.mem_of_getElem? (i := 424) (by decide +kernel)) rfl), (List.mem_filter.mpr ⟨List.mem_append_left _ (List.mem_of_getElem? (i := 5) (by decide +kernel)), rfl⟩)⟩
def ym_min_J : xm_Y := (⟨"java/lang/Math", "min", "(JJ)J"⟩, prog_14_method_70_code, 4, (some .long))
def rmm_min_J : Room := { frames := 0, cells := 0, slots := 0, locals := 0 }
theorem km_min_J : xm_calS ym_min_J 2 := ⟨⟨(xm_in (List.mem_of_getElem? (i := 428) (by decide +kernel)) rfl), (xm_in (List.mem_of_getElem? (i := 3) (by decide +kernel)) rfl), by decide +kernel, by decide +kernel, by decide +kernel⟩, (xm_in (List.mem_of_getElem? (i := 427) (by decide +kernel)) rfl)⟩
def y6_closeRows : xm_Y := (⟨"FilterProof$StepList", "closeRows", "()Z"⟩, prog_10_method_9_code, 3, (some .boolean))
def rm6_closeRows : Room := { frames := 2, cells := 0, slots := 0, locals := 48 }
theorem k6_closeRows : xm_calV y6_closeRows 0 := ⟨⟨(xm_in (List.mem_of_getElem? (i := 432) (by decide +kernel)) rfl), (xm_in (List.mem_of_getElem? (i := 8) (by decide +kernel)) rfl), by decide +kernel, by decide +kernel, by decide +kernel⟩, (xm_in (List.mem_of_getElem? (i := 430) (by decide +kernel)) rfl), (xm_in (List.mem_of_getElem? (i := 431) (by decide +kernel)) rfl)⟩
def y6_closeFrom : xm_Y := (⟨"FilterProof$StepList", "closeFrom", "(II)V"⟩, prog_10_method_10_code, 6, none)
def rm6_closeFrom : Room := { frames := 1, cells := 0, slots := 0, locals := 23 }
theorem k6_closeFrom : xm_calV y6_closeFrom 2 := ⟨⟨(xm_in (List.mem_of_getElem? (i := 436) (by decide +kernel)) rfl), (xm_in (List.mem_of_getElem? (i := 8) (by decide +kernel)) rfl), by decide +kernel, by decide +kernel, by decide +kernel⟩, (xm_in (List.mem_of_getElem? (i := 435) (by decide +kernel)) rfl), (List.mem_filter.mpr ⟨List.mem_append_left _ (List.mem_of_getElem? (i := 6) (by decide +kernel)), rfl⟩)⟩
def y5_joinBounds : xm_Y := (⟨"FilterProof$Producer", "joinBounds", "(I)V"⟩, prog_7_method_4_code, 7, none)
def rm5_joinBounds : Room := { frames := 1, cells := 0, slots := 0, locals := 24 }
theorem k5_joinBounds : xm_calV y5_joinBounds 1 := ⟨⟨(xm_in (List.mem_of_getElem? (i := 440) (by decide +kernel)) rfl), (xm_in (List.mem_of_getElem? (i := 7) (by decide +kernel)) rfl), by decide +kernel, by decide +kernel, by decide +kernel⟩, (xm_in (List.mem_of_getElem? (i := 439) (by decide +kernel)) rfl), (List.mem_filter.mpr ⟨List.mem_append_left _ (List.mem_of_getElem? (i := 7) (by decide +kernel)), rfl⟩)⟩
def y6_bound : xm_Y := (⟨"FilterProof$StepList", "bound", "(II)J"⟩, prog_10_method_11_code, 5, (some .long))
def rm6_bound : Room := { frames := 0, cells := 0, slots := 0, locals := 0 }
theorem k6_bound : xm_calV y6_bound 2 := ⟨⟨(xm_in (List.mem_of_getElem? (i := 444) (by decide +kernel)) rfl), (xm_in (List.mem_of_getElem? (i := 8) (by decide +kernel)) rfl), by decide +kernel, by decide +kernel, by decide +kernel⟩, (xm_in (List.mem_of_getElem? (i := 442) (by decide +kernel)) rfl), (xm_in (List.mem_of_getElem? (i := 443) (by decide +kernel)) rfl)⟩
def ym_max_J : xm_Y := (⟨"java/lang/Math", "max", "(JJ)J"⟩, prog_14_method_66_code, 4, (some .long))
def rmm_max_J : Room := { frames := 0, cells := 0, slots := 0, locals := 0 }
theorem km_max_J : xm_calS ym_max_J 2 := ⟨⟨(xm_in (List.mem_of_getElem? (i := 447) (by decide +kernel)) rfl), (xm_in (List.mem_of_getElem? (i := 3) (by decide +kernel)) rfl), by decide +kernel, by decide +kernel, by decide +kernel⟩, (xm_in (List.mem_of_getElem? (i := 446) (by decide +kernel)) rfl)⟩
def y2_edgeCount : xm_Y := (⟨"FilterProof$Instruction", "edgeCount", "()I"⟩, prog_4_method_7_code, 1, (some .int))
def rm2_edgeCount : Room := { frames := 0, cells := 0, slots := 0, locals := 0 }
theorem k2_edgeCount : xm_calV y2_edgeCount 0 := ⟨⟨(xm_in (List.mem_of_getElem? (i := 451) (by decide +kernel)) rfl), (xm_in (List.mem_of_getElem? (i := 4) (by decide +kernel)) rfl), by decide +kernel, by decide +kernel, by decide +kernel⟩, (xm_in (List.mem_of_getElem? (i := 449) (by decide +kernel)) rfl), (xm_in (List.mem_of_getElem? (i := 450) (by decide +kernel)) rfl)⟩
def y6_takeEdge : xm_Y := (⟨"FilterProof$StepList", "takeEdge", "(LFilterProof$Instruction;I[J)V"⟩, prog_10_method_6_code, 5, none)
def rm6_takeEdge : Room := { frames := 3, cells := 0, slots := 0, locals := 75 }
theorem k6_takeEdge : xm_calV y6_takeEdge 3 := ⟨⟨(xm_in (List.mem_of_getElem? (i := 455) (by decide +kernel)) rfl), (xm_in (List.mem_of_getElem? (i := 8) (by decide +kernel)) rfl), by decide +kernel, by decide +kernel, by decide +kernel⟩, (xm_in (List.mem_of_getElem? (i := 453) (by decide +kernel)) rfl), (xm_in (List.mem_of_getElem? (i := 454) (by decide +kernel)) rfl)⟩
def y6_findBound : xm_Y := (⟨"FilterProof$StepList", "findBound", "(LFilterProof$Step;[JI)Z"⟩, prog_10_method_8_code, 3, (some .boolean))
def rm6_findBound : Room := { frames := 1, cells := 0, slots := 0, locals := 24 }
theorem k6_findBound : xm_calS y6_findBound 3 := ⟨⟨(xm_in (List.mem_of_getElem? (i := 458) (by decide +kernel)) rfl), (xm_in (List.mem_of_getElem? (i := 8) (by decide +kernel)) rfl), by decide +kernel, by decide +kernel, by decide +kernel⟩, (xm_in (List.mem_of_getElem? (i := 457) (by decide +kernel)) rfl)⟩
def y7_carryOver : xm_Y := (⟨"FilterProof$Step", "carryOver", "(LFilterProof$Instruction;)Z"⟩, prog_9_method_4_code, 4, (some .boolean))
def rm7_carryOver : Room := { frames := 1, cells := 0, slots := 0, locals := 20 }
theorem k7_carryOver : xm_calV y7_carryOver 1 := ⟨⟨(xm_in (List.mem_of_getElem? (i := 463) (by decide +kernel)) rfl), (xm_in (List.mem_of_getElem? (i := 9) (by decide +kernel)) rfl), by decide +kernel, by decide +kernel, by decide +kernel⟩, (xm_in (List.mem_of_getElem? (i := 461) (by decide +kernel)) rfl), (xm_in (List.mem_of_getElem? (i := 462) (by decide +kernel)) rfl)⟩
def y2_changesRegister : xm_Y := (⟨"FilterProof$Instruction", "changesRegister", "()Z"⟩, prog_4_method_6_code, 1, (some .boolean))
def rm2_changesRegister : Room := { frames := 0, cells := 0, slots := 0, locals := 0 }
theorem k2_changesRegister : xm_calV y2_changesRegister 0 := ⟨⟨(xm_in (List.mem_of_getElem? (i := 467) (by decide +kernel)) rfl), (xm_in (List.mem_of_getElem? (i := 4) (by decide +kernel)) rfl), by decide +kernel, by decide +kernel, by decide +kernel⟩, (xm_in (List.mem_of_getElem? (i := 465) (by decide +kernel)) rfl), (xm_in (List.mem_of_getElem? (i := 466) (by decide +kernel)) rfl)⟩
def y6_takeSums : xm_Y := (⟨"FilterProof$StepList", "takeSums", "(LFilterProof$Instruction;[J)V"⟩, prog_10_method_7_code, 7, none)
def rm6_takeSums : Room := { frames := 2, cells := 0, slots := 0, locals := 49 }
theorem k6_takeSums : xm_calV y6_takeSums 2 := ⟨⟨(xm_in (List.mem_of_getElem? (i := 471) (by decide +kernel)) rfl), (xm_in (List.mem_of_getElem? (i := 8) (by decide +kernel)) rfl), by decide +kernel, by decide +kernel, by decide +kernel⟩, (xm_in (List.mem_of_getElem? (i := 470) (by decide +kernel)) rfl), (List.mem_filter.mpr ⟨List.mem_append_left _ (List.mem_of_getElem? (i := 8) (by decide +kernel)), rfl⟩)⟩
def y7_becomeSum : xm_Y := (⟨"FilterProof$Step", "becomeSum", "(LFilterProof$Instruction;LFilterProof$Step;LFilterProof$Step;)Z"⟩, prog_9_method_6_code, 6, (some .boolean))
def rm7_becomeSum : Room := { frames := 1, cells := 0, slots := 0, locals := 24 }
theorem k7_becomeSum : xm_calV y7_becomeSum 3 := ⟨⟨(xm_in (List.mem_of_getElem? (i := 475) (by decide +kernel)) rfl), (xm_in (List.mem_of_getElem? (i := 9) (by decide +kernel)) rfl), by decide +kernel, by decide +kernel, by decide +kernel⟩, (xm_in (List.mem_of_getElem? (i := 473) (by decide +kernel)) rfl), (xm_in (List.mem_of_getElem? (i := 474) (by decide +kernel)) rfl)⟩
def y2_jumpsBy : xm_Y := (⟨"FilterProof$Instruction", "jumpsBy", "(I)Z"⟩, prog_4_method_8_code, 2, (some .boolean))
def rm2_jumpsBy : Room := { frames := 0, cells := 0, slots := 0, locals := 0 }
theorem k2_jumpsBy : xm_calV y2_jumpsBy 1 := ⟨⟨(xm_in (List.mem_of_getElem? (i := 479) (by decide +kernel)) rfl), (xm_in (List.mem_of_getElem? (i := 4) (by decide +kernel)) rfl), by decide +kernel, by decide +kernel, by decide +kernel⟩, (xm_in (List.mem_of_getElem? (i := 477) (by decide +kernel)) rfl), (xm_in (List.mem_of_getElem? (i := 478) (by decide +kernel)) rfl)⟩
def y7_becomeFurther : xm_Y := (⟨"FilterProof$Step", "becomeFurther", "(LFilterProof$Instruction;ZI)Z"⟩, prog_9_method_5_code, 8, (some .boolean))
def rm7_becomeFurther : Room := { frames := 1, cells := 0, slots := 0, locals := 28 }
theorem k7_becomeFurther : xm_calV y7_becomeFurther 3 := ⟨⟨(xm_in (List.mem_of_getElem? (i := 483) (by decide +kernel)) rfl), (xm_in (List.mem_of_getElem? (i := 9) (by decide +kernel)) rfl), by decide +kernel, by decide +kernel, by decide +kernel⟩, (xm_in (List.mem_of_getElem? (i := 481) (by decide +kernel)) rfl), (xm_in (List.mem_of_getElem? (i := 482) (by decide +kernel)) rfl)⟩
def y2_edgeEnd : xm_Y := (⟨"FilterProof$Instruction", "edgeEnd", "(II)I"⟩, prog_4_method_9_code, 3, (some .int))
def rm2_edgeEnd : Room := { frames := 1, cells := 0, slots := 0, locals := 21 }
theorem k2_edgeEnd : xm_calV y2_edgeEnd 2 := ⟨⟨(xm_in (List.mem_of_getElem? (i := 490) (by decide +kernel)) rfl), (xm_in (List.mem_of_getElem? (i := 4) (by decide +kernel)) rfl), by decide +kernel, by decide +kernel, by decide +kernel⟩, (xm_in (List.mem_of_getElem? (i := 488) (by decide +kernel)) rfl), (xm_in (List.mem_of_getElem? (i := 489) (by decide +kernel)) rfl)⟩
def y5_forgetNeeds : xm_Y := (⟨"FilterProof$Producer", "forgetNeeds", "(I)V"⟩, prog_7_method_5_code, 3, none)
def rm5_forgetNeeds : Room := { frames := 0, cells := 0, slots := 0, locals := 0 }
theorem k5_forgetNeeds : xm_calV y5_forgetNeeds 1 := ⟨⟨(xm_in (List.mem_of_getElem? (i := 495) (by decide +kernel)) rfl), (xm_in (List.mem_of_getElem? (i := 7) (by decide +kernel)) rfl), by decide +kernel, by decide +kernel, by decide +kernel⟩, (xm_in (List.mem_of_getElem? (i := 494) (by decide +kernel)) rfl), (List.mem_filter.mpr ⟨List.mem_append_left _ (List.mem_of_getElem? (i := 9) (by decide +kernel)), rfl⟩)⟩
def y5_giveAccess : xm_Y := (⟨"FilterProof$Producer", "giveAccess", "(I)Z"⟩, prog_7_method_7_code, 4, (some .boolean))
def rm5_giveAccess : Room := { frames := 3, cells := 0, slots := 0, locals := 82 }
theorem k5_giveAccess : xm_calV y5_giveAccess 1 := ⟨⟨(xm_in (List.mem_of_getElem? (i := 499) (by decide +kernel)) rfl), (xm_in (List.mem_of_getElem? (i := 7) (by decide +kernel)) rfl), by decide +kernel, by decide +kernel, by decide +kernel⟩, (xm_in (List.mem_of_getElem? (i := 498) (by decide +kernel)) rfl), (List.mem_filter.mpr ⟨List.mem_append_left _ (List.mem_of_getElem? (i := 10) (by decide +kernel)), rfl⟩)⟩
def y2_isAccess : xm_Y := (⟨"FilterProof$Instruction", "isAccess", "()Z"⟩, prog_4_method_10_code, 1, (some .boolean))
def rm2_isAccess : Room := { frames := 0, cells := 0, slots := 0, locals := 0 }
theorem k2_isAccess : xm_calV y2_isAccess 0 := ⟨⟨(xm_in (List.mem_of_getElem? (i := 503) (by decide +kernel)) rfl), (xm_in (List.mem_of_getElem? (i := 4) (by decide +kernel)) rfl), by decide +kernel, by decide +kernel, by decide +kernel⟩, (xm_in (List.mem_of_getElem? (i := 501) (by decide +kernel)) rfl), (xm_in (List.mem_of_getElem? (i := 502) (by decide +kernel)) rfl)⟩
def y6_takeFacts : xm_Y := (⟨"FilterProof$StepList", "takeFacts", "([J)V"⟩, prog_10_method_5_code, 3, none)
def rm6_takeFacts : Room := { frames := 2, cells := 0, slots := 0, locals := 46 }
theorem k6_takeFacts : xm_calV y6_takeFacts 1 := ⟨⟨(xm_in (List.mem_of_getElem? (i := 507) (by decide +kernel)) rfl), (xm_in (List.mem_of_getElem? (i := 8) (by decide +kernel)) rfl), by decide +kernel, by decide +kernel, by decide +kernel⟩, (xm_in (List.mem_of_getElem? (i := 505) (by decide +kernel)) rfl), (xm_in (List.mem_of_getElem? (i := 506) (by decide +kernel)) rfl)⟩
def y8_find : xm_Y := (⟨"FilterProof$RowFinder", "find", "(LFilterProof$StepList;IIJ)Z"⟩, prog_8_method_2_code, 7, (some .boolean))
def rm8_find : Room := { frames := 2, cells := 0, slots := 0, locals := 56 }
theorem k8_find : xm_calV y8_find 4 := ⟨⟨(xm_in (List.mem_of_getElem? (i := 511) (by decide +kernel)) rfl), (xm_in (List.mem_of_getElem? (i := 10) (by decide +kernel)) rfl), by decide +kernel, by decide +kernel, by decide +kernel⟩, (xm_in (List.mem_of_getElem? (i := 509) (by decide +kernel)) rfl), (xm_in (List.mem_of_getElem? (i := 510) (by decide +kernel)) rfl)⟩
def y8_lengthenRows : xm_Y := (⟨"FilterProof$RowFinder", "lengthenRows", "(LFilterProof$StepList;I)V"⟩, prog_8_method_3_code, 8, none)
def rm8_lengthenRows : Room := { frames := 1, cells := 0, slots := 0, locals := 23 }
theorem k8_lengthenRows : xm_calV y8_lengthenRows 2 := ⟨⟨(xm_in (List.mem_of_getElem? (i := 517) (by decide +kernel)) rfl), (xm_in (List.mem_of_getElem? (i := 10) (by decide +kernel)) rfl), by decide +kernel, by decide +kernel, by decide +kernel⟩, (xm_in (List.mem_of_getElem? (i := 516) (by decide +kernel)) rfl), (List.mem_filter.mpr ⟨List.mem_append_left _ (List.mem_of_getElem? (i := 11) (by decide +kernel)), rfl⟩)⟩
def y8_chooseSteps : xm_Y := (⟨"FilterProof$RowFinder", "chooseSteps", "(LFilterProof$StepList;IJ)V"⟩, prog_8_method_4_code, 10, none)
def rm8_chooseSteps : Room := { frames := 1, cells := 0, slots := 0, locals := 27 }
theorem k8_chooseSteps : xm_calV y8_chooseSteps 3 := ⟨⟨(xm_in (List.mem_of_getElem? (i := 522) (by decide +kernel)) rfl), (xm_in (List.mem_of_getElem? (i := 10) (by decide +kernel)) rfl), by decide +kernel, by decide +kernel, by decide +kernel⟩, (xm_in (List.mem_of_getElem? (i := 521) (by decide +kernel)) rfl), (List.mem_filter.mpr ⟨List.mem_append_left _ (List.mem_of_getElem? (i := 12) (by decide +kernel)), rfl⟩)⟩
def y8_firstFitting : xm_Y := (⟨"FilterProof$RowFinder", "firstFitting", "(LFilterProof$StepList;IJ[J)I"⟩, prog_8_method_5_code, 8, (some .int))
def rm8_firstFitting : Room := { frames := 0, cells := 0, slots := 0, locals := 0 }
theorem k8_firstFitting : xm_calS y8_firstFitting 4 := ⟨⟨(xm_in (List.mem_of_getElem? (i := 525) (by decide +kernel)) rfl), (xm_in (List.mem_of_getElem? (i := 10) (by decide +kernel)) rfl), by decide +kernel, by decide +kernel, by decide +kernel⟩, (xm_in (List.mem_of_getElem? (i := 524) (by decide +kernel)) rfl)⟩
def y5_giveRow : xm_Y := (⟨"FilterProof$Producer", "giveRow", "(I)Z"⟩, prog_7_method_11_code, 3, (some .boolean))
def rm5_giveRow : Room := { frames := 2, cells := 0, slots := 0, locals := 44 }
theorem k5_giveRow : xm_calV y5_giveRow 1 := ⟨⟨(xm_in (List.mem_of_getElem? (i := 529) (by decide +kernel)) rfl), (xm_in (List.mem_of_getElem? (i := 7) (by decide +kernel)) rfl), by decide +kernel, by decide +kernel, by decide +kernel⟩, (xm_in (List.mem_of_getElem? (i := 528) (by decide +kernel)) rfl), (List.mem_filter.mpr ⟨List.mem_append_left _ (List.mem_of_getElem? (i := 13) (by decide +kernel)), rfl⟩)⟩
def y5_put : xm_Y := (⟨"FilterProof$Producer", "put", "(I)V"⟩, prog_7_method_16_code, 2, none)
def rm5_put : Room := { frames := 1, cells := 0, slots := 0, locals := 21 }
theorem k5_put : xm_calV y5_put 1 := ⟨⟨(xm_in (List.mem_of_getElem? (i := 533) (by decide +kernel)) rfl), (xm_in (List.mem_of_getElem? (i := 7) (by decide +kernel)) rfl), by decide +kernel, by decide +kernel, by decide +kernel⟩, (xm_in (List.mem_of_getElem? (i := 532) (by decide +kernel)) rfl), (List.mem_filter.mpr ⟨List.mem_append_left _ (List.mem_of_getElem? (i := 14) (by decide +kernel)), rfl⟩)⟩
def y3_append : xm_Y := (⟨"FilterProof$Tape", "append", "(I)Z"⟩, prog_11_method_2_code, 2, (some .boolean))
def rm3_append : Room := { frames := 0, cells := 0, slots := 0, locals := 0 }
theorem k3_append : xm_calV y3_append 1 := ⟨⟨(xm_in (List.mem_of_getElem? (i := 537) (by decide +kernel)) rfl), (xm_in (List.mem_of_getElem? (i := 5) (by decide +kernel)) rfl), by decide +kernel, by decide +kernel, by decide +kernel⟩, (xm_in (List.mem_of_getElem? (i := 535) (by decide +kernel)) rfl), (xm_in (List.mem_of_getElem? (i := 536) (by decide +kernel)) rfl)⟩
def y5_numberInProof : xm_Y := (⟨"FilterProof$Producer", "numberInProof", "(II)I"⟩, prog_7_method_13_code, 5, (some .int))
def rm5_numberInProof : Room := { frames := 0, cells := 0, slots := 0, locals := 0 }
theorem k5_numberInProof : xm_calV y5_numberInProof 2 := ⟨⟨(xm_in (List.mem_of_getElem? (i := 541) (by decide +kernel)) rfl), (xm_in (List.mem_of_getElem? (i := 7) (by decide +kernel)) rfl), by decide +kernel, by decide +kernel, by decide +kernel⟩, (xm_in (List.mem_of_getElem? (i := 540) (by decide +kernel)) rfl), (List.mem_filter.mpr ⟨List.mem_append_left _ (List.mem_of_getElem? (i := 15) (by decide +kernel)), rfl⟩)⟩
def y5_needPartsOf : xm_Y := (⟨"FilterProof$Producer", "needPartsOf", "(II)V"⟩, prog_7_method_12_code, 3, none)
def rm5_needPartsOf : Room := { frames := 1, cells := 0, slots := 0, locals := 22 }
theorem k5_needPartsOf : xm_calV y5_needPartsOf 2 := ⟨⟨(xm_in (List.mem_of_getElem? (i := 545) (by decide +kernel)) rfl), (xm_in (List.mem_of_getElem? (i := 7) (by decide +kernel)) rfl), by decide +kernel, by decide +kernel, by decide +kernel⟩, (xm_in (List.mem_of_getElem? (i := 544) (by decide +kernel)) rfl), (List.mem_filter.mpr ⟨List.mem_append_left _ (List.mem_of_getElem? (i := 16) (by decide +kernel)), rfl⟩)⟩
def y5_need : xm_Y := (⟨"FilterProof$Producer", "need", "(II)V"⟩, prog_7_method_6_code, 3, none)
def rm5_need : Room := { frames := 0, cells := 0, slots := 0, locals := 0 }
theorem k5_need : xm_calV y5_need 2 := ⟨⟨(xm_in (List.mem_of_getElem? (i := 549) (by decide +kernel)) rfl), (xm_in (List.mem_of_getElem? (i := 7) (by decide +kernel)) rfl), by decide +kernel, by decide +kernel, by decide +kernel⟩, (xm_in (List.mem_of_getElem? (i := 548) (by decide +kernel)) rfl), (List.mem_filter.mpr ⟨List.mem_append_left _ (List.mem_of_getElem? (i := 17) (by decide +kernel)), rfl⟩)⟩
def y2_accessTop : xm_Y := (⟨"FilterProof$Instruction", "accessTop", "()I"⟩, prog_4_method_13_code, 1, (some .int))
def rm2_accessTop : Room := { frames := 1, cells := 0, slots := 0, locals := 20 }
theorem k2_accessTop : xm_calV y2_accessTop 0 := ⟨⟨(xm_in (List.mem_of_getElem? (i := 553) (by decide +kernel)) rfl), (xm_in (List.mem_of_getElem? (i := 4) (by decide +kernel)) rfl), by decide +kernel, by decide +kernel, by decide +kernel⟩, (xm_in (List.mem_of_getElem? (i := 551) (by decide +kernel)) rfl), (xm_in (List.mem_of_getElem? (i := 552) (by decide +kernel)) rfl)⟩
def y2_isScratchAccess : xm_Y := (⟨"FilterProof$Instruction", "isScratchAccess", "()Z"⟩, prog_4_method_11_code, 1, (some .boolean))
def rm2_isScratchAccess : Room := { frames := 0, cells := 0, slots := 0, locals := 0 }
theorem k2_isScratchAccess : xm_calV y2_isScratchAccess 0 := ⟨⟨(xm_in (List.mem_of_getElem? (i := 557) (by decide +kernel)) rfl), (xm_in (List.mem_of_getElem? (i := 4) (by decide +kernel)) rfl), by decide +kernel, by decide +kernel, by decide +kernel⟩, (xm_in (List.mem_of_getElem? (i := 555) (by decide +kernel)) rfl), (xm_in (List.mem_of_getElem? (i := 556) (by decide +kernel)) rfl)⟩
def y2_accessMost : xm_Y := (⟨"FilterProof$Instruction", "accessMost", "()J"⟩, prog_4_method_14_code, 1, (some .long))
def rm2_accessMost : Room := { frames := 1, cells := 0, slots := 0, locals := 20 }
theorem k2_accessMost : xm_calV y2_accessMost 0 := ⟨⟨(xm_in (List.mem_of_getElem? (i := 561) (by decide +kernel)) rfl), (xm_in (List.mem_of_getElem? (i := 4) (by decide +kernel)) rfl), by decide +kernel, by decide +kernel, by decide +kernel⟩, (xm_in (List.mem_of_getElem? (i := 559) (by decide +kernel)) rfl), (xm_in (List.mem_of_getElem? (i := 560) (by decide +kernel)) rfl)⟩
def y2_loadSize : xm_Y := (⟨"FilterProof$Instruction", "loadSize", "()I"⟩, prog_4_method_12_code, 1, (some .int))
def rm2_loadSize : Room := { frames := 0, cells := 0, slots := 0, locals := 0 }
theorem k2_loadSize : xm_calV y2_loadSize 0 := ⟨⟨(xm_in (List.mem_of_getElem? (i := 566) (by decide +kernel)) rfl), (xm_in (List.mem_of_getElem? (i := 4) (by decide +kernel)) rfl), by decide +kernel, by decide +kernel, by decide +kernel⟩, (xm_in (List.mem_of_getElem? (i := 564) (by decide +kernel)) rfl), (xm_in (List.mem_of_getElem? (i := 565) (by decide +kernel)) rfl)⟩
def y5_giveEdges : xm_Y := (⟨"FilterProof$Producer", "giveEdges", "(I)Z"⟩, prog_7_method_8_code, 5, (some .boolean))
def rm5_giveEdges : Room := { frames := 4, cells := 0, slots := 0, locals := 107 }
theorem k5_giveEdges : xm_calV y5_giveEdges 1 := ⟨⟨(xm_in (List.mem_of_getElem? (i := 570) (by decide +kernel)) rfl), (xm_in (List.mem_of_getElem? (i := 7) (by decide +kernel)) rfl), by decide +kernel, by decide +kernel, by decide +kernel⟩, (xm_in (List.mem_of_getElem? (i := 569) (by decide +kernel)) rfl), (List.mem_filter.mpr ⟨List.mem_append_left _ (List.mem_of_getElem? (i := 18) (by decide +kernel)), rfl⟩)⟩
def y5_giveImpossible : xm_Y := (⟨"FilterProof$Producer", "giveImpossible", "(I)Z"⟩, prog_7_method_9_code, 3, (some .boolean))
def rm5_giveImpossible : Room := { frames := 3, cells := 0, slots := 0, locals := 82 }
theorem k5_giveImpossible : xm_calV y5_giveImpossible 1 := ⟨⟨(xm_in (List.mem_of_getElem? (i := 574) (by decide +kernel)) rfl), (xm_in (List.mem_of_getElem? (i := 7) (by decide +kernel)) rfl), by decide +kernel, by decide +kernel, by decide +kernel⟩, (xm_in (List.mem_of_getElem? (i := 573) (by decide +kernel)) rfl), (List.mem_filter.mpr ⟨List.mem_append_left _ (List.mem_of_getElem? (i := 19) (by decide +kernel)), rfl⟩)⟩
def y5_giveReasonsFor : xm_Y := (⟨"FilterProof$Producer", "giveReasonsFor", "(II)Z"⟩, prog_7_method_10_code, 6, (some .boolean))
def rm5_giveReasonsFor : Room := { frames := 3, cells := 0, slots := 0, locals := 82 }
theorem k5_giveReasonsFor : xm_calV y5_giveReasonsFor 2 := ⟨⟨(xm_in (List.mem_of_getElem? (i := 579) (by decide +kernel)) rfl), (xm_in (List.mem_of_getElem? (i := 7) (by decide +kernel)) rfl), by decide +kernel, by decide +kernel, by decide +kernel⟩, (xm_in (List.mem_of_getElem? (i := 578) (by decide +kernel)) rfl), (List.mem_filter.mpr ⟨List.mem_append_left _ (List.mem_of_getElem? (i := 20) (by decide +kernel)), rfl⟩)⟩
def y5_writeFacts : xm_Y := (⟨"FilterProof$Producer", "writeFacts", "()V"⟩, prog_7_method_14_code, 3, none)
def rm5_writeFacts : Room := { frames := 2, cells := 0, slots := 0, locals := 42 }
theorem k5_writeFacts : xm_calV y5_writeFacts 0 := ⟨⟨(xm_in (List.mem_of_getElem? (i := 583) (by decide +kernel)) rfl), (xm_in (List.mem_of_getElem? (i := 7) (by decide +kernel)) rfl), by decide +kernel, by decide +kernel, by decide +kernel⟩, (xm_in (List.mem_of_getElem? (i := 582) (by decide +kernel)) rfl), (List.mem_filter.mpr ⟨List.mem_append_left _ (List.mem_of_getElem? (i := 21) (by decide +kernel)), rfl⟩)⟩
def y5_rankNeeds : xm_Y := (⟨"FilterProof$Producer", "rankNeeds", "(I)V"⟩, prog_7_method_15_code, 4, none)
def rm5_rankNeeds : Room := { frames := 0, cells := 0, slots := 0, locals := 0 }
theorem k5_rankNeeds : xm_calV y5_rankNeeds 1 := ⟨⟨(xm_in (List.mem_of_getElem? (i := 587) (by decide +kernel)) rfl), (xm_in (List.mem_of_getElem? (i := 7) (by decide +kernel)) rfl), by decide +kernel, by decide +kernel, by decide +kernel⟩, (xm_in (List.mem_of_getElem? (i := 586) (by decide +kernel)) rfl), (List.mem_filter.mpr ⟨List.mem_append_left _ (List.mem_of_getElem? (i := 22) (by decide +kernel)), rfl⟩)⟩
def y0_say : xm_Y := (⟨"FilterProof", "say", "(I)I"⟩, prog_1_method_5_code, 2, (some .int))
def rm0_say : Room := { frames := 1, cells := 0, slots := 0, locals := 21 }
theorem k0_say : xm_calV y0_say 1 := ⟨⟨(xm_in (List.mem_of_getElem? (i := 591) (by decide +kernel)) rfl), (xm_in (List.mem_of_getElem? (i := 1) (by decide +kernel)) rfl), by decide +kernel, by decide +kernel, by decide +kernel⟩, (xm_in (List.mem_of_getElem? (i := 589) (by decide +kernel)) rfl), (xm_in (List.mem_of_getElem? (i := 590) (by decide +kernel)) rfl)⟩
def y0_cut : xm_Y := (⟨"FilterProof", "cut", "(I)Z"⟩, prog_1_method_6_code, 2, (some .boolean))
def rm0_cut : Room := { frames := 1, cells := 0, slots := 0, locals := 21 }
theorem k0_cut : xm_calV y0_cut 1 := ⟨⟨(xm_in (List.mem_of_getElem? (i := 596) (by decide +kernel)) rfl), (xm_in (List.mem_of_getElem? (i := 1) (by decide +kernel)) rfl), by decide +kernel, by decide +kernel, by decide +kernel⟩, (xm_in (List.mem_of_getElem? (i := 594) (by decide +kernel)) rfl), (xm_in (List.mem_of_getElem? (i := 595) (by decide +kernel)) rfl)⟩
def y0_change : xm_Y := (⟨"FilterProof", "change", "(II)Z"⟩, prog_1_method_7_code, 3, (some .boolean))
def rm0_change : Room := { frames := 1, cells := 0, slots := 0, locals := 22 }
theorem k0_change : xm_calV y0_change 2 := ⟨⟨(xm_in (List.mem_of_getElem? (i := 600) (by decide +kernel)) rfl), (xm_in (List.mem_of_getElem? (i := 1) (by decide +kernel)) rfl), by decide +kernel, by decide +kernel, by decide +kernel⟩, (xm_in (List.mem_of_getElem? (i := 598) (by decide +kernel)) rfl), (xm_in (List.mem_of_getElem? (i := 599) (by decide +kernel)) rfl)⟩
def y3_replace : xm_Y := (⟨"FilterProof$Tape", "replace", "(II)Z"⟩, prog_11_method_4_code, 3, (some .boolean))
def rm3_replace : Room := { frames := 0, cells := 0, slots := 0, locals := 0 }
theorem k3_replace : xm_calV y3_replace 2 := ⟨⟨(xm_in (List.mem_of_getElem? (i := 604) (by decide +kernel)) rfl), (xm_in (List.mem_of_getElem? (i := 5) (by decide +kernel)) rfl), by decide +kernel, by decide +kernel, by decide +kernel⟩, (xm_in (List.mem_of_getElem? (i := 602) (by decide +kernel)) rfl), (xm_in (List.mem_of_getElem? (i := 603) (by decide +kernel)) rfl)⟩
def y0_length : xm_Y := (⟨"FilterProof", "length", "()I"⟩, prog_1_method_8_code, 1, (some .int))
def rm0_length : Room := { frames := 0, cells := 0, slots := 0, locals := 0 }
theorem k0_length : xm_calV y0_length 0 := ⟨⟨(xm_in (List.mem_of_getElem? (i := 608) (by decide +kernel)) rfl), (xm_in (List.mem_of_getElem? (i := 1) (by decide +kernel)) rfl), by decide +kernel, by decide +kernel, by decide +kernel⟩, (xm_in (List.mem_of_getElem? (i := 606) (by decide +kernel)) rfl), (xm_in (List.mem_of_getElem? (i := 607) (by decide +kernel)) rfl)⟩
def y0_at : xm_Y := (⟨"FilterProof", "at", "(I)I"⟩, prog_1_method_9_code, 2, (some .int))
def rm0_at : Room := { frames := 1, cells := 0, slots := 0, locals := 21 }
theorem k0_at : xm_calV y0_at 1 := ⟨⟨(xm_in (List.mem_of_getElem? (i := 612) (by decide +kernel)) rfl), (xm_in (List.mem_of_getElem? (i := 1) (by decide +kernel)) rfl), by decide +kernel, by decide +kernel, by decide +kernel⟩, (xm_in (List.mem_of_getElem? (i := 610) (by decide +kernel)) rfl), (xm_in (List.mem_of_getElem? (i := 611) (by decide +kernel)) rfl)⟩
def y3_get : xm_Y := (⟨"FilterProof$Tape", "get", "(I)I"⟩, prog_11_method_5_code, 2, (some .int))
def rm3_get : Room := { frames := 0, cells := 0, slots := 0, locals := 0 }
theorem k3_get : xm_calV y3_get 1 := ⟨⟨(xm_in (List.mem_of_getElem? (i := 616) (by decide +kernel)) rfl), (xm_in (List.mem_of_getElem? (i := 5) (by decide +kernel)) rfl), by decide +kernel, by decide +kernel, by decide +kernel⟩, (xm_in (List.mem_of_getElem? (i := 614) (by decide +kernel)) rfl), (xm_in (List.mem_of_getElem? (i := 615) (by decide +kernel)) rfl)⟩
def y0_check : xm_Y := (⟨"FilterProof", "check", "()I"⟩, prog_1_method_10_code, 2, (some .int))
def rm0_check : Room := { frames := 7, cells := 0, slots := 0, locals := 188 }
theorem k0_check : xm_calV y0_check 0 := ⟨⟨(xm_in (List.mem_of_getElem? (i := 620) (by decide +kernel)) rfl), (xm_in (List.mem_of_getElem? (i := 1) (by decide +kernel)) rfl), by decide +kernel, by decide +kernel, by decide +kernel⟩, (xm_in (List.mem_of_getElem? (i := 618) (by decide +kernel)) rfl), (xm_in (List.mem_of_getElem? (i := 619) (by decide +kernel)) rfl)⟩
def y9_read : xm_Y := (⟨"FilterProof$Consumer", "read", "(LFilterProof$Filter;LFilterProof$Tape;)I"⟩, prog_2_method_2_code, 6, (some .int))
def rm9_read : Room := { frames := 6, cells := 0, slots := 0, locals := 163 }
theorem k9_read : xm_calV y9_read 2 := ⟨⟨(xm_in (List.mem_of_getElem? (i := 624) (by decide +kernel)) rfl), (xm_in (List.mem_of_getElem? (i := 12) (by decide +kernel)) rfl), by decide +kernel, by decide +kernel, by decide +kernel⟩, (xm_in (List.mem_of_getElem? (i := 622) (by decide +kernel)) rfl), (xm_in (List.mem_of_getElem? (i := 623) (by decide +kernel)) rfl)⟩
def y9_readFacts : xm_Y := (⟨"FilterProof$Consumer", "readFacts", "()Z"⟩, prog_2_method_6_code, 3, (some .boolean))
def rm9_readFacts : Room := { frames := 4, cells := 0, slots := 0, locals := 85 }
theorem k9_readFacts : xm_calV y9_readFacts 0 := ⟨⟨(xm_in (List.mem_of_getElem? (i := 629) (by decide +kernel)) rfl), (xm_in (List.mem_of_getElem? (i := 12) (by decide +kernel)) rfl), by decide +kernel, by decide +kernel, by decide +kernel⟩, (xm_in (List.mem_of_getElem? (i := 628) (by decide +kernel)) rfl), (List.mem_filter.mpr ⟨List.mem_append_left _ (List.mem_of_getElem? (i := 23) (by decide +kernel)), rfl⟩)⟩
def y9_readWithin : xm_Y := (⟨"FilterProof$Consumer", "readWithin", "(II)Z"⟩, prog_2_method_5_code, 3, (some .boolean))
def rm9_readWithin : Room := { frames := 2, cells := 0, slots := 0, locals := 42 }
theorem k9_readWithin : xm_calV y9_readWithin 2 := ⟨⟨(xm_in (List.mem_of_getElem? (i := 633) (by decide +kernel)) rfl), (xm_in (List.mem_of_getElem? (i := 12) (by decide +kernel)) rfl), by decide +kernel, by decide +kernel, by decide +kernel⟩, (xm_in (List.mem_of_getElem? (i := 632) (by decide +kernel)) rfl), (List.mem_filter.mpr ⟨List.mem_append_left _ (List.mem_of_getElem? (i := 24) (by decide +kernel)), rfl⟩)⟩
def y9_readAny : xm_Y := (⟨"FilterProof$Consumer", "readAny", "()Z"⟩, prog_2_method_4_code, 1, (some .boolean))
def rm9_readAny : Room := { frames := 1, cells := 0, slots := 0, locals := 22 }
theorem k9_readAny : xm_calV y9_readAny 0 := ⟨⟨(xm_in (List.mem_of_getElem? (i := 637) (by decide +kernel)) rfl), (xm_in (List.mem_of_getElem? (i := 12) (by decide +kernel)) rfl), by decide +kernel, by decide +kernel, by decide +kernel⟩, (xm_in (List.mem_of_getElem? (i := 636) (by decide +kernel)) rfl), (List.mem_filter.mpr ⟨List.mem_append_left _ (List.mem_of_getElem? (i := 25) (by decide +kernel)), rfl⟩)⟩
def y9_refuse : xm_Y := (⟨"FilterProof$Consumer", "refuse", "(II)Z"⟩, prog_2_method_3_code, 3, (some .boolean))
def rm9_refuse : Room := { frames := 0, cells := 0, slots := 0, locals := 0 }
theorem k9_refuse : xm_calV y9_refuse 2 := ⟨⟨(xm_in (List.mem_of_getElem? (i := 641) (by decide +kernel)) rfl), (xm_in (List.mem_of_getElem? (i := 12) (by decide +kernel)) rfl), by decide +kernel, by decide +kernel, by decide +kernel⟩, (xm_in (List.mem_of_getElem? (i := 640) (by decide +kernel)) rfl), (List.mem_filter.mpr ⟨List.mem_append_left _ (List.mem_of_getElem? (i := 26) (by decide +kernel)), rfl⟩)⟩
def y9_readFact : xm_Y := (⟨"FilterProof$Consumer", "readFact", "()Z"⟩, prog_2_method_7_code, 2, (some .boolean))
def rm9_readFact : Room := { frames := 3, cells := 0, slots := 0, locals := 64 }
theorem k9_readFact : xm_calV y9_readFact 0 := ⟨⟨(xm_in (List.mem_of_getElem? (i := 646) (by decide +kernel)) rfl), (xm_in (List.mem_of_getElem? (i := 12) (by decide +kernel)) rfl), by decide +kernel, by decide +kernel, by decide +kernel⟩, (xm_in (List.mem_of_getElem? (i := 645) (by decide +kernel)) rfl), (List.mem_filter.mpr ⟨List.mem_append_left _ (List.mem_of_getElem? (i := 27) (by decide +kernel)), rfl⟩)⟩
def y9_readReasonsFor : xm_Y := (⟨"FilterProof$Consumer", "readReasonsFor", "(III)Z"⟩, prog_2_method_10_code, 6, (some .boolean))
def rm9_readReasonsFor : Room := { frames := 4, cells := 0, slots := 0, locals := 113 }
theorem k9_readReasonsFor : xm_calV y9_readReasonsFor 3 := ⟨⟨(xm_in (List.mem_of_getElem? (i := 650) (by decide +kernel)) rfl), (xm_in (List.mem_of_getElem? (i := 12) (by decide +kernel)) rfl), by decide +kernel, by decide +kernel, by decide +kernel⟩, (xm_in (List.mem_of_getElem? (i := 649) (by decide +kernel)) rfl), (List.mem_filter.mpr ⟨List.mem_append_left _ (List.mem_of_getElem? (i := 28) (by decide +kernel)), rfl⟩)⟩
def y9_readReason : xm_Y := (⟨"FilterProof$Consumer", "readReason", "(IIIIJ)Z"⟩, prog_2_method_11_code, 13, (some .boolean))
def rm9_readReason : Room := { frames := 3, cells := 0, slots := 0, locals := 81 }
theorem k9_readReason : xm_calV y9_readReason 5 := ⟨⟨(xm_in (List.mem_of_getElem? (i := 654) (by decide +kernel)) rfl), (xm_in (List.mem_of_getElem? (i := 12) (by decide +kernel)) rfl), by decide +kernel, by decide +kernel, by decide +kernel⟩, (xm_in (List.mem_of_getElem? (i := 653) (by decide +kernel)) rfl), (List.mem_filter.mpr ⟨List.mem_append_left _ (List.mem_of_getElem? (i := 29) (by decide +kernel)), rfl⟩)⟩
def y9_findStep : xm_Y := (⟨"FilterProof$Consumer", "findStep", "(III)Z"⟩, prog_2_method_12_code, 7, (some .boolean))
def rm9_findStep : Room := { frames := 2, cells := 0, slots := 0, locals := 55 }
theorem k9_findStep : xm_calV y9_findStep 3 := ⟨⟨(xm_in (List.mem_of_getElem? (i := 658) (by decide +kernel)) rfl), (xm_in (List.mem_of_getElem? (i := 12) (by decide +kernel)) rfl), by decide +kernel, by decide +kernel, by decide +kernel⟩, (xm_in (List.mem_of_getElem? (i := 657) (by decide +kernel)) rfl), (List.mem_filter.mpr ⟨List.mem_append_left _ (List.mem_of_getElem? (i := 30) (by decide +kernel)), rfl⟩)⟩
def y9_findFact : xm_Y := (⟨"FilterProof$Consumer", "findFact", "(LFilterProof$Step;II)Z"⟩, prog_2_method_13_code, 5, (some .boolean))
def rm9_findFact : Room := { frames := 1, cells := 0, slots := 0, locals := 24 }
theorem k9_findFact : xm_calV y9_findFact 3 := ⟨⟨(xm_in (List.mem_of_getElem? (i := 663) (by decide +kernel)) rfl), (xm_in (List.mem_of_getElem? (i := 12) (by decide +kernel)) rfl), by decide +kernel, by decide +kernel, by decide +kernel⟩, (xm_in (List.mem_of_getElem? (i := 662) (by decide +kernel)) rfl), (List.mem_filter.mpr ⟨List.mem_append_left _ (List.mem_of_getElem? (i := 31) (by decide +kernel)), rfl⟩)⟩
def y9_readAccess : xm_Y := (⟨"FilterProof$Consumer", "readAccess", "(I)Z"⟩, prog_2_method_8_code, 4, (some .boolean))
def rm9_readAccess : Room := { frames := 4, cells := 0, slots := 0, locals := 113 }
theorem k9_readAccess : xm_calV y9_readAccess 1 := ⟨⟨(xm_in (List.mem_of_getElem? (i := 672) (by decide +kernel)) rfl), (xm_in (List.mem_of_getElem? (i := 12) (by decide +kernel)) rfl), by decide +kernel, by decide +kernel, by decide +kernel⟩, (xm_in (List.mem_of_getElem? (i := 671) (by decide +kernel)) rfl), (List.mem_filter.mpr ⟨List.mem_append_left _ (List.mem_of_getElem? (i := 32) (by decide +kernel)), rfl⟩)⟩
def y9_readEdges : xm_Y := (⟨"FilterProof$Consumer", "readEdges", "(I)Z"⟩, prog_2_method_9_code, 6, (some .boolean))
def rm9_readEdges : Room := { frames := 5, cells := 0, slots := 0, locals := 138 }
theorem k9_readEdges : xm_calV y9_readEdges 1 := ⟨⟨(xm_in (List.mem_of_getElem? (i := 679) (by decide +kernel)) rfl), (xm_in (List.mem_of_getElem? (i := 12) (by decide +kernel)) rfl), by decide +kernel, by decide +kernel, by decide +kernel⟩, (xm_in (List.mem_of_getElem? (i := 678) (by decide +kernel)) rfl), (List.mem_filter.mpr ⟨List.mem_append_left _ (List.mem_of_getElem? (i := 33) (by decide +kernel)), rfl⟩)⟩
def y0_place : xm_Y := (⟨"FilterProof", "place", "()I"⟩, prog_1_method_11_code, 1, (some .int))
def rm0_place : Room := { frames := 0, cells := 0, slots := 0, locals := 0 }
theorem k0_place : xm_calV y0_place 0 := ⟨⟨(xm_in (List.mem_of_getElem? (i := 686) (by decide +kernel)) rfl), (xm_in (List.mem_of_getElem? (i := 1) (by decide +kernel)) rfl), by decide +kernel, by decide +kernel, by decide +kernel⟩, (xm_in (List.mem_of_getElem? (i := 684) (by decide +kernel)) rfl), (xm_in (List.mem_of_getElem? (i := 685) (by decide +kernel)) rfl)⟩
def y0_receive : xm_Y := (⟨"FilterProof", "receive", "(JI)I"⟩, prog_1_method_12_code, 4, (some .int))
def rm0_receive : Room := { frames := 1, cells := 0, slots := 0, locals := 24 }
theorem k0_receive : xm_calV y0_receive 2 := ⟨⟨(xm_in (List.mem_of_getElem? (i := 690) (by decide +kernel)) rfl), (xm_in (List.mem_of_getElem? (i := 1) (by decide +kernel)) rfl), by decide +kernel, by decide +kernel, by decide +kernel⟩, (xm_in (List.mem_of_getElem? (i := 688) (by decide +kernel)) rfl), (xm_in (List.mem_of_getElem? (i := 689) (by decide +kernel)) rfl)⟩
def y4_append : xm_Y := (⟨"FilterProof$Packet", "append", "(JI)Z"⟩, prog_6_method_2_code, 5, (some .boolean))
def rm4_append : Room := { frames := 0, cells := 0, slots := 0, locals := 0 }
theorem k4_append : xm_calV y4_append 2 := ⟨⟨(xm_in (List.mem_of_getElem? (i := 694) (by decide +kernel)) rfl), (xm_in (List.mem_of_getElem? (i := 6) (by decide +kernel)) rfl), by decide +kernel, by decide +kernel, by decide +kernel⟩, (xm_in (List.mem_of_getElem? (i := 692) (by decide +kernel)) rfl), (xm_in (List.mem_of_getElem? (i := 693) (by decide +kernel)) rfl)⟩
def y0_drop : xm_Y := (⟨"FilterProof", "drop", "()I"⟩, prog_1_method_13_code, 2, (some .int))
def rm0_drop : Room := { frames := 0, cells := 0, slots := 0, locals := 0 }
theorem k0_drop : xm_calV y0_drop 0 := ⟨⟨(xm_in (List.mem_of_getElem? (i := 698) (by decide +kernel)) rfl), (xm_in (List.mem_of_getElem? (i := 1) (by decide +kernel)) rfl), by decide +kernel, by decide +kernel, by decide +kernel⟩, (xm_in (List.mem_of_getElem? (i := 696) (by decide +kernel)) rfl), (xm_in (List.mem_of_getElem? (i := 697) (by decide +kernel)) rfl)⟩
def y0_run : xm_Y := (⟨"FilterProof", "run", "()I"⟩, prog_1_method_14_code, 1, (some .int))
def rm0_run : Room := { frames := 4, cells := 0, slots := 0, locals := 96 }
theorem k0_run : xm_calV y0_run 0 := ⟨⟨(xm_in (List.mem_of_getElem? (i := 702) (by decide +kernel)) rfl), (xm_in (List.mem_of_getElem? (i := 1) (by decide +kernel)) rfl), by decide +kernel, by decide +kernel, by decide +kernel⟩, (xm_in (List.mem_of_getElem? (i := 700) (by decide +kernel)) rfl), (xm_in (List.mem_of_getElem? (i := 701) (by decide +kernel)) rfl)⟩
def y10_execute : xm_Y := (⟨"FilterProof$Machine", "execute", "(LFilterProof$Filter;LFilterProof$Packet;)I"⟩, prog_5_method_2_code, 6, (some .int))
def rm10_execute : Room := { frames := 3, cells := 0, slots := 0, locals := 71 }
theorem k10_execute : xm_calV y10_execute 2 := ⟨⟨(xm_in (List.mem_of_getElem? (i := 706) (by decide +kernel)) rfl), (xm_in (List.mem_of_getElem? (i := 13) (by decide +kernel)) rfl), by decide +kernel, by decide +kernel, by decide +kernel⟩, (xm_in (List.mem_of_getElem? (i := 704) (by decide +kernel)) rfl), (xm_in (List.mem_of_getElem? (i := 705) (by decide +kernel)) rfl)⟩
def yr_fill_I : xm_Y := (⟨"java/util/Arrays", "fill", "([II)V"⟩, prog_15_method_103_code, 4, none)
def rmr_fill_I : Room := { frames := 0, cells := 0, slots := 0, locals := 0 }
theorem kr_fill_I : xm_calS yr_fill_I 2 := ⟨⟨(xm_in (List.mem_of_getElem? (i := 709) (by decide +kernel)) rfl), (xm_in (List.mem_of_getElem? (i := 11) (by decide +kernel)) rfl), by decide +kernel, by decide +kernel, by decide +kernel⟩, (xm_in (List.mem_of_getElem? (i := 708) (by decide +kernel)) rfl)⟩
def yr_fill_B : xm_Y := (⟨"java/util/Arrays", "fill", "([BB)V"⟩, prog_15_method_109_code, 4, none)
def rmr_fill_B : Room := { frames := 0, cells := 0, slots := 0, locals := 0 }
theorem kr_fill_B : xm_calS yr_fill_B 2 := ⟨⟨(xm_in (List.mem_of_getElem? (i := 712) (by decide +kernel)) rfl), (xm_in (List.mem_of_getElem? (i := 11) (by decide +kernel)) rfl), by decide +kernel, by decide +kernel, by decide +kernel⟩, (xm_in (List.mem_of_getElem? (i := 711) (by decide +kernel)) rfl)⟩
def y10_perform : xm_Y := (⟨"FilterProof$Machine", "perform", "(LFilterProof$Instruction;LFilterProof$Packet;)I"⟩, prog_5_method_3_code, 4, (some .int))
def rm10_perform : Room := { frames := 2, cells := 0, slots := 0, locals := 48 }
theorem k10_perform : xm_calV y10_perform 2 := ⟨⟨(xm_in (List.mem_of_getElem? (i := 716) (by decide +kernel)) rfl), (xm_in (List.mem_of_getElem? (i := 13) (by decide +kernel)) rfl), by decide +kernel, by decide +kernel, by decide +kernel⟩, (xm_in (List.mem_of_getElem? (i := 715) (by decide +kernel)) rfl), (List.mem_filter.mpr ⟨List.mem_append_left _ (List.mem_of_getElem? (i := 34) (by decide +kernel)), rfl⟩)⟩
def y10_become : xm_Y := (⟨"FilterProof$Machine", "become", "(IJ)I"⟩, prog_5_method_4_code, 4, (some .int))
def rm10_become : Room := { frames := 0, cells := 0, slots := 0, locals := 0 }
theorem k10_become : xm_calV y10_become 2 := ⟨⟨(xm_in (List.mem_of_getElem? (i := 720) (by decide +kernel)) rfl), (xm_in (List.mem_of_getElem? (i := 13) (by decide +kernel)) rfl), by decide +kernel, by decide +kernel, by decide +kernel⟩, (xm_in (List.mem_of_getElem? (i := 719) (by decide +kernel)) rfl), (List.mem_filter.mpr ⟨List.mem_append_left _ (List.mem_of_getElem? (i := 35) (by decide +kernel)), rfl⟩)⟩
def y10_access : xm_Y := (⟨"FilterProof$Machine", "access", "(LFilterProof$Instruction;LFilterProof$Packet;)I"⟩, prog_5_method_5_code, 5, (some .int))
def rm10_access : Room := { frames := 1, cells := 0, slots := 0, locals := 24 }
theorem k10_access : xm_calV y10_access 2 := ⟨⟨(xm_in (List.mem_of_getElem? (i := 725) (by decide +kernel)) rfl), (xm_in (List.mem_of_getElem? (i := 13) (by decide +kernel)) rfl), by decide +kernel, by decide +kernel, by decide +kernel⟩, (xm_in (List.mem_of_getElem? (i := 724) (by decide +kernel)) rfl), (List.mem_filter.mpr ⟨List.mem_append_left _ (List.mem_of_getElem? (i := 36) (by decide +kernel)), rfl⟩)⟩
def y10_accessScratch : xm_Y := (⟨"FilterProof$Machine", "accessScratch", "(LFilterProof$Instruction;J)I"⟩, prog_5_method_6_code, 4, (some .int))
def rm10_accessScratch : Room := { frames := 0, cells := 0, slots := 0, locals := 0 }
theorem k10_accessScratch : xm_calV y10_accessScratch 2 := ⟨⟨(xm_in (List.mem_of_getElem? (i := 730) (by decide +kernel)) rfl), (xm_in (List.mem_of_getElem? (i := 13) (by decide +kernel)) rfl), by decide +kernel, by decide +kernel, by decide +kernel⟩, (xm_in (List.mem_of_getElem? (i := 729) (by decide +kernel)) rfl), (List.mem_filter.mpr ⟨List.mem_append_left _ (List.mem_of_getElem? (i := 37) (by decide +kernel)), rfl⟩)⟩
def y4_has : xm_Y := (⟨"FilterProof$Packet", "has", "(JI)Z"⟩, prog_6_method_3_code, 4, (some .boolean))
def rm4_has : Room := { frames := 0, cells := 0, slots := 0, locals := 0 }
theorem k4_has : xm_calV y4_has 2 := ⟨⟨(xm_in (List.mem_of_getElem? (i := 736) (by decide +kernel)) rfl), (xm_in (List.mem_of_getElem? (i := 6) (by decide +kernel)) rfl), by decide +kernel, by decide +kernel, by decide +kernel⟩, (xm_in (List.mem_of_getElem? (i := 734) (by decide +kernel)) rfl), (xm_in (List.mem_of_getElem? (i := 735) (by decide +kernel)) rfl)⟩
def y4_load : xm_Y := (⟨"FilterProof$Packet", "load", "(II)I"⟩, prog_6_method_4_code, 5, (some .int))
def rm4_load : Room := { frames := 0, cells := 0, slots := 0, locals := 0 }
theorem k4_load : xm_calV y4_load 2 := ⟨⟨(xm_in (List.mem_of_getElem? (i := 740) (by decide +kernel)) rfl), (xm_in (List.mem_of_getElem? (i := 6) (by decide +kernel)) rfl), by decide +kernel, by decide +kernel, by decide +kernel⟩, (xm_in (List.mem_of_getElem? (i := 738) (by decide +kernel)) rfl), (xm_in (List.mem_of_getElem? (i := 739) (by decide +kernel)) rfl)⟩
def y10_jumps : xm_Y := (⟨"FilterProof$Machine", "jumps", "(LFilterProof$Instruction;)Z"⟩, prog_5_method_7_code, 2, (some .boolean))
def rm10_jumps : Room := { frames := 0, cells := 0, slots := 0, locals := 0 }
theorem k10_jumps : xm_calV y10_jumps 1 := ⟨⟨(xm_in (List.mem_of_getElem? (i := 744) (by decide +kernel)) rfl), (xm_in (List.mem_of_getElem? (i := 13) (by decide +kernel)) rfl), by decide +kernel, by decide +kernel, by decide +kernel⟩, (xm_in (List.mem_of_getElem? (i := 743) (by decide +kernel)) rfl), (List.mem_filter.mpr ⟨List.mem_append_left _ (List.mem_of_getElem? (i := 38) (by decide +kernel)), rfl⟩)⟩
def y0_result : xm_Y := (⟨"FilterProof", "result", "()I"⟩, prog_1_method_15_code, 1, (some .int))
def rm0_result : Room := { frames := 0, cells := 0, slots := 0, locals := 0 }
theorem k0_result : xm_calV y0_result 0 := ⟨⟨(xm_in (List.mem_of_getElem? (i := 748) (by decide +kernel)) rfl), (xm_in (List.mem_of_getElem? (i := 1) (by decide +kernel)) rfl), by decide +kernel, by decide +kernel, by decide +kernel⟩, (xm_in (List.mem_of_getElem? (i := 746) (by decide +kernel)) rfl), (xm_in (List.mem_of_getElem? (i := 747) (by decide +kernel)) rfl)⟩
def y0_steps : xm_Y := (⟨"FilterProof", "steps", "()I"⟩, prog_1_method_16_code, 1, (some .int))
def rm0_steps : Room := { frames := 0, cells := 0, slots := 0, locals := 0 }
theorem k0_steps : xm_calV y0_steps 0 := ⟨⟨(xm_in (List.mem_of_getElem? (i := 752) (by decide +kernel)) rfl), (xm_in (List.mem_of_getElem? (i := 1) (by decide +kernel)) rfl), by decide +kernel, by decide +kernel, by decide +kernel⟩, (xm_in (List.mem_of_getElem? (i := 750) (by decide +kernel)) rfl), (xm_in (List.mem_of_getElem? (i := 751) (by decide +kernel)) rfl)⟩
def yL_cell : xm_Y := (⟨"FilterProofLaw", "cell", "([II)I"⟩, method_2_code, 2, (some .int))
def rmL_cell : Room := { frames := 0, cells := 0, slots := 0, locals := 0 }
theorem kL_cell : xm_calS yL_cell 2 := ⟨⟨(xm_in (List.mem_of_getElem? (i := 755) (by decide +kernel)) rfl), (xm_in (List.mem_of_getElem? (i := 0) (by decide +kernel)) rfl), by decide +kernel, by decide +kernel, by decide +kernel⟩, (xm_in (List.mem_of_getElem? (i := 754) (by decide +kernel)) rfl)⟩
def y11_init : xm_Y := (⟨"FilterProofModel", "<init>", "(I)V"⟩, prog_13_method_1_code, 2, none)
theorem k11_init : xm_calI y11_init 1 := ⟨⟨(xm_in (List.mem_of_getElem? (i := 760) (by decide +kernel)) rfl), (xm_in (List.mem_of_getElem? (i := 14) (by decide +kernel)) rfl), by decide +kernel, by decide +kernel, by decide +kernel⟩, (xm_in (List.mem_of_getElem? (i := 759) (by decide +kernel)) rfl), rfl, rfl⟩
def y11_instruction : xm_Y := (⟨"FilterProofModel", "instruction", "(IIIII)I"⟩, prog_13_method_2_code, 6, (some .int))
def rm11_instruction : Room := { frames := 0, cells := 0, slots := 0, locals := 0 }
theorem k11_instruction : xm_calV y11_instruction 5 := ⟨⟨(xm_in (List.mem_of_getElem? (i := 877) (by decide +kernel)) rfl), (xm_in (List.mem_of_getElem? (i := 14) (by decide +kernel)) rfl), by decide +kernel, by decide +kernel, by decide +kernel⟩, (xm_in (List.mem_of_getElem? (i := 875) (by decide +kernel)) rfl), (xm_in (List.mem_of_getElem? (i := 876) (by decide +kernel)) rfl)⟩
def y11_clear : xm_Y := (⟨"FilterProofModel", "clear", "()I"⟩, prog_13_method_3_code, 2, (some .int))
def rm11_clear : Room := { frames := 0, cells := 0, slots := 0, locals := 0 }
theorem k11_clear : xm_calV y11_clear 0 := ⟨⟨(xm_in (List.mem_of_getElem? (i := 881) (by decide +kernel)) rfl), (xm_in (List.mem_of_getElem? (i := 14) (by decide +kernel)) rfl), by decide +kernel, by decide +kernel, by decide +kernel⟩, (xm_in (List.mem_of_getElem? (i := 879) (by decide +kernel)) rfl), (xm_in (List.mem_of_getElem? (i := 880) (by decide +kernel)) rfl)⟩
def y11_prove : xm_Y := (⟨"FilterProofModel", "prove", "()I"⟩, prog_13_method_36_code, 2, (some .int))
def rm11_prove : Room := { frames := 6, cells := 0, slots := 0, locals := 147 }
theorem k11_prove : xm_calV y11_prove 0 := ⟨⟨(xm_in (List.mem_of_getElem? (i := 885) (by decide +kernel)) rfl), (xm_in (List.mem_of_getElem? (i := 14) (by decide +kernel)) rfl), by decide +kernel, by decide +kernel, by decide +kernel⟩, (xm_in (List.mem_of_getElem? (i := 883) (by decide +kernel)) rfl), (xm_in (List.mem_of_getElem? (i := 884) (by decide +kernel)) rfl)⟩
def y11_wrong : xm_Y := (⟨"FilterProofModel", "wrong", "()I"⟩, prog_13_method_4_code, 3, (some .int))
def rm11_wrong : Room := { frames := 0, cells := 0, slots := 0, locals := 0 }
theorem k11_wrong : xm_calV y11_wrong 0 := ⟨⟨(xm_in (List.mem_of_getElem? (i := 889) (by decide +kernel)) rfl), (xm_in (List.mem_of_getElem? (i := 14) (by decide +kernel)) rfl), by decide +kernel, by decide +kernel, by decide +kernel⟩, (xm_in (List.mem_of_getElem? (i := 888) (by decide +kernel)) rfl), (List.mem_filter.mpr ⟨List.mem_append_left _ (List.mem_of_getElem? (i := 39) (by decide +kernel)), rfl⟩)⟩
def y11_findBounds : xm_Y := (⟨"FilterProofModel", "findBounds", "()V"⟩, prog_13_method_19_code, 4, none)
def rm11_findBounds : Room := { frames := 5, cells := 0, slots := 0, locals := 123 }
theorem k11_findBounds : xm_calV y11_findBounds 0 := ⟨⟨(xm_in (List.mem_of_getElem? (i := 893) (by decide +kernel)) rfl), (xm_in (List.mem_of_getElem? (i := 14) (by decide +kernel)) rfl), by decide +kernel, by decide +kernel, by decide +kernel⟩, (xm_in (List.mem_of_getElem? (i := 892) (by decide +kernel)) rfl), (List.mem_filter.mpr ⟨List.mem_append_left _ (List.mem_of_getElem? (i := 40) (by decide +kernel)), rfl⟩)⟩
def y11_beginning : xm_Y := (⟨"FilterProofModel", "beginning", "()V"⟩, prog_13_method_12_code, 3, none)
def rm11_beginning : Room := { frames := 3, cells := 0, slots := 0, locals := 73 }
theorem k11_beginning : xm_calV y11_beginning 0 := ⟨⟨(xm_in (List.mem_of_getElem? (i := 897) (by decide +kernel)) rfl), (xm_in (List.mem_of_getElem? (i := 14) (by decide +kernel)) rfl), by decide +kernel, by decide +kernel, by decide +kernel⟩, (xm_in (List.mem_of_getElem? (i := 896) (by decide +kernel)) rfl), (List.mem_filter.mpr ⟨List.mem_append_left _ (List.mem_of_getElem? (i := 41) (by decide +kernel)), rfl⟩)⟩
def y11_both : xm_Y := (⟨"FilterProofModel", "both", "(IIIJJ)V"⟩, prog_13_method_8_code, 8, none)
def rm11_both : Room := { frames := 2, cells := 0, slots := 0, locals := 46 }
theorem k11_both : xm_calV y11_both 5 := ⟨⟨(xm_in (List.mem_of_getElem? (i := 901) (by decide +kernel)) rfl), (xm_in (List.mem_of_getElem? (i := 14) (by decide +kernel)) rfl), by decide +kernel, by decide +kernel, by decide +kernel⟩, (xm_in (List.mem_of_getElem? (i := 900) (by decide +kernel)) rfl), (List.mem_filter.mpr ⟨List.mem_append_left _ (List.mem_of_getElem? (i := 42) (by decide +kernel)), rfl⟩)⟩
def y11_step : xm_Y := (⟨"FilterProofModel", "step", "(IIIJ)V"⟩, prog_13_method_5_code, 6, none)
def rm11_step : Room := { frames := 1, cells := 0, slots := 0, locals := 21 }
theorem k11_step : xm_calV y11_step 4 := ⟨⟨(xm_in (List.mem_of_getElem? (i := 905) (by decide +kernel)) rfl), (xm_in (List.mem_of_getElem? (i := 14) (by decide +kernel)) rfl), by decide +kernel, by decide +kernel, by decide +kernel⟩, (xm_in (List.mem_of_getElem? (i := 904) (by decide +kernel)) rfl), (List.mem_filter.mpr ⟨List.mem_append_left _ (List.mem_of_getElem? (i := 43) (by decide +kernel)), rfl⟩)⟩
def y11_isInt : xm_Y := (⟨"FilterProofModel", "isInt", "(J)Z"⟩, prog_13_method_15_code, 2, (some .boolean))
def rm11_isInt : Room := { frames := 0, cells := 0, slots := 0, locals := 0 }
theorem k11_isInt : xm_calS y11_isInt 1 := ⟨⟨(xm_in (List.mem_of_getElem? (i := 908) (by decide +kernel)) rfl), (xm_in (List.mem_of_getElem? (i := 14) (by decide +kernel)) rfl), by decide +kernel, by decide +kernel, by decide +kernel⟩, (xm_in (List.mem_of_getElem? (i := 907) (by decide +kernel)) rfl)⟩
def y11_relax : xm_Y := (⟨"FilterProofModel", "relax", "()Z"⟩, prog_13_method_13_code, 3, (some .boolean))
def rm11_relax : Room := { frames := 1, cells := 0, slots := 0, locals := 26 }
theorem k11_relax : xm_calV y11_relax 0 := ⟨⟨(xm_in (List.mem_of_getElem? (i := 915) (by decide +kernel)) rfl), (xm_in (List.mem_of_getElem? (i := 14) (by decide +kernel)) rfl), by decide +kernel, by decide +kernel, by decide +kernel⟩, (xm_in (List.mem_of_getElem? (i := 914) (by decide +kernel)) rfl), (List.mem_filter.mpr ⟨List.mem_append_left _ (List.mem_of_getElem? (i := 44) (by decide +kernel)), rfl⟩)⟩
def y11_relaxOne : xm_Y := (⟨"FilterProofModel", "relaxOne", "(II)Z"⟩, prog_13_method_14_code, 7, (some .boolean))
def rm11_relaxOne : Room := { frames := 0, cells := 0, slots := 0, locals := 0 }
theorem k11_relaxOne : xm_calV y11_relaxOne 2 := ⟨⟨(xm_in (List.mem_of_getElem? (i := 920) (by decide +kernel)) rfl), (xm_in (List.mem_of_getElem? (i := 14) (by decide +kernel)) rfl), by decide +kernel, by decide +kernel, by decide +kernel⟩, (xm_in (List.mem_of_getElem? (i := 919) (by decide +kernel)) rfl), (List.mem_filter.mpr ⟨List.mem_append_left _ (List.mem_of_getElem? (i := 45) (by decide +kernel)), rfl⟩)⟩
def y11_come : xm_Y := (⟨"FilterProofModel", "come", "(I)V"⟩, prog_13_method_18_code, 6, none)
def rm11_come : Room := { frames := 1, cells := 0, slots := 0, locals := 21 }
theorem k11_come : xm_calV y11_come 1 := ⟨⟨(xm_in (List.mem_of_getElem? (i := 924) (by decide +kernel)) rfl), (xm_in (List.mem_of_getElem? (i := 14) (by decide +kernel)) rfl), by decide +kernel, by decide +kernel, by decide +kernel⟩, (xm_in (List.mem_of_getElem? (i := 923) (by decide +kernel)) rfl), (List.mem_filter.mpr ⟨List.mem_append_left _ (List.mem_of_getElem? (i := 46) (by decide +kernel)), rfl⟩)⟩
def y11_end : xm_Y := (⟨"FilterProofModel", "end", "(II)I"⟩, prog_13_method_11_code, 3, (some .int))
def rm11_end : Room := { frames := 0, cells := 0, slots := 0, locals := 0 }
theorem k11_end : xm_calV y11_end 2 := ⟨⟨(xm_in (List.mem_of_getElem? (i := 928) (by decide +kernel)) rfl), (xm_in (List.mem_of_getElem? (i := 14) (by decide +kernel)) rfl), by decide +kernel, by decide +kernel, by decide +kernel⟩, (xm_in (List.mem_of_getElem? (i := 927) (by decide +kernel)) rfl), (List.mem_filter.mpr ⟨List.mem_append_left _ (List.mem_of_getElem? (i := 47) (by decide +kernel)), rfl⟩)⟩
def y11_stepsOf : xm_Y := (⟨"FilterProofModel", "stepsOf", "(II)V"⟩, prog_13_method_16_code, 4, none)
def rm11_stepsOf : Room := { frames := 4, cells := 0, slots := 0, locals := 100 }
theorem k11_stepsOf : xm_calV y11_stepsOf 2 := ⟨⟨(xm_in (List.mem_of_getElem? (i := 932) (by decide +kernel)) rfl), (xm_in (List.mem_of_getElem? (i := 14) (by decide +kernel)) rfl), by decide +kernel, by decide +kernel, by decide +kernel⟩, (xm_in (List.mem_of_getElem? (i := 931) (by decide +kernel)) rfl), (List.mem_filter.mpr ⟨List.mem_append_left _ (List.mem_of_getElem? (i := 48) (by decide +kernel)), rfl⟩)⟩
def y11_keep : xm_Y := (⟨"FilterProofModel", "keep", "(IIIIJ)V"⟩, prog_13_method_7_code, 8, none)
def rm11_keep : Room := { frames := 2, cells := 0, slots := 0, locals := 46 }
theorem k11_keep : xm_calV y11_keep 5 := ⟨⟨(xm_in (List.mem_of_getElem? (i := 936) (by decide +kernel)) rfl), (xm_in (List.mem_of_getElem? (i := 14) (by decide +kernel)) rfl), by decide +kernel, by decide +kernel, by decide +kernel⟩, (xm_in (List.mem_of_getElem? (i := 935) (by decide +kernel)) rfl), (List.mem_filter.mpr ⟨List.mem_append_left _ (List.mem_of_getElem? (i := 49) (by decide +kernel)), rfl⟩)⟩
def y11_changes : xm_Y := (⟨"FilterProofModel", "changes", "(I)Z"⟩, prog_13_method_6_code, 2, (some .boolean))
def rm11_changes : Room := { frames := 0, cells := 0, slots := 0, locals := 0 }
theorem k11_changes : xm_calV y11_changes 1 := ⟨⟨(xm_in (List.mem_of_getElem? (i := 940) (by decide +kernel)) rfl), (xm_in (List.mem_of_getElem? (i := 14) (by decide +kernel)) rfl), by decide +kernel, by decide +kernel, by decide +kernel⟩, (xm_in (List.mem_of_getElem? (i := 939) (by decide +kernel)) rfl), (List.mem_filter.mpr ⟨List.mem_append_left _ (List.mem_of_getElem? (i := 50) (by decide +kernel)), rfl⟩)⟩
def y11_further : xm_Y := (⟨"FilterProofModel", "further", "(III)V"⟩, prog_13_method_9_code, 8, none)
def rm11_further : Room := { frames := 3, cells := 0, slots := 0, locals := 73 }
theorem k11_further : xm_calV y11_further 3 := ⟨⟨(xm_in (List.mem_of_getElem? (i := 944) (by decide +kernel)) rfl), (xm_in (List.mem_of_getElem? (i := 14) (by decide +kernel)) rfl), by decide +kernel, by decide +kernel, by decide +kernel⟩, (xm_in (List.mem_of_getElem? (i := 943) (by decide +kernel)) rfl), (List.mem_filter.mpr ⟨List.mem_append_left _ (List.mem_of_getElem? (i := 51) (by decide +kernel)), rfl⟩)⟩
def y11_sumOf : xm_Y := (⟨"FilterProofModel", "sumOf", "(III)V"⟩, prog_13_method_17_code, 8, none)
def rm11_sumOf : Room := { frames := 2, cells := 0, slots := 0, locals := 46 }
theorem k11_sumOf : xm_calV y11_sumOf 3 := ⟨⟨(xm_in (List.mem_of_getElem? (i := 951) (by decide +kernel)) rfl), (xm_in (List.mem_of_getElem? (i := 14) (by decide +kernel)) rfl), by decide +kernel, by decide +kernel, by decide +kernel⟩, (xm_in (List.mem_of_getElem? (i := 950) (by decide +kernel)) rfl), (List.mem_filter.mpr ⟨List.mem_append_left _ (List.mem_of_getElem? (i := 52) (by decide +kernel)), rfl⟩)⟩
def y11_isSum : xm_Y := (⟨"FilterProofModel", "isSum", "(IIIII)Z"⟩, prog_13_method_10_code, 8, (some .boolean))
def rm11_isSum : Room := { frames := 0, cells := 0, slots := 0, locals := 0 }
theorem k11_isSum : xm_calV y11_isSum 5 := ⟨⟨(xm_in (List.mem_of_getElem? (i := 955) (by decide +kernel)) rfl), (xm_in (List.mem_of_getElem? (i := 14) (by decide +kernel)) rfl), by decide +kernel, by decide +kernel, by decide +kernel⟩, (xm_in (List.mem_of_getElem? (i := 954) (by decide +kernel)) rfl), (List.mem_filter.mpr ⟨List.mem_append_left _ (List.mem_of_getElem? (i := 53) (by decide +kernel)), rfl⟩)⟩
def y11_need : xm_Y := (⟨"FilterProofModel", "need", "(I)Z"⟩, prog_13_method_29_code, 5, (some .boolean))
def rm11_need : Room := { frames := 5, cells := 0, slots := 0, locals := 123 }
theorem k11_need : xm_calV y11_need 1 := ⟨⟨(xm_in (List.mem_of_getElem? (i := 959) (by decide +kernel)) rfl), (xm_in (List.mem_of_getElem? (i := 14) (by decide +kernel)) rfl), by decide +kernel, by decide +kernel, by decide +kernel⟩, (xm_in (List.mem_of_getElem? (i := 958) (by decide +kernel)) rfl), (List.mem_filter.mpr ⟨List.mem_append_left _ (List.mem_of_getElem? (i := 54) (by decide +kernel)), rfl⟩)⟩
def y11_isAccess : xm_Y := (⟨"FilterProofModel", "isAccess", "(I)Z"⟩, prog_13_method_25_code, 2, (some .boolean))
def rm11_isAccess : Room := { frames := 0, cells := 0, slots := 0, locals := 0 }
theorem k11_isAccess : xm_calV y11_isAccess 1 := ⟨⟨(xm_in (List.mem_of_getElem? (i := 963) (by decide +kernel)) rfl), (xm_in (List.mem_of_getElem? (i := 14) (by decide +kernel)) rfl), by decide +kernel, by decide +kernel, by decide +kernel⟩, (xm_in (List.mem_of_getElem? (i := 962) (by decide +kernel)) rfl), (List.mem_filter.mpr ⟨List.mem_append_left _ (List.mem_of_getElem? (i := 55) (by decide +kernel)), rfl⟩)⟩
def y11_findBound : xm_Y := (⟨"FilterProofModel", "findBound", "(II)Z"⟩, prog_13_method_28_code, 4, (some .boolean))
def rm11_findBound : Room := { frames := 2, cells := 0, slots := 0, locals := 59 }
theorem k11_findBound : xm_calV y11_findBound 2 := ⟨⟨(xm_in (List.mem_of_getElem? (i := 967) (by decide +kernel)) rfl), (xm_in (List.mem_of_getElem? (i := 14) (by decide +kernel)) rfl), by decide +kernel, by decide +kernel, by decide +kernel⟩, (xm_in (List.mem_of_getElem? (i := 966) (by decide +kernel)) rfl), (List.mem_filter.mpr ⟨List.mem_append_left _ (List.mem_of_getElem? (i := 56) (by decide +kernel)), rfl⟩)⟩
def y11_findReason : xm_Y := (⟨"FilterProofModel", "findReason", "(IIJ)Z"⟩, prog_13_method_21_code, 15, (some .boolean))
def rm11_findReason : Room := { frames := 1, cells := 0, slots := 0, locals := 25 }
theorem k11_findReason : xm_calV y11_findReason 3 := ⟨⟨(xm_in (List.mem_of_getElem? (i := 971) (by decide +kernel)) rfl), (xm_in (List.mem_of_getElem? (i := 14) (by decide +kernel)) rfl), by decide +kernel, by decide +kernel, by decide +kernel⟩, (xm_in (List.mem_of_getElem? (i := 970) (by decide +kernel)) rfl), (List.mem_filter.mpr ⟨List.mem_append_left _ (List.mem_of_getElem? (i := 57) (by decide +kernel)), rfl⟩)⟩
def y11_findRests : xm_Y := (⟨"FilterProofModel", "findRests", "(I)V"⟩, prog_13_method_20_code, 6, none)
def rm11_findRests : Room := { frames := 0, cells := 0, slots := 0, locals := 0 }
theorem k11_findRests : xm_calV y11_findRests 1 := ⟨⟨(xm_in (List.mem_of_getElem? (i := 975) (by decide +kernel)) rfl), (xm_in (List.mem_of_getElem? (i := 14) (by decide +kernel)) rfl), by decide +kernel, by decide +kernel, by decide +kernel⟩, (xm_in (List.mem_of_getElem? (i := 974) (by decide +kernel)) rfl), (List.mem_filter.mpr ⟨List.mem_append_left _ (List.mem_of_getElem? (i := 58) (by decide +kernel)), rfl⟩)⟩
def y11_upper : xm_Y := (⟨"FilterProofModel", "upper", "(I)I"⟩, prog_13_method_26_code, 2, (some .int))
def rm11_upper : Room := { frames := 0, cells := 0, slots := 0, locals := 0 }
theorem k11_upper : xm_calV y11_upper 1 := ⟨⟨(xm_in (List.mem_of_getElem? (i := 979) (by decide +kernel)) rfl), (xm_in (List.mem_of_getElem? (i := 14) (by decide +kernel)) rfl), by decide +kernel, by decide +kernel, by decide +kernel⟩, (xm_in (List.mem_of_getElem? (i := 978) (by decide +kernel)) rfl), (List.mem_filter.mpr ⟨List.mem_append_left _ (List.mem_of_getElem? (i := 59) (by decide +kernel)), rfl⟩)⟩
def y11_greatest : xm_Y := (⟨"FilterProofModel", "greatest", "(I)J"⟩, prog_13_method_27_code, 2, (some .long))
def rm11_greatest : Room := { frames := 1, cells := 0, slots := 0, locals := 20 }
theorem k11_greatest : xm_calV y11_greatest 1 := ⟨⟨(xm_in (List.mem_of_getElem? (i := 983) (by decide +kernel)) rfl), (xm_in (List.mem_of_getElem? (i := 14) (by decide +kernel)) rfl), by decide +kernel, by decide +kernel, by decide +kernel⟩, (xm_in (List.mem_of_getElem? (i := 982) (by decide +kernel)) rfl), (List.mem_filter.mpr ⟨List.mem_append_left _ (List.mem_of_getElem? (i := 60) (by decide +kernel)), rfl⟩)⟩
def y11_sizeOf : xm_Y := (⟨"FilterProofModel", "sizeOf", "(I)I"⟩, prog_13_method_24_code, 1, (some .int))
def rm11_sizeOf : Room := { frames := 0, cells := 0, slots := 0, locals := 0 }
theorem k11_sizeOf : xm_calS y11_sizeOf 1 := ⟨⟨(xm_in (List.mem_of_getElem? (i := 987) (by decide +kernel)) rfl), (xm_in (List.mem_of_getElem? (i := 14) (by decide +kernel)) rfl), by decide +kernel, by decide +kernel, by decide +kernel⟩, (xm_in (List.mem_of_getElem? (i := 986) (by decide +kernel)) rfl)⟩
def y11_needChosen : xm_Y := (⟨"FilterProofModel", "needChosen", "(I)V"⟩, prog_13_method_23_code, 4, none)
def rm11_needChosen : Room := { frames := 0, cells := 0, slots := 0, locals := 0 }
theorem k11_needChosen : xm_calV y11_needChosen 1 := ⟨⟨(xm_in (List.mem_of_getElem? (i := 991) (by decide +kernel)) rfl), (xm_in (List.mem_of_getElem? (i := 14) (by decide +kernel)) rfl), by decide +kernel, by decide +kernel, by decide +kernel⟩, (xm_in (List.mem_of_getElem? (i := 990) (by decide +kernel)) rfl), (List.mem_filter.mpr ⟨List.mem_append_left _ (List.mem_of_getElem? (i := 61) (by decide +kernel)), rfl⟩)⟩
def y11_findRound : xm_Y := (⟨"FilterProofModel", "findRound", "()I"⟩, prog_13_method_22_code, 2, (some .int))
def rm11_findRound : Room := { frames := 2, cells := 0, slots := 0, locals := 59 }
theorem k11_findRound : xm_calV y11_findRound 0 := ⟨⟨(xm_in (List.mem_of_getElem? (i := 995) (by decide +kernel)) rfl), (xm_in (List.mem_of_getElem? (i := 14) (by decide +kernel)) rfl), by decide +kernel, by decide +kernel, by decide +kernel⟩, (xm_in (List.mem_of_getElem? (i := 994) (by decide +kernel)) rfl), (List.mem_filter.mpr ⟨List.mem_append_left _ (List.mem_of_getElem? (i := 62) (by decide +kernel)), rfl⟩)⟩
def y11_factsAt : xm_Y := (⟨"FilterProofModel", "factsAt", "(I)I"⟩, prog_13_method_30_code, 4, (some .int))
def rm11_factsAt : Room := { frames := 0, cells := 0, slots := 0, locals := 0 }
theorem k11_factsAt : xm_calV y11_factsAt 1 := ⟨⟨(xm_in (List.mem_of_getElem? (i := 999) (by decide +kernel)) rfl), (xm_in (List.mem_of_getElem? (i := 14) (by decide +kernel)) rfl), by decide +kernel, by decide +kernel, by decide +kernel⟩, (xm_in (List.mem_of_getElem? (i := 998) (by decide +kernel)) rfl), (List.mem_filter.mpr ⟨List.mem_append_left _ (List.mem_of_getElem? (i := 63) (by decide +kernel)), rfl⟩)⟩
def y11_tellFacts : xm_Y := (⟨"FilterProofModel", "tellFacts", "()V"⟩, prog_13_method_34_code, 3, none)
def rm11_tellFacts : Room := { frames := 1, cells := 0, slots := 0, locals := 23 }
theorem k11_tellFacts : xm_calV y11_tellFacts 0 := ⟨⟨(xm_in (List.mem_of_getElem? (i := 1003) (by decide +kernel)) rfl), (xm_in (List.mem_of_getElem? (i := 14) (by decide +kernel)) rfl), by decide +kernel, by decide +kernel, by decide +kernel⟩, (xm_in (List.mem_of_getElem? (i := 1002) (by decide +kernel)) rfl), (List.mem_filter.mpr ⟨List.mem_append_left _ (List.mem_of_getElem? (i := 64) (by decide +kernel)), rfl⟩)⟩
def y11_tell : xm_Y := (⟨"FilterProofModel", "tell", "(I)V"⟩, prog_13_method_32_code, 2, none)
def rm11_tell : Room := { frames := 0, cells := 0, slots := 0, locals := 0 }
theorem k11_tell : xm_calV y11_tell 1 := ⟨⟨(xm_in (List.mem_of_getElem? (i := 1007) (by decide +kernel)) rfl), (xm_in (List.mem_of_getElem? (i := 14) (by decide +kernel)) rfl), by decide +kernel, by decide +kernel, by decide +kernel⟩, (xm_in (List.mem_of_getElem? (i := 1006) (by decide +kernel)) rfl), (List.mem_filter.mpr ⟨List.mem_append_left _ (List.mem_of_getElem? (i := 65) (by decide +kernel)), rfl⟩)⟩
def y11_tellReason : xm_Y := (⟨"FilterProofModel", "tellReason", "(I)V"⟩, prog_13_method_33_code, 5, none)
def rm11_tellReason : Room := { frames := 1, cells := 0, slots := 0, locals := 24 }
theorem k11_tellReason : xm_calV y11_tellReason 1 := ⟨⟨(xm_in (List.mem_of_getElem? (i := 1011) (by decide +kernel)) rfl), (xm_in (List.mem_of_getElem? (i := 14) (by decide +kernel)) rfl), by decide +kernel, by decide +kernel, by decide +kernel⟩, (xm_in (List.mem_of_getElem? (i := 1010) (by decide +kernel)) rfl), (List.mem_filter.mpr ⟨List.mem_append_left _ (List.mem_of_getElem? (i := 66) (by decide +kernel)), rfl⟩)⟩
def y11_factNumber : xm_Y := (⟨"FilterProofModel", "factNumber", "(II)I"⟩, prog_13_method_31_code, 5, (some .int))
def rm11_factNumber : Room := { frames := 0, cells := 0, slots := 0, locals := 0 }
theorem k11_factNumber : xm_calV y11_factNumber 2 := ⟨⟨(xm_in (List.mem_of_getElem? (i := 1015) (by decide +kernel)) rfl), (xm_in (List.mem_of_getElem? (i := 14) (by decide +kernel)) rfl), by decide +kernel, by decide +kernel, by decide +kernel⟩, (xm_in (List.mem_of_getElem? (i := 1014) (by decide +kernel)) rfl), (List.mem_filter.mpr ⟨List.mem_append_left _ (List.mem_of_getElem? (i := 67) (by decide +kernel)), rfl⟩)⟩
def y11_tellInstruction : xm_Y := (⟨"FilterProofModel", "tellInstruction", "(I)V"⟩, prog_13_method_35_code, 5, none)
def rm11_tellInstruction : Room := { frames := 5, cells := 0, slots := 0, locals := 123 }
theorem k11_tellInstruction : xm_calV y11_tellInstruction 1 := ⟨⟨(xm_in (List.mem_of_getElem? (i := 1019) (by decide +kernel)) rfl), (xm_in (List.mem_of_getElem? (i := 14) (by decide +kernel)) rfl), by decide +kernel, by decide +kernel, by decide +kernel⟩, (xm_in (List.mem_of_getElem? (i := 1018) (by decide +kernel)) rfl), (List.mem_filter.mpr ⟨List.mem_append_left _ (List.mem_of_getElem? (i := 68) (by decide +kernel)), rfl⟩)⟩
def y11_say : xm_Y := (⟨"FilterProofModel", "say", "(I)I"⟩, prog_13_method_37_code, 2, (some .int))
def rm11_say : Room := { frames := 0, cells := 0, slots := 0, locals := 0 }
theorem k11_say : xm_calV y11_say 1 := ⟨⟨(xm_in (List.mem_of_getElem? (i := 1023) (by decide +kernel)) rfl), (xm_in (List.mem_of_getElem? (i := 14) (by decide +kernel)) rfl), by decide +kernel, by decide +kernel, by decide +kernel⟩, (xm_in (List.mem_of_getElem? (i := 1021) (by decide +kernel)) rfl), (xm_in (List.mem_of_getElem? (i := 1022) (by decide +kernel)) rfl)⟩
def y11_cut : xm_Y := (⟨"FilterProofModel", "cut", "(I)Z"⟩, prog_13_method_38_code, 2, (some .boolean))
def rm11_cut : Room := { frames := 0, cells := 0, slots := 0, locals := 0 }
theorem k11_cut : xm_calV y11_cut 1 := ⟨⟨(xm_in (List.mem_of_getElem? (i := 1027) (by decide +kernel)) rfl), (xm_in (List.mem_of_getElem? (i := 14) (by decide +kernel)) rfl), by decide +kernel, by decide +kernel, by decide +kernel⟩, (xm_in (List.mem_of_getElem? (i := 1025) (by decide +kernel)) rfl), (xm_in (List.mem_of_getElem? (i := 1026) (by decide +kernel)) rfl)⟩
def y11_change : xm_Y := (⟨"FilterProofModel", "change", "(II)Z"⟩, prog_13_method_39_code, 3, (some .boolean))
def rm11_change : Room := { frames := 0, cells := 0, slots := 0, locals := 0 }
theorem k11_change : xm_calV y11_change 2 := ⟨⟨(xm_in (List.mem_of_getElem? (i := 1031) (by decide +kernel)) rfl), (xm_in (List.mem_of_getElem? (i := 14) (by decide +kernel)) rfl), by decide +kernel, by decide +kernel, by decide +kernel⟩, (xm_in (List.mem_of_getElem? (i := 1029) (by decide +kernel)) rfl), (xm_in (List.mem_of_getElem? (i := 1030) (by decide +kernel)) rfl)⟩
def y11_length : xm_Y := (⟨"FilterProofModel", "length", "()I"⟩, prog_13_method_40_code, 1, (some .int))
def rm11_length : Room := { frames := 0, cells := 0, slots := 0, locals := 0 }
theorem k11_length : xm_calV y11_length 0 := ⟨⟨(xm_in (List.mem_of_getElem? (i := 1035) (by decide +kernel)) rfl), (xm_in (List.mem_of_getElem? (i := 14) (by decide +kernel)) rfl), by decide +kernel, by decide +kernel, by decide +kernel⟩, (xm_in (List.mem_of_getElem? (i := 1033) (by decide +kernel)) rfl), (xm_in (List.mem_of_getElem? (i := 1034) (by decide +kernel)) rfl)⟩
def y11_at : xm_Y := (⟨"FilterProofModel", "at", "(I)I"⟩, prog_13_method_41_code, 2, (some .int))
def rm11_at : Room := { frames := 0, cells := 0, slots := 0, locals := 0 }
theorem k11_at : xm_calV y11_at 1 := ⟨⟨(xm_in (List.mem_of_getElem? (i := 1039) (by decide +kernel)) rfl), (xm_in (List.mem_of_getElem? (i := 14) (by decide +kernel)) rfl), by decide +kernel, by decide +kernel, by decide +kernel⟩, (xm_in (List.mem_of_getElem? (i := 1037) (by decide +kernel)) rfl), (xm_in (List.mem_of_getElem? (i := 1038) (by decide +kernel)) rfl)⟩
def y11_check : xm_Y := (⟨"FilterProofModel", "check", "()I"⟩, prog_13_method_51_code, 3, (some .int))
def rm11_check : Room := { frames := 7, cells := 0, slots := 0, locals := 175 }
theorem k11_check : xm_calV y11_check 0 := ⟨⟨(xm_in (List.mem_of_getElem? (i := 1043) (by decide +kernel)) rfl), (xm_in (List.mem_of_getElem? (i := 14) (by decide +kernel)) rfl), by decide +kernel, by decide +kernel, by decide +kernel⟩, (xm_in (List.mem_of_getElem? (i := 1041) (by decide +kernel)) rfl), (xm_in (List.mem_of_getElem? (i := 1042) (by decide +kernel)) rfl)⟩
def y11_readFacts : xm_Y := (⟨"FilterProofModel", "readFacts", "(I)V"⟩, prog_13_method_45_code, 6, none)
def rm11_readFacts : Room := { frames := 3, cells := 0, slots := 0, locals := 65 }
theorem k11_readFacts : xm_calV y11_readFacts 1 := ⟨⟨(xm_in (List.mem_of_getElem? (i := 1047) (by decide +kernel)) rfl), (xm_in (List.mem_of_getElem? (i := 14) (by decide +kernel)) rfl), by decide +kernel, by decide +kernel, by decide +kernel⟩, (xm_in (List.mem_of_getElem? (i := 1046) (by decide +kernel)) rfl), (List.mem_filter.mpr ⟨List.mem_append_left _ (List.mem_of_getElem? (i := 69) (by decide +kernel)), rfl⟩)⟩
def y11_readIn : xm_Y := (⟨"FilterProofModel", "readIn", "(II)I"⟩, prog_13_method_44_code, 4, (some .int))
def rm11_readIn : Room := { frames := 2, cells := 0, slots := 0, locals := 42 }
theorem k11_readIn : xm_calV y11_readIn 2 := ⟨⟨(xm_in (List.mem_of_getElem? (i := 1051) (by decide +kernel)) rfl), (xm_in (List.mem_of_getElem? (i := 14) (by decide +kernel)) rfl), by decide +kernel, by decide +kernel, by decide +kernel⟩, (xm_in (List.mem_of_getElem? (i := 1050) (by decide +kernel)) rfl), (List.mem_filter.mpr ⟨List.mem_append_left _ (List.mem_of_getElem? (i := 70) (by decide +kernel)), rfl⟩)⟩
def y11_read : xm_Y := (⟨"FilterProofModel", "read", "()I"⟩, prog_13_method_43_code, 1, (some .int))
def rm11_read : Room := { frames := 1, cells := 0, slots := 0, locals := 22 }
theorem k11_read : xm_calV y11_read 0 := ⟨⟨(xm_in (List.mem_of_getElem? (i := 1055) (by decide +kernel)) rfl), (xm_in (List.mem_of_getElem? (i := 14) (by decide +kernel)) rfl), by decide +kernel, by decide +kernel, by decide +kernel⟩, (xm_in (List.mem_of_getElem? (i := 1054) (by decide +kernel)) rfl), (List.mem_filter.mpr ⟨List.mem_append_left _ (List.mem_of_getElem? (i := 71) (by decide +kernel)), rfl⟩)⟩
def y11_fail : xm_Y := (⟨"FilterProofModel", "fail", "(II)V"⟩, prog_13_method_42_code, 3, none)
def rm11_fail : Room := { frames := 0, cells := 0, slots := 0, locals := 0 }
theorem k11_fail : xm_calV y11_fail 2 := ⟨⟨(xm_in (List.mem_of_getElem? (i := 1059) (by decide +kernel)) rfl), (xm_in (List.mem_of_getElem? (i := 14) (by decide +kernel)) rfl), by decide +kernel, by decide +kernel, by decide +kernel⟩, (xm_in (List.mem_of_getElem? (i := 1058) (by decide +kernel)) rfl), (List.mem_filter.mpr ⟨List.mem_append_left _ (List.mem_of_getElem? (i := 72) (by decide +kernel)), rfl⟩)⟩
def y11_readReason : xm_Y := (⟨"FilterProofModel", "readReason", "(IIJ)V"⟩, prog_13_method_48_code, 13, none)
def rm11_readReason : Room := { frames := 3, cells := 0, slots := 0, locals := 65 }
theorem k11_readReason : xm_calV y11_readReason 3 := ⟨⟨(xm_in (List.mem_of_getElem? (i := 1063) (by decide +kernel)) rfl), (xm_in (List.mem_of_getElem? (i := 14) (by decide +kernel)) rfl), by decide +kernel, by decide +kernel, by decide +kernel⟩, (xm_in (List.mem_of_getElem? (i := 1062) (by decide +kernel)) rfl), (List.mem_filter.mpr ⟨List.mem_append_left _ (List.mem_of_getElem? (i := 73) (by decide +kernel)), rfl⟩)⟩
def y11_readInstruction : xm_Y := (⟨"FilterProofModel", "readInstruction", "(I)V"⟩, prog_13_method_50_code, 2, none)
def rm11_readInstruction : Room := { frames := 6, cells := 0, slots := 0, locals := 154 }
theorem k11_readInstruction : xm_calV y11_readInstruction 1 := ⟨⟨(xm_in (List.mem_of_getElem? (i := 1067) (by decide +kernel)) rfl), (xm_in (List.mem_of_getElem? (i := 14) (by decide +kernel)) rfl), by decide +kernel, by decide +kernel, by decide +kernel⟩, (xm_in (List.mem_of_getElem? (i := 1066) (by decide +kernel)) rfl), (List.mem_filter.mpr ⟨List.mem_append_left _ (List.mem_of_getElem? (i := 74) (by decide +kernel)), rfl⟩)⟩
def y11_plainSteps : xm_Y := (⟨"FilterProofModel", "plainSteps", "(I)V"⟩, prog_13_method_47_code, 4, none)
def rm11_plainSteps : Room := { frames := 2, cells := 0, slots := 0, locals := 46 }
theorem k11_plainSteps : xm_calV y11_plainSteps 1 := ⟨⟨(xm_in (List.mem_of_getElem? (i := 1071) (by decide +kernel)) rfl), (xm_in (List.mem_of_getElem? (i := 14) (by decide +kernel)) rfl), by decide +kernel, by decide +kernel, by decide +kernel⟩, (xm_in (List.mem_of_getElem? (i := 1070) (by decide +kernel)) rfl), (List.mem_filter.mpr ⟨List.mem_append_left _ (List.mem_of_getElem? (i := 75) (by decide +kernel)), rfl⟩)⟩
def y11_readEdge : xm_Y := (⟨"FilterProofModel", "readEdge", "(II)V"⟩, prog_13_method_49_code, 8, none)
def rm11_readEdge : Room := { frames := 5, cells := 0, slots := 0, locals := 127 }
theorem k11_readEdge : xm_calV y11_readEdge 2 := ⟨⟨(xm_in (List.mem_of_getElem? (i := 1075) (by decide +kernel)) rfl), (xm_in (List.mem_of_getElem? (i := 14) (by decide +kernel)) rfl), by decide +kernel, by decide +kernel, by decide +kernel⟩, (xm_in (List.mem_of_getElem? (i := 1074) (by decide +kernel)) rfl), (List.mem_filter.mpr ⟨List.mem_append_left _ (List.mem_of_getElem? (i := 76) (by decide +kernel)), rfl⟩)⟩
def y11_tapeSteps : xm_Y := (⟨"FilterProofModel", "tapeSteps", "(II)V"⟩, prog_13_method_46_code, 8, none)
def rm11_tapeSteps : Room := { frames := 4, cells := 0, slots := 0, locals := 100 }
theorem k11_tapeSteps : xm_calV y11_tapeSteps 2 := ⟨⟨(xm_in (List.mem_of_getElem? (i := 1079) (by decide +kernel)) rfl), (xm_in (List.mem_of_getElem? (i := 14) (by decide +kernel)) rfl), by decide +kernel, by decide +kernel, by decide +kernel⟩, (xm_in (List.mem_of_getElem? (i := 1078) (by decide +kernel)) rfl), (List.mem_filter.mpr ⟨List.mem_append_left _ (List.mem_of_getElem? (i := 77) (by decide +kernel)), rfl⟩)⟩
def y11_place : xm_Y := (⟨"FilterProofModel", "place", "()I"⟩, prog_13_method_52_code, 1, (some .int))
def rm11_place : Room := { frames := 0, cells := 0, slots := 0, locals := 0 }
theorem k11_place : xm_calV y11_place 0 := ⟨⟨(xm_in (List.mem_of_getElem? (i := 1083) (by decide +kernel)) rfl), (xm_in (List.mem_of_getElem? (i := 14) (by decide +kernel)) rfl), by decide +kernel, by decide +kernel, by decide +kernel⟩, (xm_in (List.mem_of_getElem? (i := 1081) (by decide +kernel)) rfl), (xm_in (List.mem_of_getElem? (i := 1082) (by decide +kernel)) rfl)⟩
def y11_receive : xm_Y := (⟨"FilterProofModel", "receive", "(JI)I"⟩, prog_13_method_53_code, 5, (some .int))
def rm11_receive : Room := { frames := 0, cells := 0, slots := 0, locals := 0 }
theorem k11_receive : xm_calV y11_receive 2 := ⟨⟨(xm_in (List.mem_of_getElem? (i := 1087) (by decide +kernel)) rfl), (xm_in (List.mem_of_getElem? (i := 14) (by decide +kernel)) rfl), by decide +kernel, by decide +kernel, by decide +kernel⟩, (xm_in (List.mem_of_getElem? (i := 1085) (by decide +kernel)) rfl), (xm_in (List.mem_of_getElem? (i := 1086) (by decide +kernel)) rfl)⟩
def y11_drop : xm_Y := (⟨"FilterProofModel", "drop", "()I"⟩, prog_13_method_54_code, 2, (some .int))
def rm11_drop : Room := { frames := 0, cells := 0, slots := 0, locals := 0 }
theorem k11_drop : xm_calV y11_drop 0 := ⟨⟨(xm_in (List.mem_of_getElem? (i := 1091) (by decide +kernel)) rfl), (xm_in (List.mem_of_getElem? (i := 14) (by decide +kernel)) rfl), by decide +kernel, by decide +kernel, by decide +kernel⟩, (xm_in (List.mem_of_getElem? (i := 1089) (by decide +kernel)) rfl), (xm_in (List.mem_of_getElem? (i := 1090) (by decide +kernel)) rfl)⟩
def y11_run : xm_Y := (⟨"FilterProofModel", "run", "()I"⟩, prog_13_method_55_code, 3, (some .int))
def rm11_run : Room := { frames := 2, cells := 0, slots := 0, locals := 50 }
theorem k11_run : xm_calV y11_run 0 := ⟨⟨(xm_in (List.mem_of_getElem? (i := 1095) (by decide +kernel)) rfl), (xm_in (List.mem_of_getElem? (i := 14) (by decide +kernel)) rfl), by decide +kernel, by decide +kernel, by decide +kernel⟩, (xm_in (List.mem_of_getElem? (i := 1093) (by decide +kernel)) rfl), (xm_in (List.mem_of_getElem? (i := 1094) (by decide +kernel)) rfl)⟩
def y11_one : xm_Y := (⟨"FilterProofModel", "one", "(I)I"⟩, prog_13_method_56_code, 10, (some .int))
def rm11_one : Room := { frames := 1, cells := 0, slots := 0, locals := 21 }
theorem k11_one : xm_calV y11_one 1 := ⟨⟨(xm_in (List.mem_of_getElem? (i := 1099) (by decide +kernel)) rfl), (xm_in (List.mem_of_getElem? (i := 14) (by decide +kernel)) rfl), by decide +kernel, by decide +kernel, by decide +kernel⟩, (xm_in (List.mem_of_getElem? (i := 1098) (by decide +kernel)) rfl), (List.mem_filter.mpr ⟨List.mem_append_left _ (List.mem_of_getElem? (i := 78) (by decide +kernel)), rfl⟩)⟩
def y11_result : xm_Y := (⟨"FilterProofModel", "result", "()I"⟩, prog_13_method_57_code, 1, (some .int))
def rm11_result : Room := { frames := 0, cells := 0, slots := 0, locals := 0 }
theorem k11_result : xm_calV y11_result 0 := ⟨⟨(xm_in (List.mem_of_getElem? (i := 1103) (by decide +kernel)) rfl), (xm_in (List.mem_of_getElem? (i := 14) (by decide +kernel)) rfl), by decide +kernel, by decide +kernel, by decide +kernel⟩, (xm_in (List.mem_of_getElem? (i := 1101) (by decide +kernel)) rfl), (xm_in (List.mem_of_getElem? (i := 1102) (by decide +kernel)) rfl)⟩
def y11_steps : xm_Y := (⟨"FilterProofModel", "steps", "()I"⟩, prog_13_method_58_code, 1, (some .int))
def rm11_steps : Room := { frames := 0, cells := 0, slots := 0, locals := 0 }
theorem k11_steps : xm_calV y11_steps 0 := ⟨⟨(xm_in (List.mem_of_getElem? (i := 1107) (by decide +kernel)) rfl), (xm_in (List.mem_of_getElem? (i := 14) (by decide +kernel)) rfl), by decide +kernel, by decide +kernel, by decide +kernel⟩, (xm_in (List.mem_of_getElem? (i := 1105) (by decide +kernel)) rfl), (xm_in (List.mem_of_getElem? (i := 1106) (by decide +kernel)) rfl)⟩
