section
-- ===== PART A: goes FIRST, ahead of the names: the tables' words, and 'selects' of the private methods out of them =====
/-- a private method of a class that the tables say can be made, by its rows of tables_1 -/
def lw_okq (q : MethodName × Nat) : Prop := (q.1.cls ≠ "java/lang/invoke/MethodHandle" ∧ q.1.cls ≠ "java/lang/invoke/VarHandle") ∧ Cond.instantiable q.1.cls q.2 ∈ tables_1 ∧ Cond.privateMethod q.1 ∈ tables_1 ∧ Cond.instanceMethod q.1 ∈ tables_1
theorem lw_p0 : lw_okq (⟨"ExamScales", "isQuestion", "(I)Z"⟩, 18) := ⟨⟨by decide +kernel, by decide +kernel⟩, List.mem_of_getElem? (i := 7) (by decide +kernel), List.mem_of_getElem? (i := 85) (by decide +kernel), List.mem_of_getElem? (i := 86) (by decide +kernel)⟩
theorem lw_p1 : lw_okq (⟨"ExamScales", "isPaper", "(I)Z"⟩, 18) := ⟨⟨by decide +kernel, by decide +kernel⟩, List.mem_of_getElem? (i := 7) (by decide +kernel), List.mem_of_getElem? (i := 104) (by decide +kernel), List.mem_of_getElem? (i := 105) (by decide +kernel)⟩
theorem lw_p2 : lw_okq (⟨"ExamScales", "hasPupil", "(I)Z"⟩, 18) := ⟨⟨by decide +kernel, by decide +kernel⟩, List.mem_of_getElem? (i := 7) (by decide +kernel), List.mem_of_getElem? (i := 108) (by decide +kernel), List.mem_of_getElem? (i := 109) (by decide +kernel)⟩
theorem lw_p3 : lw_okq (⟨"ExamScales", "spotFor", "(II)I"⟩, 18) := ⟨⟨by decide +kernel, by decide +kernel⟩, List.mem_of_getElem? (i := 7) (by decide +kernel), List.mem_of_getElem? (i := 127) (by decide +kernel), List.mem_of_getElem? (i := 128) (by decide +kernel)⟩
theorem lw_p4 : lw_okq (⟨"ExamScales", "isPupil", "(I)Z"⟩, 18) := ⟨⟨by decide +kernel, by decide +kernel⟩, List.mem_of_getElem? (i := 7) (by decide +kernel), List.mem_of_getElem? (i := 131) (by decide +kernel), List.mem_of_getElem? (i := 132) (by decide +kernel)⟩
theorem lw_p5 : lw_okq (⟨"ExamScales", "spotOf", "(II)I"⟩, 18) := ⟨⟨by decide +kernel, by decide +kernel⟩, List.mem_of_getElem? (i := 7) (by decide +kernel), List.mem_of_getElem? (i := 135) (by decide +kernel), List.mem_of_getElem? (i := 136) (by decide +kernel)⟩
theorem lw_p6 : lw_okq (⟨"ExamScales", "isAnswer", "(II)Z"⟩, 18) := ⟨⟨by decide +kernel, by decide +kernel⟩, List.mem_of_getElem? (i := 7) (by decide +kernel), List.mem_of_getElem? (i := 139) (by decide +kernel), List.mem_of_getElem? (i := 140) (by decide +kernel)⟩
theorem lw_p7 : lw_okq (⟨"ExamScales", "worth", "(II)I"⟩, 18) := ⟨⟨by decide +kernel, by decide +kernel⟩, List.mem_of_getElem? (i := 7) (by decide +kernel), List.mem_of_getElem? (i := 143) (by decide +kernel), List.mem_of_getElem? (i := 144) (by decide +kernel)⟩
theorem lw_p8 : lw_okq (⟨"ExamScales", "markAt", "(II)I"⟩, 18) := ⟨⟨by decide +kernel, by decide +kernel⟩, List.mem_of_getElem? (i := 7) (by decide +kernel), List.mem_of_getElem? (i := 165) (by decide +kernel), List.mem_of_getElem? (i := 166) (by decide +kernel)⟩
theorem lw_p9 : lw_okq (⟨"ExamScales", "hasComeTo", "(II)Z"⟩, 18) := ⟨⟨by decide +kernel, by decide +kernel⟩, List.mem_of_getElem? (i := 7) (by decide +kernel), List.mem_of_getElem? (i := 173) (by decide +kernel), List.mem_of_getElem? (i := 174) (by decide +kernel)⟩
theorem lw_p10 : lw_okq (⟨"ExamScales", "countingSet", "()I"⟩, 18) := ⟨⟨by decide +kernel, by decide +kernel⟩, List.mem_of_getElem? (i := 7) (by decide +kernel), List.mem_of_getElem? (i := 181) (by decide +kernel), List.mem_of_getElem? (i := 182) (by decide +kernel)⟩
theorem lw_p11 : lw_okq (⟨"ExamScales", "sumOver", "(II)I"⟩, 18) := ⟨⟨by decide +kernel, by decide +kernel⟩, List.mem_of_getElem? (i := 7) (by decide +kernel), List.mem_of_getElem? (i := 185) (by decide +kernel), List.mem_of_getElem? (i := 186) (by decide +kernel)⟩
theorem lw_p12 : lw_okq (⟨"ExamScales", "spotComeTo", "(II)I"⟩, 18) := ⟨⟨by decide +kernel, by decide +kernel⟩, List.mem_of_getElem? (i := 7) (by decide +kernel), List.mem_of_getElem? (i := 197) (by decide +kernel), List.mem_of_getElem? (i := 198) (by decide +kernel)⟩
theorem lw_p13 : lw_okq (⟨"ExamScales", "tallyPlaces", "(I)V"⟩, 18) := ⟨⟨by decide +kernel, by decide +kernel⟩, List.mem_of_getElem? (i := 7) (by decide +kernel), List.mem_of_getElem? (i := 221) (by decide +kernel), List.mem_of_getElem? (i := 222) (by decide +kernel)⟩
theorem lw_p14 : lw_okq (⟨"ExamScales", "isLeakyByTally", "(II)Z"⟩, 18) := ⟨⟨by decide +kernel, by decide +kernel⟩, List.mem_of_getElem? (i := 7) (by decide +kernel), List.mem_of_getElem? (i := 225) (by decide +kernel), List.mem_of_getElem? (i := 226) (by decide +kernel)⟩
theorem lw_p15 : lw_okq (⟨"ExamScales", "sharedSet", "(II)I"⟩, 18) := ⟨⟨by decide +kernel, by decide +kernel⟩, List.mem_of_getElem? (i := 7) (by decide +kernel), List.mem_of_getElem? (i := 237) (by decide +kernel), List.mem_of_getElem? (i := 238) (by decide +kernel)⟩
def lw_privs_1 : List (MethodName × Nat) := [(⟨"ExamScales", "isQuestion", "(I)Z"⟩, 18), (⟨"ExamScales", "isPaper", "(I)Z"⟩, 18), (⟨"ExamScales", "hasPupil", "(I)Z"⟩, 18), (⟨"ExamScales", "spotFor", "(II)I"⟩, 18), (⟨"ExamScales", "isPupil", "(I)Z"⟩, 18), (⟨"ExamScales", "spotOf", "(II)I"⟩, 18), (⟨"ExamScales", "isAnswer", "(II)Z"⟩, 18), (⟨"ExamScales", "worth", "(II)I"⟩, 18), (⟨"ExamScales", "markAt", "(II)I"⟩, 18), (⟨"ExamScales", "hasComeTo", "(II)Z"⟩, 18), (⟨"ExamScales", "countingSet", "()I"⟩, 18), (⟨"ExamScales", "sumOver", "(II)I"⟩, 18), (⟨"ExamScales", "spotComeTo", "(II)I"⟩, 18), (⟨"ExamScales", "tallyPlaces", "(I)V"⟩, 18), (⟨"ExamScales", "isLeakyByTally", "(II)Z"⟩, 18), (⟨"ExamScales", "sharedSet", "(II)I"⟩, 18)]
theorem lw_r1 : ∀ q ∈ lw_privs_1, lw_okq q := List.forall_mem_cons.mpr ⟨lw_p0, List.forall_mem_cons.mpr ⟨lw_p1, List.forall_mem_cons.mpr ⟨lw_p2, List.forall_mem_cons.mpr ⟨lw_p3, List.forall_mem_cons.mpr ⟨lw_p4, List.forall_mem_cons.mpr ⟨lw_p5, List.forall_mem_cons.mpr ⟨lw_p6, List.forall_mem_cons.mpr ⟨lw_p7, List.forall_mem_cons.mpr ⟨lw_p8, List.forall_mem_cons.mpr ⟨lw_p9, List.forall_mem_cons.mpr ⟨lw_p10, List.forall_mem_cons.mpr ⟨lw_p11, List.forall_mem_cons.mpr ⟨lw_p12, List.forall_mem_cons.mpr ⟨lw_p13, List.forall_mem_cons.mpr ⟨lw_p14, List.forall_mem_cons.mpr ⟨lw_p15, fun _ h => absurd h List.not_mem_nil⟩⟩⟩⟩⟩⟩⟩⟩⟩⟩⟩⟩⟩⟩⟩⟩
theorem lw_p16 : lw_okq (⟨"ExamScales", "gatherSums", "(II)I"⟩, 18) := ⟨⟨by decide +kernel, by decide +kernel⟩, List.mem_of_getElem? (i := 7) (by decide +kernel), List.mem_of_getElem? (i := 255) (by decide +kernel), List.mem_of_getElem? (i := 256) (by decide +kernel)⟩
theorem lw_p17 : lw_okq (⟨"ExamScales", "sumOfValues", "(I)J"⟩, 18) := ⟨⟨by decide +kernel, by decide +kernel⟩, List.mem_of_getElem? (i := 7) (by decide +kernel), List.mem_of_getElem? (i := 259) (by decide +kernel), List.mem_of_getElem? (i := 260) (by decide +kernel)⟩
theorem lw_p18 : lw_okq (⟨"ExamScales", "awayOfValues", "(I)J"⟩, 18) := ⟨⟨by decide +kernel, by decide +kernel⟩, List.mem_of_getElem? (i := 7) (by decide +kernel), List.mem_of_getElem? (i := 263) (by decide +kernel), List.mem_of_getElem? (i := 264) (by decide +kernel)⟩
theorem lw_p19 : lw_okq (⟨"ExamScales", "rankInValues", "(II)I"⟩, 18) := ⟨⟨by decide +kernel, by decide +kernel⟩, List.mem_of_getElem? (i := 7) (by decide +kernel), List.mem_of_getElem? (i := 279) (by decide +kernel), List.mem_of_getElem? (i := 280) (by decide +kernel)⟩
theorem lw_p20 : lw_okq (⟨"ExamScales", "cutParts", "(I)I"⟩, 18) := ⟨⟨by decide +kernel, by decide +kernel⟩, List.mem_of_getElem? (i := 7) (by decide +kernel), List.mem_of_getElem? (i := 298) (by decide +kernel), List.mem_of_getElem? (i := 299) (by decide +kernel)⟩
theorem lw_p21 : lw_okq (⟨"ExamScales", "meanParts", "(I)I"⟩, 18) := ⟨⟨by decide +kernel, by decide +kernel⟩, List.mem_of_getElem? (i := 7) (by decide +kernel), List.mem_of_getElem? (i := 302) (by decide +kernel), List.mem_of_getElem? (i := 303) (by decide +kernel)⟩
theorem lw_p22 : lw_okq (⟨"ExamScales", "isPassing", "(I)Z"⟩, 18) := ⟨⟨by decide +kernel, by decide +kernel⟩, List.mem_of_getElem? (i := 7) (by decide +kernel), List.mem_of_getElem? (i := 311) (by decide +kernel), List.mem_of_getElem? (i := 312) (by decide +kernel)⟩
theorem lw_p23 : lw_okq (⟨"ExamScales", "sameWrongs", "(II)I"⟩, 18) := ⟨⟨by decide +kernel, by decide +kernel⟩, List.mem_of_getElem? (i := 7) (by decide +kernel), List.mem_of_getElem? (i := 323) (by decide +kernel), List.mem_of_getElem? (i := 324) (by decide +kernel)⟩
theorem lw_p24 : lw_okq (⟨"ExamScales", "areAlikeOf", "(IIII)Z"⟩, 18) := ⟨⟨by decide +kernel, by decide +kernel⟩, List.mem_of_getElem? (i := 7) (by decide +kernel), List.mem_of_getElem? (i := 331) (by decide +kernel), List.mem_of_getElem? (i := 332) (by decide +kernel)⟩
theorem lw_p25 : lw_okq (⟨"ExamScales", "countAnswers", "()I"⟩, 18) := ⟨⟨by decide +kernel, by decide +kernel⟩, List.mem_of_getElem? (i := 7) (by decide +kernel), List.mem_of_getElem? (i := 339) (by decide +kernel), List.mem_of_getElem? (i := 340) (by decide +kernel)⟩
theorem lw_p26 : lw_okq (⟨"ExamScales", "countPassing", "()I"⟩, 18) := ⟨⟨by decide +kernel, by decide +kernel⟩, List.mem_of_getElem? (i := 7) (by decide +kernel), List.mem_of_getElem? (i := 343) (by decide +kernel), List.mem_of_getElem? (i := 344) (by decide +kernel)⟩
theorem lw_p27 : lw_okq (⟨"ExamScalesModel", "in", "(III)Z"⟩, 13) := ⟨⟨by decide +kernel, by decide +kernel⟩, List.mem_of_getElem? (i := 347) (by decide +kernel), List.mem_of_getElem? (i := 398) (by decide +kernel), List.mem_of_getElem? (i := 399) (by decide +kernel)⟩
theorem lw_p28 : lw_okq (⟨"ExamScalesModel", "isKey", "(II)Z"⟩, 13) := ⟨⟨by decide +kernel, by decide +kernel⟩, List.mem_of_getElem? (i := 347) (by decide +kernel), List.mem_of_getElem? (i := 402) (by decide +kernel), List.mem_of_getElem? (i := 403) (by decide +kernel)⟩
theorem lw_p29 : lw_okq (⟨"ExamScalesModel", "isQuestion", "(I)Z"⟩, 13) := ⟨⟨by decide +kernel, by decide +kernel⟩, List.mem_of_getElem? (i := 347) (by decide +kernel), List.mem_of_getElem? (i := 410) (by decide +kernel), List.mem_of_getElem? (i := 411) (by decide +kernel)⟩
theorem lw_p30 : lw_okq (⟨"ExamScalesModel", "isPaper", "(I)Z"⟩, 13) := ⟨⟨by decide +kernel, by decide +kernel⟩, List.mem_of_getElem? (i := 347) (by decide +kernel), List.mem_of_getElem? (i := 426) (by decide +kernel), List.mem_of_getElem? (i := 427) (by decide +kernel)⟩
theorem lw_p31 : lw_okq (⟨"ExamScalesModel", "spot", "(II)I"⟩, 13) := ⟨⟨by decide +kernel, by decide +kernel⟩, List.mem_of_getElem? (i := 347) (by decide +kernel), List.mem_of_getElem? (i := 430) (by decide +kernel), List.mem_of_getElem? (i := 431) (by decide +kernel)⟩
def lw_privs_2 : List (MethodName × Nat) := [(⟨"ExamScales", "gatherSums", "(II)I"⟩, 18), (⟨"ExamScales", "sumOfValues", "(I)J"⟩, 18), (⟨"ExamScales", "awayOfValues", "(I)J"⟩, 18), (⟨"ExamScales", "rankInValues", "(II)I"⟩, 18), (⟨"ExamScales", "cutParts", "(I)I"⟩, 18), (⟨"ExamScales", "meanParts", "(I)I"⟩, 18), (⟨"ExamScales", "isPassing", "(I)Z"⟩, 18), (⟨"ExamScales", "sameWrongs", "(II)I"⟩, 18), (⟨"ExamScales", "areAlikeOf", "(IIII)Z"⟩, 18), (⟨"ExamScales", "countAnswers", "()I"⟩, 18), (⟨"ExamScales", "countPassing", "()I"⟩, 18), (⟨"ExamScalesModel", "in", "(III)Z"⟩, 13), (⟨"ExamScalesModel", "isKey", "(II)Z"⟩, 13), (⟨"ExamScalesModel", "isQuestion", "(I)Z"⟩, 13), (⟨"ExamScalesModel", "isPaper", "(I)Z"⟩, 13), (⟨"ExamScalesModel", "spot", "(II)I"⟩, 13)]
theorem lw_r2 : ∀ q ∈ lw_privs_2, lw_okq q := List.forall_mem_cons.mpr ⟨lw_p16, List.forall_mem_cons.mpr ⟨lw_p17, List.forall_mem_cons.mpr ⟨lw_p18, List.forall_mem_cons.mpr ⟨lw_p19, List.forall_mem_cons.mpr ⟨lw_p20, List.forall_mem_cons.mpr ⟨lw_p21, List.forall_mem_cons.mpr ⟨lw_p22, List.forall_mem_cons.mpr ⟨lw_p23, List.forall_mem_cons.mpr ⟨lw_p24, List.forall_mem_cons.mpr ⟨lw_p25, List.forall_mem_cons.mpr ⟨lw_p26, List.forall_mem_cons.mpr ⟨lw_p27, List.forall_mem_cons.mpr ⟨lw_p28, List.forall_mem_cons.mpr ⟨lw_p29, List.forall_mem_cons.mpr ⟨lw_p30, List.forall_mem_cons.mpr ⟨lw_p31, fun _ h => absurd h List.not_mem_nil⟩⟩⟩⟩⟩⟩⟩⟩⟩⟩⟩⟩⟩⟩⟩⟩
theorem lw_p32 : lw_okq (⟨"ExamScalesModel", "groupSize", "(I)I"⟩, 13) := ⟨⟨by decide +kernel, by decide +kernel⟩, List.mem_of_getElem? (i := 347) (by decide +kernel), List.mem_of_getElem? (i := 434) (by decide +kernel), List.mem_of_getElem? (i := 435) (by decide +kernel)⟩
theorem lw_p33 : lw_okq (⟨"ExamScalesModel", "own", "(II)I"⟩, 13) := ⟨⟨by decide +kernel, by decide +kernel⟩, List.mem_of_getElem? (i := 347) (by decide +kernel), List.mem_of_getElem? (i := 450) (by decide +kernel), List.mem_of_getElem? (i := 451) (by decide +kernel)⟩
theorem lw_p34 : lw_okq (⟨"ExamScalesModel", "isPupil", "(I)Z"⟩, 13) := ⟨⟨by decide +kernel, by decide +kernel⟩, List.mem_of_getElem? (i := 347) (by decide +kernel), List.mem_of_getElem? (i := 454) (by decide +kernel), List.mem_of_getElem? (i := 455) (by decide +kernel)⟩
theorem lw_p35 : lw_okq (⟨"ExamScalesModel", "isAnswer", "(II)Z"⟩, 13) := ⟨⟨by decide +kernel, by decide +kernel⟩, List.mem_of_getElem? (i := 347) (by decide +kernel), List.mem_of_getElem? (i := 458) (by decide +kernel), List.mem_of_getElem? (i := 459) (by decide +kernel)⟩
theorem lw_p36 : lw_okq (⟨"ExamScalesModel", "worth", "(II)I"⟩, 13) := ⟨⟨by decide +kernel, by decide +kernel⟩, List.mem_of_getElem? (i := 347) (by decide +kernel), List.mem_of_getElem? (i := 462) (by decide +kernel), List.mem_of_getElem? (i := 463) (by decide +kernel)⟩
theorem lw_p37 : lw_okq (⟨"ExamScalesModel", "markAt", "(II)I"⟩, 13) := ⟨⟨by decide +kernel, by decide +kernel⟩, List.mem_of_getElem? (i := 347) (by decide +kernel), List.mem_of_getElem? (i := 479) (by decide +kernel), List.mem_of_getElem? (i := 480) (by decide +kernel)⟩
theorem lw_p38 : lw_okq (⟨"ExamScalesModel", "cameTo", "(II)Z"⟩, 13) := ⟨⟨by decide +kernel, by decide +kernel⟩, List.mem_of_getElem? (i := 347) (by decide +kernel), List.mem_of_getElem? (i := 487) (by decide +kernel), List.mem_of_getElem? (i := 488) (by decide +kernel)⟩
theorem lw_p39 : lw_okq (⟨"ExamScalesModel", "totalOf", "(I)I"⟩, 13) := ⟨⟨by decide +kernel, by decide +kernel⟩, List.mem_of_getElem? (i := 347) (by decide +kernel), List.mem_of_getElem? (i := 495) (by decide +kernel), List.mem_of_getElem? (i := 496) (by decide +kernel)⟩
theorem lw_p40 : lw_okq (⟨"ExamScalesModel", "isCounted", "(I)Z"⟩, 13) := ⟨⟨by decide +kernel, by decide +kernel⟩, List.mem_of_getElem? (i := 347) (by decide +kernel), List.mem_of_getElem? (i := 499) (by decide +kernel), List.mem_of_getElem? (i := 500) (by decide +kernel)⟩
theorem lw_p41 : lw_okq (⟨"ExamScalesModel", "part", "(JJI)J"⟩, 13) := ⟨⟨by decide +kernel, by decide +kernel⟩, List.mem_of_getElem? (i := 347) (by decide +kernel), List.mem_of_getElem? (i := 508) (by decide +kernel), List.mem_of_getElem? (i := 509) (by decide +kernel)⟩
theorem lw_p42 : lw_okq (⟨"ExamScalesModel", "divisor", "(JJ)J"⟩, 13) := ⟨⟨by decide +kernel, by decide +kernel⟩, List.mem_of_getElem? (i := 347) (by decide +kernel), List.mem_of_getElem? (i := 512) (by decide +kernel), List.mem_of_getElem? (i := 513) (by decide +kernel)⟩
theorem lw_p43 : lw_okq (⟨"ExamScalesModel", "leaks", "(III)Z"⟩, 13) := ⟨⟨by decide +kernel, by decide +kernel⟩, List.mem_of_getElem? (i := 347) (by decide +kernel), List.mem_of_getElem? (i := 524) (by decide +kernel), List.mem_of_getElem? (i := 525) (by decide +kernel)⟩
theorem lw_p44 : lw_okq (⟨"ExamScalesModel", "sharedMany", "(II)I"⟩, 13) := ⟨⟨by decide +kernel, by decide +kernel⟩, List.mem_of_getElem? (i := 347) (by decide +kernel), List.mem_of_getElem? (i := 537) (by decide +kernel), List.mem_of_getElem? (i := 538) (by decide +kernel)⟩
theorem lw_p45 : lw_okq (⟨"ExamScalesModel", "isShared", "(III)Z"⟩, 13) := ⟨⟨by decide +kernel, by decide +kernel⟩, List.mem_of_getElem? (i := 347) (by decide +kernel), List.mem_of_getElem? (i := 541) (by decide +kernel), List.mem_of_getElem? (i := 542) (by decide +kernel)⟩
theorem lw_p46 : lw_okq (⟨"ExamScalesModel", "sharedSum", "(II)I"⟩, 13) := ⟨⟨by decide +kernel, by decide +kernel⟩, List.mem_of_getElem? (i := 347) (by decide +kernel), List.mem_of_getElem? (i := 549) (by decide +kernel), List.mem_of_getElem? (i := 550) (by decide +kernel)⟩
theorem lw_p47 : lw_okq (⟨"ExamScalesModel", "sumOf", "(II)J"⟩, 13) := ⟨⟨by decide +kernel, by decide +kernel⟩, List.mem_of_getElem? (i := 347) (by decide +kernel), List.mem_of_getElem? (i := 557) (by decide +kernel), List.mem_of_getElem? (i := 558) (by decide +kernel)⟩
def lw_privs_3 : List (MethodName × Nat) := [(⟨"ExamScalesModel", "groupSize", "(I)I"⟩, 13), (⟨"ExamScalesModel", "own", "(II)I"⟩, 13), (⟨"ExamScalesModel", "isPupil", "(I)Z"⟩, 13), (⟨"ExamScalesModel", "isAnswer", "(II)Z"⟩, 13), (⟨"ExamScalesModel", "worth", "(II)I"⟩, 13), (⟨"ExamScalesModel", "markAt", "(II)I"⟩, 13), (⟨"ExamScalesModel", "cameTo", "(II)Z"⟩, 13), (⟨"ExamScalesModel", "totalOf", "(I)I"⟩, 13), (⟨"ExamScalesModel", "isCounted", "(I)Z"⟩, 13), (⟨"ExamScalesModel", "part", "(JJI)J"⟩, 13), (⟨"ExamScalesModel", "divisor", "(JJ)J"⟩, 13), (⟨"ExamScalesModel", "leaks", "(III)Z"⟩, 13), (⟨"ExamScalesModel", "sharedMany", "(II)I"⟩, 13), (⟨"ExamScalesModel", "isShared", "(III)Z"⟩, 13), (⟨"ExamScalesModel", "sharedSum", "(II)I"⟩, 13), (⟨"ExamScalesModel", "sumOf", "(II)J"⟩, 13)]
theorem lw_r3 : ∀ q ∈ lw_privs_3, lw_okq q := List.forall_mem_cons.mpr ⟨lw_p32, List.forall_mem_cons.mpr ⟨lw_p33, List.forall_mem_cons.mpr ⟨lw_p34, List.forall_mem_cons.mpr ⟨lw_p35, List.forall_mem_cons.mpr ⟨lw_p36, List.forall_mem_cons.mpr ⟨lw_p37, List.forall_mem_cons.mpr ⟨lw_p38, List.forall_mem_cons.mpr ⟨lw_p39, List.forall_mem_cons.mpr ⟨lw_p40, List.forall_mem_cons.mpr ⟨lw_p41, List.forall_mem_cons.mpr ⟨lw_p42, List.forall_mem_cons.mpr ⟨lw_p43, List.forall_mem_cons.mpr ⟨lw_p44, List.forall_mem_cons.mpr ⟨lw_p45, List.forall_mem_cons.mpr ⟨lw_p46, List.forall_mem_cons.mpr ⟨lw_p47, fun _ h => absurd h List.not_mem_nil⟩⟩⟩⟩⟩⟩⟩⟩⟩⟩⟩⟩⟩⟩⟩⟩
theorem lw_p48 : lw_okq (⟨"ExamScalesModel", "valueOf", "(II)J"⟩, 13) := ⟨⟨by decide +kernel, by decide +kernel⟩, List.mem_of_getElem? (i := 347) (by decide +kernel), List.mem_of_getElem? (i := 561) (by decide +kernel), List.mem_of_getElem? (i := 562) (by decide +kernel)⟩
theorem lw_p49 : lw_okq (⟨"ExamScalesModel", "away", "(II)J"⟩, 13) := ⟨⟨by decide +kernel, by decide +kernel⟩, List.mem_of_getElem? (i := 347) (by decide +kernel), List.mem_of_getElem? (i := 565) (by decide +kernel), List.mem_of_getElem? (i := 566) (by decide +kernel)⟩
theorem lw_p50 : lw_okq (⟨"ExamScalesModel", "rankOf", "(II)J"⟩, 13) := ⟨⟨by decide +kernel, by decide +kernel⟩, List.mem_of_getElem? (i := 347) (by decide +kernel), List.mem_of_getElem? (i := 577) (by decide +kernel), List.mem_of_getElem? (i := 578) (by decide +kernel)⟩
theorem lw_p51 : lw_okq (⟨"ExamScalesModel", "cutOf", "(I)J"⟩, 13) := ⟨⟨by decide +kernel, by decide +kernel⟩, List.mem_of_getElem? (i := 347) (by decide +kernel), List.mem_of_getElem? (i := 594) (by decide +kernel), List.mem_of_getElem? (i := 595) (by decide +kernel)⟩
theorem lw_p52 : lw_okq (⟨"ExamScalesModel", "isPassed", "(I)Z"⟩, 13) := ⟨⟨by decide +kernel, by decide +kernel⟩, List.mem_of_getElem? (i := 347) (by decide +kernel), List.mem_of_getElem? (i := 603) (by decide +kernel), List.mem_of_getElem? (i := 604) (by decide +kernel)⟩
theorem lw_p53 : lw_okq (⟨"ExamScalesModel", "alikeMany", "(II)I"⟩, 13) := ⟨⟨by decide +kernel, by decide +kernel⟩, List.mem_of_getElem? (i := 347) (by decide +kernel), List.mem_of_getElem? (i := 615) (by decide +kernel), List.mem_of_getElem? (i := 616) (by decide +kernel)⟩
def lw_privs_4 : List (MethodName × Nat) := [(⟨"ExamScalesModel", "valueOf", "(II)J"⟩, 13), (⟨"ExamScalesModel", "away", "(II)J"⟩, 13), (⟨"ExamScalesModel", "rankOf", "(II)J"⟩, 13), (⟨"ExamScalesModel", "cutOf", "(I)J"⟩, 13), (⟨"ExamScalesModel", "isPassed", "(I)Z"⟩, 13), (⟨"ExamScalesModel", "alikeMany", "(II)I"⟩, 13)]
theorem lw_r4 : ∀ q ∈ lw_privs_4, lw_okq q := List.forall_mem_cons.mpr ⟨lw_p48, List.forall_mem_cons.mpr ⟨lw_p49, List.forall_mem_cons.mpr ⟨lw_p50, List.forall_mem_cons.mpr ⟨lw_p51, List.forall_mem_cons.mpr ⟨lw_p52, List.forall_mem_cons.mpr ⟨lw_p53, fun _ h => absurd h List.not_mem_nil⟩⟩⟩⟩⟩⟩
def lw_privs : List (MethodName × Nat) := lw_privs_1 ++ (lw_privs_2 ++ (lw_privs_3 ++ (lw_privs_4)))
def lw_tbl : List Cond := k2_sels lw_privs ++ tables_1
theorem lw_privs_ok : ∀ q ∈ lw_privs, lw_okq q := by
  show ∀ q ∈ lw_privs_1 ++ (lw_privs_2 ++ (lw_privs_3 ++ (lw_privs_4))), lw_okq q
  exact List.forall_mem_append.mpr ⟨lw_r1, List.forall_mem_append.mpr ⟨lw_r2, List.forall_mem_append.mpr ⟨lw_r3, lw_r4⟩⟩⟩
end
section
def RX0 : String := "ExamScales"
def TX0 : u_T := fun k => match k with
  | 0 => ("ExamScales", "questionCount", "I", false)
  | 1 => ("ExamScales", "paperCount", "I", false)
  | 2 => ("ExamScales", "pupilCount", "I", false)
  | 3 => ("ExamScales", "struckSet", "I", false)
  | 4 => ("ExamScales", "trialSet", "I", false)
  | 5 => ("ExamScales", "kinds", "[I", true)
  | 6 => ("ExamScales", "mosts", "[I", true)
  | 7 => ("ExamScales", "keys", "[I", true)
  | 8 => ("ExamScales", "paperSizes", "[I", true)
  | 9 => ("ExamScales", "paperSets", "[I", true)
  | 10 => ("ExamScales", "paperRows", "[I", true)
  | 11 => ("ExamScales", "pupilPapers", "[I", true)
  | 12 => ("ExamScales", "pupilPlaces", "[I", true)
  | 13 => ("ExamScales", "answers", "[I", true)
  | 14 => ("ExamScales", "told", "[I", true)
  | 15 => ("ExamScales", "values", "[I", true)
  | 16 => ("ExamScales", "cameAt", "[I", true)
  | _ => ("ExamScales", "fullAt", "[I", true)
def tyX0 : Nat → FieldType := fun k => match k with
  | 0 => .int
  | 1 => .int
  | 2 => .int
  | 3 => .int
  | 4 => .int
  | 5 => .array .int
  | 6 => .array .int
  | 7 => .array .int
  | 8 => .array .int
  | 9 => .array .int
  | 10 => .array .int
  | 11 => .array .int
  | 12 => .array .int
  | 13 => .array .int
  | 14 => .array .int
  | 15 => .array .int
  | 16 => .array .int
  | _ => .array .int
abbrev wsX00 : List Cond := u_ws RX0 TX0 18
theorem nmX0 : ∀ a, a < 18 → ∀ b, b < 18 → a ≠ b → (TX0 a).2.1 ≠ (TX0 b).2.1 := by decide +kernel
theorem tyX0_ok : ∀ k, k < 18 → parseFieldDescriptor (TX0 k).2.2.1 = some (tyX0 k) := by decide +kernel
abbrev cX0_init : ByteArray := prog_1_method_1_code
def yX0_init : MethodName := ⟨RX0, "<init>", "()V"⟩
abbrev cX0_question : ByteArray := prog_1_method_2_code
def yX0_question : MethodName := ⟨RX0, "question", "(III)I"⟩
abbrev cX0_key : ByteArray := prog_1_method_3_code
def yX0_key : MethodName := ⟨RX0, "key", "(II)I"⟩
abbrev cX0_strike : ByteArray := prog_1_method_4_code
def yX0_strike : MethodName := ⟨RX0, "strike", "(II)I"⟩
abbrev cX0_paper : ByteArray := prog_1_method_5_code
def yX0_paper : MethodName := ⟨RX0, "paper", "()I"⟩
abbrev cX0_put : ByteArray := prog_1_method_6_code
def yX0_put : MethodName := ⟨RX0, "put", "(II)I"⟩
abbrev cX0_at : ByteArray := prog_1_method_7_code
def yX0_at : MethodName := ⟨RX0, "at", "(II)I"⟩
abbrev cX0_pupil : ByteArray := prog_1_method_8_code
def yX0_pupil : MethodName := ⟨RX0, "pupil", "(II)I"⟩
abbrev cX0_answer : ByteArray := prog_1_method_9_code
def yX0_answer : MethodName := ⟨RX0, "answer", "(III)I"⟩
abbrev cX0_gap : ByteArray := prog_1_method_10_code
def yX0_gap : MethodName := ⟨RX0, "gap", "(II)I"⟩
abbrev cX0_row : ByteArray := prog_1_method_11_code
def yX0_row : MethodName := ⟨RX0, "row", "(IJ)I"⟩
abbrev cX0_mark : ByteArray := prog_1_method_12_code
def yX0_mark : MethodName := ⟨RX0, "mark", "(II)I"⟩
abbrev cX0_come : ByteArray := prog_1_method_13_code
def yX0_come : MethodName := ⟨RX0, "come", "(II)I"⟩
abbrev cX0_total : ByteArray := prog_1_method_14_code
def yX0_total : MethodName := ⟨RX0, "total", "(I)I"⟩
abbrev cX0_easy : ByteArray := prog_1_method_15_code
def yX0_easy : MethodName := ⟨RX0, "easy", "(II)J"⟩
abbrev cX0_sharp : ByteArray := prog_1_method_16_code
def yX0_sharp : MethodName := ⟨RX0, "sharp", "(I)J"⟩
abbrev cX0_leaky : ByteArray := prog_1_method_17_code
def yX0_leaky : MethodName := ⟨RX0, "leaky", "(III)I"⟩
abbrev cX0_leak : ByteArray := prog_1_method_18_code
def yX0_leak : MethodName := ⟨RX0, "leak", "(II)I"⟩
abbrev cX0_shared : ByteArray := prog_1_method_19_code
def yX0_shared : MethodName := ⟨RX0, "shared", "(II)I"⟩
abbrev cX0_sum : ByteArray := prog_1_method_20_code
def yX0_sum : MethodName := ⟨RX0, "sum", "(II)I"⟩
abbrev cX0_group : ByteArray := prog_1_method_21_code
def yX0_group : MethodName := ⟨RX0, "group", "(III)J"⟩
abbrev cX0_scale : ByteArray := prog_1_method_22_code
def yX0_scale : MethodName := ⟨RX0, "scale", "(IIII)J"⟩
abbrev cX0_rank : ByteArray := prog_1_method_23_code
def yX0_rank : MethodName := ⟨RX0, "rank", "(II)I"⟩
abbrev cX0_like : ByteArray := prog_1_method_24_code
def yX0_like : MethodName := ⟨RX0, "like", "(III)I"⟩
abbrev cX0_judge : ByteArray := prog_1_method_25_code
def yX0_judge : MethodName := ⟨RX0, "judge", "(IIII)I"⟩
abbrev cX0_cut : ByteArray := prog_1_method_26_code
def yX0_cut : MethodName := ⟨RX0, "cut", "(II)J"⟩
abbrev cX0_passes : ByteArray := prog_1_method_27_code
def yX0_passes : MethodName := ⟨RX0, "passes", "(I)I"⟩
abbrev cX0_border : ByteArray := prog_1_method_28_code
def yX0_border : MethodName := ⟨RX0, "border", "(II)I"⟩
abbrev cX0_alike : ByteArray := prog_1_method_29_code
def yX0_alike : MethodName := ⟨RX0, "alike", "(II)I"⟩
abbrev cX0_pair : ByteArray := prog_1_method_30_code
def yX0_pair : MethodName := ⟨RX0, "pair", "(III)I"⟩
abbrev cX0_count : ByteArray := prog_1_method_31_code
def yX0_count : MethodName := ⟨RX0, "count", "(I)I"⟩
abbrev cX0_isQuestion : ByteArray := prog_1_method_32_code
def yX0_isQuestion : MethodName := ⟨RX0, "isQuestion", "(I)Z"⟩
abbrev cX0_isPaper : ByteArray := prog_1_method_33_code
def yX0_isPaper : MethodName := ⟨RX0, "isPaper", "(I)Z"⟩
abbrev cX0_isPupil : ByteArray := prog_1_method_34_code
def yX0_isPupil : MethodName := ⟨RX0, "isPupil", "(I)Z"⟩
abbrev cX0_isPlace : ByteArray := prog_1_method_35_code
def yX0_isPlace : MethodName := ⟨RX0, "isPlace", "(I)Z"⟩
abbrev cX0_isKey : ByteArray := prog_1_method_36_code
def yX0_isKey : MethodName := ⟨RX0, "isKey", "(I)Z"⟩
abbrev cX0_isBar : ByteArray := prog_1_method_37_code
def yX0_isBar : MethodName := ⟨RX0, "isBar", "(I)Z"⟩
abbrev cX0_isTotal : ByteArray := prog_1_method_38_code
def yX0_isTotal : MethodName := ⟨RX0, "isTotal", "(I)Z"⟩
abbrev cX0_isPart : ByteArray := prog_1_method_39_code
def yX0_isPart : MethodName := ⟨RX0, "isPart", "(I)Z"⟩
abbrev cX0_isAnswer : ByteArray := prog_1_method_40_code
def yX0_isAnswer : MethodName := ⟨RX0, "isAnswer", "(II)Z"⟩
abbrev cX0_hasPupil : ByteArray := prog_1_method_41_code
def yX0_hasPupil : MethodName := ⟨RX0, "hasPupil", "(I)Z"⟩
abbrev cX0_isIn : ByteArray := prog_1_method_42_code
def yX0_isIn : MethodName := ⟨RX0, "isIn", "(II)Z"⟩
abbrev cX0_countingSet : ByteArray := prog_1_method_43_code
def yX0_countingSet : MethodName := ⟨RX0, "countingSet", "()I"⟩
abbrev cX0_sharedSet : ByteArray := prog_1_method_44_code
def yX0_sharedSet : MethodName := ⟨RX0, "sharedSet", "(II)I"⟩
abbrev cX0_spotOf : ByteArray := prog_1_method_45_code
def yX0_spotOf : MethodName := ⟨RX0, "spotOf", "(II)I"⟩
abbrev cX0_spotFor : ByteArray := prog_1_method_46_code
def yX0_spotFor : MethodName := ⟨RX0, "spotFor", "(II)I"⟩
abbrev cX0_worth : ByteArray := prog_1_method_47_code
def yX0_worth : MethodName := ⟨RX0, "worth", "(II)I"⟩
abbrev cX0_stepsInRow : ByteArray := prog_1_method_48_code
def yX0_stepsInRow : MethodName := ⟨RX0, "stepsInRow", "(I)I"⟩
abbrev cX0_markAt : ByteArray := prog_1_method_49_code
def yX0_markAt : MethodName := ⟨RX0, "markAt", "(II)I"⟩
abbrev cX0_hasComeTo : ByteArray := prog_1_method_50_code
def yX0_hasComeTo : MethodName := ⟨RX0, "hasComeTo", "(II)Z"⟩
abbrev cX0_spotComeTo : ByteArray := prog_1_method_51_code
def yX0_spotComeTo : MethodName := ⟨RX0, "spotComeTo", "(II)I"⟩
abbrev cX0_sumOver : ByteArray := prog_1_method_52_code
def yX0_sumOver : MethodName := ⟨RX0, "sumOver", "(II)I"⟩
abbrev cX0_tallyPlaces : ByteArray := prog_1_method_53_code
def yX0_tallyPlaces : MethodName := ⟨RX0, "tallyPlaces", "(I)V"⟩
abbrev cX0_isLeakyByTally : ByteArray := prog_1_method_54_code
def yX0_isLeakyByTally : MethodName := ⟨RX0, "isLeakyByTally", "(II)Z"⟩
abbrev cX0_gatherSums : ByteArray := prog_1_method_55_code
def yX0_gatherSums : MethodName := ⟨RX0, "gatherSums", "(II)I"⟩
abbrev cX0_sumOfValues : ByteArray := prog_1_method_56_code
def yX0_sumOfValues : MethodName := ⟨RX0, "sumOfValues", "(I)J"⟩
abbrev cX0_awayOfValues : ByteArray := prog_1_method_57_code
def yX0_awayOfValues : MethodName := ⟨RX0, "awayOfValues", "(I)J"⟩
abbrev cX0_rankInValues : ByteArray := prog_1_method_58_code
def yX0_rankInValues : MethodName := ⟨RX0, "rankInValues", "(II)I"⟩
abbrev cX0_cutParts : ByteArray := prog_1_method_59_code
def yX0_cutParts : MethodName := ⟨RX0, "cutParts", "(I)I"⟩
abbrev cX0_meanParts : ByteArray := prog_1_method_60_code
def yX0_meanParts : MethodName := ⟨RX0, "meanParts", "(I)I"⟩
abbrev cX0_isPassing : ByteArray := prog_1_method_61_code
def yX0_isPassing : MethodName := ⟨RX0, "isPassing", "(I)Z"⟩
abbrev cX0_countPassing : ByteArray := prog_1_method_62_code
def yX0_countPassing : MethodName := ⟨RX0, "countPassing", "()I"⟩
abbrev cX0_countAnswers : ByteArray := prog_1_method_63_code
def yX0_countAnswers : MethodName := ⟨RX0, "countAnswers", "()I"⟩
abbrev cX0_areAlikeOf : ByteArray := prog_1_method_64_code
def yX0_areAlikeOf : MethodName := ⟨RX0, "areAlikeOf", "(IIII)Z"⟩
abbrev cX0_sameWrongs : ByteArray := prog_1_method_65_code
def yX0_sameWrongs : MethodName := ⟨RX0, "sameWrongs", "(II)I"⟩
abbrev cX0_fraction : ByteArray := prog_1_method_66_code
def yX0_fraction : MethodName := ⟨RX0, "fraction", "(JJI)J"⟩
abbrev cX0_commonDivisor : ByteArray := prog_1_method_67_code
def yX0_commonDivisor : MethodName := ⟨RX0, "commonDivisor", "(JJ)J"⟩
def RX1 : String := "ExamScalesModel"
def TX1 : u_T := fun k => match k with
  | 0 => ("ExamScalesModel", "questions", "I", false)
  | 1 => ("ExamScalesModel", "papers", "I", false)
  | 2 => ("ExamScalesModel", "pupils", "I", false)
  | 3 => ("ExamScalesModel", "kind", "[I", true)
  | 4 => ("ExamScalesModel", "most", "[I", true)
  | 5 => ("ExamScalesModel", "key", "[I", true)
  | 6 => ("ExamScalesModel", "isStruck", "[Z", true)
  | 7 => ("ExamScalesModel", "asked", "[I", true)
  | 8 => ("ExamScalesModel", "size", "[I", true)
  | 9 => ("ExamScalesModel", "paperOf", "[I", true)
  | 10 => ("ExamScalesModel", "placeOf", "[I", true)
  | 11 => ("ExamScalesModel", "given", "[I", true)
  | _ => ("ExamScalesModel", "told", "[I", true)
def tyX1 : Nat → FieldType := fun k => match k with
  | 0 => .int
  | 1 => .int
  | 2 => .int
  | 3 => .array .int
  | 4 => .array .int
  | 5 => .array .int
  | 6 => .array .boolean
  | 7 => .array .int
  | 8 => .array .int
  | 9 => .array .int
  | 10 => .array .int
  | 11 => .array .int
  | _ => .array .int
abbrev wsX10 : List Cond := u_ws RX1 TX1 13
theorem nmX1 : ∀ a, a < 13 → ∀ b, b < 13 → a ≠ b → (TX1 a).2.1 ≠ (TX1 b).2.1 := by decide +kernel
theorem tyX1_ok : ∀ k, k < 13 → parseFieldDescriptor (TX1 k).2.2.1 = some (tyX1 k) := by decide +kernel
abbrev cX1_init : ByteArray := prog_3_method_1_code
def yX1_init : MethodName := ⟨RX1, "<init>", "()V"⟩
abbrev cX1_in : ByteArray := prog_3_method_2_code
def yX1_in : MethodName := ⟨RX1, "in", "(III)Z"⟩
abbrev cX1_isQuestion : ByteArray := prog_3_method_3_code
def yX1_isQuestion : MethodName := ⟨RX1, "isQuestion", "(I)Z"⟩
abbrev cX1_isPaper : ByteArray := prog_3_method_4_code
def yX1_isPaper : MethodName := ⟨RX1, "isPaper", "(I)Z"⟩
abbrev cX1_isPupil : ByteArray := prog_3_method_5_code
def yX1_isPupil : MethodName := ⟨RX1, "isPupil", "(I)Z"⟩
abbrev cX1_isKey : ByteArray := prog_3_method_6_code
def yX1_isKey : MethodName := ⟨RX1, "isKey", "(II)Z"⟩
abbrev cX1_question : ByteArray := prog_3_method_7_code
def yX1_question : MethodName := ⟨RX1, "question", "(III)I"⟩
abbrev cX1_key : ByteArray := prog_3_method_8_code
def yX1_key : MethodName := ⟨RX1, "key", "(II)I"⟩
abbrev cX1_strike : ByteArray := prog_3_method_9_code
def yX1_strike : MethodName := ⟨RX1, "strike", "(II)I"⟩
abbrev cX1_paper : ByteArray := prog_3_method_10_code
def yX1_paper : MethodName := ⟨RX1, "paper", "()I"⟩
abbrev cX1_spot : ByteArray := prog_3_method_11_code
def yX1_spot : MethodName := ⟨RX1, "spot", "(II)I"⟩
abbrev cX1_groupSize : ByteArray := prog_3_method_12_code
def yX1_groupSize : MethodName := ⟨RX1, "groupSize", "(I)I"⟩
abbrev cX1_put : ByteArray := prog_3_method_13_code
def yX1_put : MethodName := ⟨RX1, "put", "(II)I"⟩
abbrev cX1_at : ByteArray := prog_3_method_14_code
def yX1_at : MethodName := ⟨RX1, "at", "(II)I"⟩
abbrev cX1_pupil : ByteArray := prog_3_method_15_code
def yX1_pupil : MethodName := ⟨RX1, "pupil", "(II)I"⟩
abbrev cX1_isAnswer : ByteArray := prog_3_method_16_code
def yX1_isAnswer : MethodName := ⟨RX1, "isAnswer", "(II)Z"⟩
abbrev cX1_worth : ByteArray := prog_3_method_17_code
def yX1_worth : MethodName := ⟨RX1, "worth", "(II)I"⟩
abbrev cX1_own : ByteArray := prog_3_method_18_code
def yX1_own : MethodName := ⟨RX1, "own", "(II)I"⟩
abbrev cX1_answer : ByteArray := prog_3_method_19_code
def yX1_answer : MethodName := ⟨RX1, "answer", "(III)I"⟩
abbrev cX1_gap : ByteArray := prog_3_method_20_code
def yX1_gap : MethodName := ⟨RX1, "gap", "(II)I"⟩
abbrev cX1_row : ByteArray := prog_3_method_21_code
def yX1_row : MethodName := ⟨RX1, "row", "(IJ)I"⟩
abbrev cX1_markAt : ByteArray := prog_3_method_22_code
def yX1_markAt : MethodName := ⟨RX1, "markAt", "(II)I"⟩
abbrev cX1_mark : ByteArray := prog_3_method_23_code
def yX1_mark : MethodName := ⟨RX1, "mark", "(II)I"⟩
abbrev cX1_cameTo : ByteArray := prog_3_method_24_code
def yX1_cameTo : MethodName := ⟨RX1, "cameTo", "(II)Z"⟩
abbrev cX1_come : ByteArray := prog_3_method_25_code
def yX1_come : MethodName := ⟨RX1, "come", "(II)I"⟩
abbrev cX1_isCounted : ByteArray := prog_3_method_26_code
def yX1_isCounted : MethodName := ⟨RX1, "isCounted", "(I)Z"⟩
abbrev cX1_totalOf : ByteArray := prog_3_method_27_code
def yX1_totalOf : MethodName := ⟨RX1, "totalOf", "(I)I"⟩
abbrev cX1_total : ByteArray := prog_3_method_28_code
def yX1_total : MethodName := ⟨RX1, "total", "(I)I"⟩
abbrev cX1_divisor : ByteArray := prog_3_method_29_code
def yX1_divisor : MethodName := ⟨RX1, "divisor", "(JJ)J"⟩
abbrev cX1_part : ByteArray := prog_3_method_30_code
def yX1_part : MethodName := ⟨RX1, "part", "(JJI)J"⟩
abbrev cX1_easy : ByteArray := prog_3_method_31_code
def yX1_easy : MethodName := ⟨RX1, "easy", "(II)J"⟩
abbrev cX1_sharp : ByteArray := prog_3_method_32_code
def yX1_sharp : MethodName := ⟨RX1, "sharp", "(I)J"⟩
abbrev cX1_leaks : ByteArray := prog_3_method_33_code
def yX1_leaks : MethodName := ⟨RX1, "leaks", "(III)Z"⟩
abbrev cX1_leaky : ByteArray := prog_3_method_34_code
def yX1_leaky : MethodName := ⟨RX1, "leaky", "(III)I"⟩
abbrev cX1_leak : ByteArray := prog_3_method_35_code
def yX1_leak : MethodName := ⟨RX1, "leak", "(II)I"⟩
abbrev cX1_isShared : ByteArray := prog_3_method_36_code
def yX1_isShared : MethodName := ⟨RX1, "isShared", "(III)Z"⟩
abbrev cX1_sharedMany : ByteArray := prog_3_method_37_code
def yX1_sharedMany : MethodName := ⟨RX1, "sharedMany", "(II)I"⟩
abbrev cX1_shared : ByteArray := prog_3_method_38_code
def yX1_shared : MethodName := ⟨RX1, "shared", "(II)I"⟩
abbrev cX1_sharedSum : ByteArray := prog_3_method_39_code
def yX1_sharedSum : MethodName := ⟨RX1, "sharedSum", "(II)I"⟩
abbrev cX1_sum : ByteArray := prog_3_method_40_code
def yX1_sum : MethodName := ⟨RX1, "sum", "(II)I"⟩
abbrev cX1_valueOf : ByteArray := prog_3_method_41_code
def yX1_valueOf : MethodName := ⟨RX1, "valueOf", "(II)J"⟩
abbrev cX1_sumOf : ByteArray := prog_3_method_42_code
def yX1_sumOf : MethodName := ⟨RX1, "sumOf", "(II)J"⟩
abbrev cX1_away : ByteArray := prog_3_method_43_code
def yX1_away : MethodName := ⟨RX1, "away", "(II)J"⟩
abbrev cX1_group : ByteArray := prog_3_method_44_code
def yX1_group : MethodName := ⟨RX1, "group", "(III)J"⟩
abbrev cX1_scale : ByteArray := prog_3_method_45_code
def yX1_scale : MethodName := ⟨RX1, "scale", "(IIII)J"⟩
abbrev cX1_rankOf : ByteArray := prog_3_method_46_code
def yX1_rankOf : MethodName := ⟨RX1, "rankOf", "(II)J"⟩
abbrev cX1_rank : ByteArray := prog_3_method_47_code
def yX1_rank : MethodName := ⟨RX1, "rank", "(II)I"⟩
abbrev cX1_like : ByteArray := prog_3_method_48_code
def yX1_like : MethodName := ⟨RX1, "like", "(III)I"⟩
abbrev cX1_judge : ByteArray := prog_3_method_49_code
def yX1_judge : MethodName := ⟨RX1, "judge", "(IIII)I"⟩
abbrev cX1_cutOf : ByteArray := prog_3_method_50_code
def yX1_cutOf : MethodName := ⟨RX1, "cutOf", "(I)J"⟩
abbrev cX1_cut : ByteArray := prog_3_method_51_code
def yX1_cut : MethodName := ⟨RX1, "cut", "(II)J"⟩
abbrev cX1_isPassed : ByteArray := prog_3_method_52_code
def yX1_isPassed : MethodName := ⟨RX1, "isPassed", "(I)Z"⟩
abbrev cX1_passes : ByteArray := prog_3_method_53_code
def yX1_passes : MethodName := ⟨RX1, "passes", "(I)I"⟩
abbrev cX1_border : ByteArray := prog_3_method_54_code
def yX1_border : MethodName := ⟨RX1, "border", "(II)I"⟩
abbrev cX1_alikeMany : ByteArray := prog_3_method_55_code
def yX1_alikeMany : MethodName := ⟨RX1, "alikeMany", "(II)I"⟩
abbrev cX1_alike : ByteArray := prog_3_method_56_code
def yX1_alike : MethodName := ⟨RX1, "alike", "(II)I"⟩
abbrev cX1_pair : ByteArray := prog_3_method_57_code
def yX1_pair : MethodName := ⟨RX1, "pair", "(III)I"⟩
abbrev cX1_count : ByteArray := prog_3_method_58_code
def yX1_count : MethodName := ⟨RX1, "count", "(I)I"⟩
def RJ6 : String := "java/lang/Integer"
def TJ6 : u_T := fun k => match k with
  | _ => ("", "", "", false)
def tyJ6 : Nat → FieldType := fun k => match k with
  | _ => .int
abbrev cJ6_bitCount_0f7a4 : ByteArray := prog_4_method_49_code
def yJ6_bitCount_0f7a4 : MethodName := ⟨RJ6, "bitCount", "(I)I"⟩
def RJ9 : String := "java/lang/Math"
def TJ9 : u_T := fun k => match k with
  | _ => ("", "", "", false)
def tyJ9 : Nat → FieldType := fun k => match k with
  | _ => .int
abbrev cJ9_abs_067f4 : ByteArray := prog_5_method_61_code
def yJ9_abs_067f4 : MethodName := ⟨RJ9, "abs", "(J)J"⟩
abbrev cJ9_max_7cf53 : ByteArray := prog_5_method_65_code
def yJ9_max_7cf53 : MethodName := ⟨RJ9, "max", "(II)I"⟩
abbrev cJ9_min_7cf53 : ByteArray := prog_5_method_69_code
def yJ9_min_7cf53 : MethodName := ⟨RJ9, "min", "(II)I"⟩
def RJ7 : String := "java/util/Arrays"
def TJ7 : u_T := fun k => match k with
  | _ => ("", "", "", false)
def tyJ7 : Nat → FieldType := fun k => match k with
  | _ => .int
abbrev cJ7_fill_53178 : ByteArray := prog_6_method_103_code
def yJ7_fill_53178 : MethodName := ⟨RJ7, "fill", "([II)V"⟩
def RL : String := "ExamScalesLaw"
abbrev cL_law : ByteArray := code
def yL_law : MethodName := ⟨RL, "law", "([I)Z"⟩
abbrev vwCl : List vw_C := [(RX0, TX0, 18), (RX1, TX1, 13)]
set_option maxRecDepth 20000 in
theorem tI_RL : Cond.initialized RL ∈ lw_tbl := List.mem_append_right _ (show _ ∈ tables_1_1 ++ (tables_1_2 ++ tables_1_3) from List.mem_append_left _ (List.mem_of_getElem? (i := 0) (by decide +kernel)))
set_option maxRecDepth 20000 in
theorem tI_RX0 : Cond.initialized RX0 ∈ lw_tbl := List.mem_append_right _ (show _ ∈ tables_1_1 ++ (tables_1_2 ++ tables_1_3) from List.mem_append_left _ (List.mem_of_getElem? (i := 1) (by decide +kernel)))
set_option maxRecDepth 20000 in
theorem tI_RJ7 : Cond.initialized RJ7 ∈ lw_tbl := List.mem_append_right _ (show _ ∈ tables_1_1 ++ (tables_1_2 ++ tables_1_3) from List.mem_append_left _ (List.mem_of_getElem? (i := 2) (by decide +kernel)))
set_option maxRecDepth 20000 in
theorem tI_RX1 : Cond.initialized RX1 ∈ lw_tbl := List.mem_append_right _ (show _ ∈ tables_1_1 ++ (tables_1_2 ++ tables_1_3) from List.mem_append_left _ (List.mem_of_getElem? (i := 3) (by decide +kernel)))
set_option maxRecDepth 20000 in
theorem tI_RJ9 : Cond.initialized RJ9 ∈ lw_tbl := List.mem_append_right _ (show _ ∈ tables_1_1 ++ (tables_1_2 ++ tables_1_3) from List.mem_append_left _ (List.mem_of_getElem? (i := 4) (by decide +kernel)))
set_option maxRecDepth 20000 in
theorem tI_RJ6 : Cond.initialized RJ6 ∈ lw_tbl := List.mem_append_right _ (show _ ∈ tables_1_1 ++ (tables_1_2 ++ tables_1_3) from List.mem_append_left _ (List.mem_of_getElem? (i := 5) (by decide +kernel)))
set_option maxRecDepth 20000 in
theorem tC_RL_7 : Cond.classLink RL 7 RX0 ∈ lw_tbl := List.mem_append_right _ (show _ ∈ tables_1_1 ++ (tables_1_2 ++ tables_1_3) from List.mem_append_left _ (List.mem_of_getElem? (i := 6) (by decide +kernel)))
set_option maxRecDepth 20000 in
theorem tN_RX0 : Cond.instantiable RX0 18 ∈ lw_tbl := List.mem_append_right _ (show _ ∈ tables_1_1 ++ (tables_1_2 ++ tables_1_3) from List.mem_append_left _ (List.mem_of_getElem? (i := 7) (by decide +kernel)))
set_option maxRecDepth 20000 in
theorem tM_RL_9 : Cond.methodLink RL 9 yX0_init ∈ lw_tbl := List.mem_append_right _ (show _ ∈ tables_1_1 ++ (tables_1_2 ++ tables_1_3) from List.mem_append_left _ (List.mem_of_getElem? (i := 8) (by decide +kernel)))
set_option maxRecDepth 20000 in
theorem tV_yX0_init : Cond.instanceMethod yX0_init ∈ lw_tbl := List.mem_append_right _ (show _ ∈ tables_1_1 ++ (tables_1_2 ++ tables_1_3) from List.mem_append_left _ (List.mem_of_getElem? (i := 9) (by decide +kernel)))
set_option maxRecDepth 20000 in
theorem tK_yX0_init : Cond.code yX0_init cX0_init 1 (Option.none : Option Jvm.ClassFile.FieldType) ∈ lw_tbl := List.mem_append_right _ (show _ ∈ tables_1_1 ++ (tables_1_2 ++ tables_1_3) from List.mem_append_left _ (List.mem_of_getElem? (i := 10) rfl))
set_option maxRecDepth 20000 in
theorem tM_RX0_5 : Cond.methodLink RX0 5 objectInit ∈ lw_tbl := List.mem_append_right _ (show _ ∈ tables_1_1 ++ (tables_1_2 ++ tables_1_3) from List.mem_append_left _ (List.mem_of_getElem? (i := 11) (by decide +kernel)))
set_option maxRecDepth 20000 in
theorem tV_objectInit : Cond.instanceMethod objectInit ∈ lw_tbl := List.mem_append_right _ (show _ ∈ tables_1_1 ++ (tables_1_2 ++ tables_1_3) from List.mem_append_left _ (List.mem_of_getElem? (i := 12) (by decide +kernel)))
set_option maxRecDepth 20000 in
theorem tK_objectInit : Cond.code objectInit object_method_1_code 1 (Option.none : Option Jvm.ClassFile.FieldType) ∈ lw_tbl := List.mem_append_right _ (show _ ∈ tables_1_1 ++ (tables_1_2 ++ tables_1_3) from List.mem_append_left _ (List.mem_of_getElem? (i := 13) rfl))
set_option maxRecDepth 20000 in
theorem tM_RX0_51 : Cond.methodLink RX0 51 yJ7_fill_53178 ∈ lw_tbl := List.mem_append_right _ (show _ ∈ tables_1_1 ++ (tables_1_2 ++ tables_1_3) from List.mem_append_left _ (List.mem_of_getElem? (i := 14) (by decide +kernel)))
set_option maxRecDepth 20000 in
theorem tS_yJ7_fill_53178 : Cond.static yJ7_fill_53178 ∈ lw_tbl := List.mem_append_right _ (show _ ∈ tables_1_1 ++ (tables_1_2 ++ tables_1_3) from List.mem_append_left _ (List.mem_of_getElem? (i := 15) (by decide +kernel)))
set_option maxRecDepth 20000 in
theorem tK_yJ7_fill_53178 : Cond.code yJ7_fill_53178 cJ7_fill_53178 4 (Option.none : Option Jvm.ClassFile.FieldType) ∈ lw_tbl := List.mem_append_right _ (show _ ∈ tables_1_1 ++ (tables_1_2 ++ tables_1_3) from List.mem_append_left _ (List.mem_of_getElem? (i := 16) rfl))
set_option maxRecDepth 20000 in
theorem tF_RX0_61 : Cond.fieldLink RX0 61 "ExamScales" "questionCount" "I" ∈ lw_tbl := List.mem_append_right _ (show _ ∈ tables_1_1 ++ (tables_1_2 ++ tables_1_3) from List.mem_append_left _ (List.mem_of_getElem? (i := 17) (by decide +kernel)))
set_option maxRecDepth 20000 in
theorem tF_RX0_78 : Cond.fieldLink RX0 78 "ExamScales" "paperCount" "I" ∈ lw_tbl := List.mem_append_right _ (show _ ∈ tables_1_1 ++ (tables_1_2 ++ tables_1_3) from List.mem_append_left _ (List.mem_of_getElem? (i := 18) (by decide +kernel)))
set_option maxRecDepth 20000 in
theorem tF_RX0_90 : Cond.fieldLink RX0 90 "ExamScales" "pupilCount" "I" ∈ lw_tbl := List.mem_append_right _ (show _ ∈ tables_1_1 ++ (tables_1_2 ++ tables_1_3) from List.mem_append_left _ (List.mem_of_getElem? (i := 19) (by decide +kernel)))
set_option maxRecDepth 20000 in
theorem tF_RX0_71 : Cond.fieldLink RX0 71 "ExamScales" "struckSet" "I" ∈ lw_tbl := List.mem_append_right _ (show _ ∈ tables_1_1 ++ (tables_1_2 ++ tables_1_3) from List.mem_append_left _ (List.mem_of_getElem? (i := 20) (by decide +kernel)))
set_option maxRecDepth 20000 in
theorem tF_RX0_65 : Cond.fieldLink RX0 65 "ExamScales" "trialSet" "I" ∈ lw_tbl := List.mem_append_right _ (show _ ∈ tables_1_1 ++ (tables_1_2 ++ tables_1_3) from List.mem_append_left _ (List.mem_of_getElem? (i := 21) (by decide +kernel)))
set_option maxRecDepth 20000 in
theorem tF_RX0_11 : Cond.fieldLink RX0 11 "ExamScales" "kinds" "[I" ∈ lw_tbl := List.mem_append_right _ (show _ ∈ tables_1_1 ++ (tables_1_2 ++ tables_1_3) from List.mem_append_left _ (List.mem_of_getElem? (i := 22) (by decide +kernel)))
set_option maxRecDepth 20000 in
theorem tF_RX0_15 : Cond.fieldLink RX0 15 "ExamScales" "mosts" "[I" ∈ lw_tbl := List.mem_append_right _ (show _ ∈ tables_1_1 ++ (tables_1_2 ++ tables_1_3) from List.mem_append_left _ (List.mem_of_getElem? (i := 23) (by decide +kernel)))
set_option maxRecDepth 20000 in
theorem tF_RX0_18 : Cond.fieldLink RX0 18 "ExamScales" "keys" "[I" ∈ lw_tbl := List.mem_append_right _ (show _ ∈ tables_1_1 ++ (tables_1_2 ++ tables_1_3) from List.mem_append_left _ (List.mem_of_getElem? (i := 24) (by decide +kernel)))
set_option maxRecDepth 20000 in
theorem tF_RX0_21 : Cond.fieldLink RX0 21 "ExamScales" "paperSizes" "[I" ∈ lw_tbl := List.mem_append_right _ (show _ ∈ tables_1_1 ++ (tables_1_2 ++ tables_1_3) from List.mem_append_left _ (List.mem_of_getElem? (i := 25) (by decide +kernel)))
set_option maxRecDepth 20000 in
theorem tF_RX0_24 : Cond.fieldLink RX0 24 "ExamScales" "paperSets" "[I" ∈ lw_tbl := List.mem_append_right _ (show _ ∈ tables_1_1 ++ (tables_1_2 ++ tables_1_3) from List.mem_append_left _ (List.mem_of_getElem? (i := 26) (by decide +kernel)))
set_option maxRecDepth 20000 in
theorem tF_RX0_27 : Cond.fieldLink RX0 27 "ExamScales" "paperRows" "[I" ∈ lw_tbl := List.mem_append_right _ (show _ ∈ tables_1_1 ++ (tables_1_2 ++ tables_1_3) from List.mem_append_left _ (List.mem_of_getElem? (i := 27) (by decide +kernel)))
set_option maxRecDepth 20000 in
theorem tF_RX0_30 : Cond.fieldLink RX0 30 "ExamScales" "pupilPapers" "[I" ∈ lw_tbl := List.mem_append_right _ (show _ ∈ tables_1_1 ++ (tables_1_2 ++ tables_1_3) from List.mem_append_left _ (List.mem_of_getElem? (i := 28) (by decide +kernel)))
set_option maxRecDepth 20000 in
theorem tF_RX0_33 : Cond.fieldLink RX0 33 "ExamScales" "pupilPlaces" "[I" ∈ lw_tbl := List.mem_append_right _ (show _ ∈ tables_1_1 ++ (tables_1_2 ++ tables_1_3) from List.mem_append_left _ (List.mem_of_getElem? (i := 29) (by decide +kernel)))
set_option maxRecDepth 20000 in
theorem tF_RX0_36 : Cond.fieldLink RX0 36 "ExamScales" "answers" "[I" ∈ lw_tbl := List.mem_append_right _ (show _ ∈ tables_1_1 ++ (tables_1_2 ++ tables_1_3) from List.mem_append_left _ (List.mem_of_getElem? (i := 30) (by decide +kernel)))
set_option maxRecDepth 20000 in
theorem tF_RX0_39 : Cond.fieldLink RX0 39 "ExamScales" "told" "[I" ∈ lw_tbl := List.mem_append_right _ (show _ ∈ tables_1_1 ++ (tables_1_2 ++ tables_1_3) from List.mem_append_left _ (List.mem_of_getElem? (i := 31) (by decide +kernel)))
set_option maxRecDepth 20000 in
theorem tF_RX0_42 : Cond.fieldLink RX0 42 "ExamScales" "values" "[I" ∈ lw_tbl := List.mem_append_right _ (show _ ∈ tables_1_1 ++ (tables_1_2 ++ tables_1_3) from List.mem_append_left _ (List.mem_of_getElem? (i := 32) (by decide +kernel)))
set_option maxRecDepth 20000 in
theorem tF_RX0_45 : Cond.fieldLink RX0 45 "ExamScales" "cameAt" "[I" ∈ lw_tbl := List.mem_append_right _ (show _ ∈ tables_1_1 ++ (tables_1_2 ++ tables_1_3) from List.mem_append_left _ (List.mem_of_getElem? (i := 33) (by decide +kernel)))
set_option maxRecDepth 20000 in
theorem tF_RX0_48 : Cond.fieldLink RX0 48 "ExamScales" "fullAt" "[I" ∈ lw_tbl := List.mem_append_right _ (show _ ∈ tables_1_1 ++ (tables_1_2 ++ tables_1_3) from List.mem_append_left _ (List.mem_of_getElem? (i := 34) (by decide +kernel)))
set_option maxRecDepth 20000 in
theorem tL_RX0_questionCount : Cond.lays RX0 "ExamScales" "questionCount" "I" ∈ lw_tbl := List.mem_append_right _ (show _ ∈ tables_1_1 ++ (tables_1_2 ++ tables_1_3) from List.mem_append_left _ (List.mem_of_getElem? (i := 35) (by decide +kernel)))
set_option maxRecDepth 20000 in
theorem tL_RX0_paperCount : Cond.lays RX0 "ExamScales" "paperCount" "I" ∈ lw_tbl := List.mem_append_right _ (show _ ∈ tables_1_1 ++ (tables_1_2 ++ tables_1_3) from List.mem_append_left _ (List.mem_of_getElem? (i := 37) (by decide +kernel)))
set_option maxRecDepth 20000 in
theorem tL_RX0_pupilCount : Cond.lays RX0 "ExamScales" "pupilCount" "I" ∈ lw_tbl := List.mem_append_right _ (show _ ∈ tables_1_1 ++ (tables_1_2 ++ tables_1_3) from List.mem_append_left _ (List.mem_of_getElem? (i := 39) (by decide +kernel)))
set_option maxRecDepth 20000 in
theorem tL_RX0_struckSet : Cond.lays RX0 "ExamScales" "struckSet" "I" ∈ lw_tbl := List.mem_append_right _ (show _ ∈ tables_1_1 ++ (tables_1_2 ++ tables_1_3) from List.mem_append_left _ (List.mem_of_getElem? (i := 41) (by decide +kernel)))
set_option maxRecDepth 20000 in
theorem tL_RX0_trialSet : Cond.lays RX0 "ExamScales" "trialSet" "I" ∈ lw_tbl := List.mem_append_right _ (show _ ∈ tables_1_1 ++ (tables_1_2 ++ tables_1_3) from List.mem_append_left _ (List.mem_of_getElem? (i := 43) (by decide +kernel)))
set_option maxRecDepth 20000 in
theorem tL_RX0_kinds : Cond.laysFinal RX0 "ExamScales" "kinds" "[I" ∈ lw_tbl := List.mem_append_right _ (show _ ∈ tables_1_1 ++ (tables_1_2 ++ tables_1_3) from List.mem_append_left _ (List.mem_of_getElem? (i := 45) (by decide +kernel)))
set_option maxRecDepth 20000 in
theorem tL_RX0_mosts : Cond.laysFinal RX0 "ExamScales" "mosts" "[I" ∈ lw_tbl := List.mem_append_right _ (show _ ∈ tables_1_1 ++ (tables_1_2 ++ tables_1_3) from List.mem_append_left _ (List.mem_of_getElem? (i := 47) (by decide +kernel)))
set_option maxRecDepth 20000 in
theorem tL_RX0_keys : Cond.laysFinal RX0 "ExamScales" "keys" "[I" ∈ lw_tbl := List.mem_append_right _ (show _ ∈ tables_1_1 ++ (tables_1_2 ++ tables_1_3) from List.mem_append_left _ (List.mem_of_getElem? (i := 49) (by decide +kernel)))
set_option maxRecDepth 20000 in
theorem tL_RX0_paperSizes : Cond.laysFinal RX0 "ExamScales" "paperSizes" "[I" ∈ lw_tbl := List.mem_append_right _ (show _ ∈ tables_1_1 ++ (tables_1_2 ++ tables_1_3) from List.mem_append_left _ (List.mem_of_getElem? (i := 51) (by decide +kernel)))
set_option maxRecDepth 20000 in
theorem tL_RX0_paperSets : Cond.laysFinal RX0 "ExamScales" "paperSets" "[I" ∈ lw_tbl := List.mem_append_right _ (show _ ∈ tables_1_1 ++ (tables_1_2 ++ tables_1_3) from List.mem_append_left _ (List.mem_of_getElem? (i := 53) (by decide +kernel)))
set_option maxRecDepth 20000 in
theorem tL_RX0_paperRows : Cond.laysFinal RX0 "ExamScales" "paperRows" "[I" ∈ lw_tbl := List.mem_append_right _ (show _ ∈ tables_1_1 ++ (tables_1_2 ++ tables_1_3) from List.mem_append_left _ (List.mem_of_getElem? (i := 55) (by decide +kernel)))
set_option maxRecDepth 20000 in
theorem tL_RX0_pupilPapers : Cond.laysFinal RX0 "ExamScales" "pupilPapers" "[I" ∈ lw_tbl := List.mem_append_right _ (show _ ∈ tables_1_1 ++ (tables_1_2 ++ tables_1_3) from List.mem_append_left _ (List.mem_of_getElem? (i := 57) (by decide +kernel)))
set_option maxRecDepth 20000 in
theorem tL_RX0_pupilPlaces : Cond.laysFinal RX0 "ExamScales" "pupilPlaces" "[I" ∈ lw_tbl := List.mem_append_right _ (show _ ∈ tables_1_1 ++ (tables_1_2 ++ tables_1_3) from List.mem_append_left _ (List.mem_of_getElem? (i := 59) (by decide +kernel)))
set_option maxRecDepth 20000 in
theorem tL_RX0_answers : Cond.laysFinal RX0 "ExamScales" "answers" "[I" ∈ lw_tbl := List.mem_append_right _ (show _ ∈ tables_1_1 ++ (tables_1_2 ++ tables_1_3) from List.mem_append_left _ (List.mem_of_getElem? (i := 61) (by decide +kernel)))
set_option maxRecDepth 20000 in
theorem tL_RX0_told : Cond.laysFinal RX0 "ExamScales" "told" "[I" ∈ lw_tbl := List.mem_append_right _ (show _ ∈ tables_1_1 ++ (tables_1_2 ++ tables_1_3) from List.mem_append_left _ (List.mem_of_getElem? (i := 63) (by decide +kernel)))
set_option maxRecDepth 20000 in
theorem tL_RX0_values : Cond.laysFinal RX0 "ExamScales" "values" "[I" ∈ lw_tbl := List.mem_append_right _ (show _ ∈ tables_1_1 ++ (tables_1_2 ++ tables_1_3) from List.mem_append_left _ (List.mem_of_getElem? (i := 65) (by decide +kernel)))
set_option maxRecDepth 20000 in
theorem tL_RX0_cameAt : Cond.laysFinal RX0 "ExamScales" "cameAt" "[I" ∈ lw_tbl := List.mem_append_right _ (show _ ∈ tables_1_1 ++ (tables_1_2 ++ tables_1_3) from List.mem_append_left _ (List.mem_of_getElem? (i := 67) (by decide +kernel)))
set_option maxRecDepth 20000 in
theorem tL_RX0_fullAt : Cond.laysFinal RX0 "ExamScales" "fullAt" "[I" ∈ lw_tbl := List.mem_append_right _ (show _ ∈ tables_1_1 ++ (tables_1_2 ++ tables_1_3) from List.mem_append_left _ (List.mem_of_getElem? (i := 69) (by decide +kernel)))
set_option maxRecDepth 20000 in
theorem tA_int : Cond.arrayClass (.int) ∈ lw_tbl := List.mem_append_right _ (show _ ∈ tables_1_1 ++ (tables_1_2 ++ tables_1_3) from List.mem_append_left _ (List.mem_of_getElem? (i := 72) (by decide +kernel)))
set_option maxRecDepth 20000 in
theorem tM_RL_13 : Cond.methodLink RL 13 yX0_question ∈ lw_tbl := List.mem_append_right _ (show _ ∈ tables_1_1 ++ (tables_1_2 ++ tables_1_3) from List.mem_append_left _ (List.mem_of_getElem? (i := 73) (by decide +kernel)))
set_option maxRecDepth 20000 in
theorem tV_yX0_question : Cond.instanceMethod yX0_question ∈ lw_tbl := List.mem_append_right _ (show _ ∈ tables_1_1 ++ (tables_1_2 ++ tables_1_3) from List.mem_append_left _ (List.mem_of_getElem? (i := 74) (by decide +kernel)))
set_option maxRecDepth 20000 in
theorem tP_yX0_question : Cond.selects yX0_question.cls yX0_question yX0_question ∈ lw_tbl := List.mem_append_right _ (show _ ∈ tables_1_1 ++ (tables_1_2 ++ tables_1_3) from List.mem_append_left _ (List.mem_of_getElem? (i := 75) (by decide +kernel)))
set_option maxRecDepth 20000 in
theorem tK_yX0_question : Cond.code yX0_question cX0_question 5 (Option.some Jvm.ClassFile.FieldType.int) ∈ lw_tbl := List.mem_append_right _ (show _ ∈ tables_1_1 ++ (tables_1_2 ++ tables_1_3) from List.mem_append_left _ (List.mem_of_getElem? (i := 76) rfl))
set_option maxRecDepth 20000 in
theorem tM_RX0_57 : Cond.methodLink RX0 57 yX0_isKey ∈ lw_tbl := List.mem_append_right _ (show _ ∈ tables_1_1 ++ (tables_1_2 ++ tables_1_3) from List.mem_append_left _ (List.mem_of_getElem? (i := 77) (by decide +kernel)))
set_option maxRecDepth 20000 in
theorem tS_yX0_isKey : Cond.static yX0_isKey ∈ lw_tbl := List.mem_append_right _ (show _ ∈ tables_1_1 ++ (tables_1_2 ++ tables_1_3) from List.mem_append_left _ (List.mem_of_getElem? (i := 78) (by decide +kernel)))
set_option maxRecDepth 20000 in
theorem tK_yX0_isKey : Cond.code yX0_isKey cX0_isKey 1 (Option.some Jvm.ClassFile.FieldType.boolean) ∈ lw_tbl := List.mem_append_right _ (show _ ∈ tables_1_1 ++ (tables_1_2 ++ tables_1_3) from List.mem_append_left _ (List.mem_of_getElem? (i := 79) rfl))
set_option maxRecDepth 20000 in
theorem tM_RL_18 : Cond.methodLink RL 18 yX0_key ∈ lw_tbl := List.mem_append_right _ (show _ ∈ tables_1_1 ++ (tables_1_2 ++ tables_1_3) from List.mem_append_left _ (List.mem_of_getElem? (i := 80) (by decide +kernel)))
set_option maxRecDepth 20000 in
theorem tV_yX0_key : Cond.instanceMethod yX0_key ∈ lw_tbl := List.mem_append_right _ (show _ ∈ tables_1_1 ++ (tables_1_2 ++ tables_1_3) from List.mem_append_left _ (List.mem_of_getElem? (i := 81) (by decide +kernel)))
set_option maxRecDepth 20000 in
theorem tP_yX0_key : Cond.selects yX0_key.cls yX0_key yX0_key ∈ lw_tbl := List.mem_append_right _ (show _ ∈ tables_1_1 ++ (tables_1_2 ++ tables_1_3) from List.mem_append_left _ (List.mem_of_getElem? (i := 82) (by decide +kernel)))
set_option maxRecDepth 20000 in
theorem tK_yX0_key : Cond.code yX0_key cX0_key 4 (Option.some Jvm.ClassFile.FieldType.int) ∈ lw_tbl := List.mem_append_right _ (show _ ∈ tables_1_1 ++ (tables_1_2 ++ tables_1_3) from List.mem_append_left _ (List.mem_of_getElem? (i := 83) rfl))
set_option maxRecDepth 20000 in
theorem tM_RX0_68 : Cond.methodLink RX0 68 yX0_isQuestion ∈ lw_tbl := List.mem_append_right _ (show _ ∈ tables_1_1 ++ (tables_1_2 ++ tables_1_3) from List.mem_append_left _ (List.mem_of_getElem? (i := 84) (by decide +kernel)))
set_option maxRecDepth 20000 in
theorem tV_yX0_isQuestion : Cond.instanceMethod yX0_isQuestion ∈ lw_tbl := List.mem_append_right _ (show _ ∈ tables_1_1 ++ (tables_1_2 ++ tables_1_3) from List.mem_append_left _ (List.mem_of_getElem? (i := 86) (by decide +kernel)))
set_option maxRecDepth 20000 in
theorem tK_yX0_isQuestion : Cond.code yX0_isQuestion cX0_isQuestion 2 (Option.some Jvm.ClassFile.FieldType.boolean) ∈ lw_tbl := List.mem_append_right _ (show _ ∈ tables_1_1 ++ (tables_1_2 ++ tables_1_3) from List.mem_append_left _ (List.mem_of_getElem? (i := 87) rfl))
set_option maxRecDepth 20000 in
theorem tM_RL_23 : Cond.methodLink RL 23 yX0_strike ∈ lw_tbl := List.mem_append_right _ (show _ ∈ tables_1_1 ++ (tables_1_2 ++ tables_1_3) from List.mem_append_left _ (List.mem_of_getElem? (i := 88) (by decide +kernel)))
set_option maxRecDepth 20000 in
theorem tV_yX0_strike : Cond.instanceMethod yX0_strike ∈ lw_tbl := List.mem_append_right _ (show _ ∈ tables_1_1 ++ (tables_1_2 ++ tables_1_3) from List.mem_append_left _ (List.mem_of_getElem? (i := 89) (by decide +kernel)))
set_option maxRecDepth 20000 in
theorem tP_yX0_strike : Cond.selects yX0_strike.cls yX0_strike yX0_strike ∈ lw_tbl := List.mem_append_right _ (show _ ∈ tables_1_1 ++ (tables_1_2 ++ tables_1_3) from List.mem_append_left _ (List.mem_of_getElem? (i := 90) (by decide +kernel)))
set_option maxRecDepth 20000 in
theorem tK_yX0_strike : Cond.code yX0_strike cX0_strike 4 (Option.some Jvm.ClassFile.FieldType.int) ∈ lw_tbl := List.mem_append_right _ (show _ ∈ tables_1_1 ++ (tables_1_2 ++ tables_1_3) from List.mem_append_left _ (List.mem_of_getElem? (i := 91) rfl))
set_option maxRecDepth 20000 in
theorem tM_RX0_74 : Cond.methodLink RX0 74 yX0_isIn ∈ lw_tbl := List.mem_append_right _ (show _ ∈ tables_1_1 ++ (tables_1_2 ++ tables_1_3) from List.mem_append_left _ (List.mem_of_getElem? (i := 92) (by decide +kernel)))
set_option maxRecDepth 20000 in
theorem tS_yX0_isIn : Cond.static yX0_isIn ∈ lw_tbl := List.mem_append_right _ (show _ ∈ tables_1_1 ++ (tables_1_2 ++ tables_1_3) from List.mem_append_left _ (List.mem_of_getElem? (i := 93) (by decide +kernel)))
set_option maxRecDepth 20000 in
theorem tK_yX0_isIn : Cond.code yX0_isIn cX0_isIn 2 (Option.some Jvm.ClassFile.FieldType.boolean) ∈ lw_tbl := List.mem_append_right _ (show _ ∈ tables_1_1 ++ (tables_1_2 ++ tables_1_3) from List.mem_append_left _ (List.mem_of_getElem? (i := 94) rfl))
set_option maxRecDepth 20000 in
theorem tM_RL_27 : Cond.methodLink RL 27 yX0_paper ∈ lw_tbl := List.mem_append_right _ (show _ ∈ tables_1_1 ++ (tables_1_2 ++ tables_1_3) from List.mem_append_left _ (List.mem_of_getElem? (i := 95) (by decide +kernel)))
set_option maxRecDepth 20000 in
theorem tV_yX0_paper : Cond.instanceMethod yX0_paper ∈ lw_tbl := List.mem_append_right _ (show _ ∈ tables_1_1 ++ (tables_1_2 ++ tables_1_3) from List.mem_append_left _ (List.mem_of_getElem? (i := 96) (by decide +kernel)))
set_option maxRecDepth 20000 in
theorem tP_yX0_paper : Cond.selects yX0_paper.cls yX0_paper yX0_paper ∈ lw_tbl := List.mem_append_right _ (show _ ∈ tables_1_1 ++ (tables_1_2 ++ tables_1_3) from List.mem_append_left _ (List.mem_of_getElem? (i := 97) (by decide +kernel)))
set_option maxRecDepth 20000 in
theorem tK_yX0_paper : Cond.code yX0_paper cX0_paper 2 (Option.some Jvm.ClassFile.FieldType.int) ∈ lw_tbl := List.mem_append_right _ (show _ ∈ tables_1_1 ++ (tables_1_2 ++ tables_1_3) from List.mem_append_left _ (List.mem_of_getElem? (i := 98) rfl))
set_option maxRecDepth 20000 in
theorem tM_RL_32 : Cond.methodLink RL 32 yX0_put ∈ lw_tbl := List.mem_append_right _ (show _ ∈ tables_1_1 ++ (tables_1_2 ++ tables_1_3) from List.mem_append_left _ (List.mem_of_getElem? (i := 99) (by decide +kernel)))
set_option maxRecDepth 20000 in
theorem tV_yX0_put : Cond.instanceMethod yX0_put ∈ lw_tbl := List.mem_append_right _ (show _ ∈ tables_1_1 ++ (tables_1_2 ++ tables_1_3) from List.mem_append_left _ (List.mem_of_getElem? (i := 100) (by decide +kernel)))
set_option maxRecDepth 20000 in
theorem tP_yX0_put : Cond.selects yX0_put.cls yX0_put yX0_put ∈ lw_tbl := List.mem_append_right _ (show _ ∈ tables_1_1 ++ (tables_1_2 ++ tables_1_3) from List.mem_append_left _ (List.mem_of_getElem? (i := 101) (by decide +kernel)))
set_option maxRecDepth 20000 in
theorem tK_yX0_put : Cond.code yX0_put cX0_put 4 (Option.some Jvm.ClassFile.FieldType.int) ∈ lw_tbl := List.mem_append_right _ (show _ ∈ tables_1_1 ++ (tables_1_2 ++ tables_1_3) from List.mem_append_left _ (List.mem_of_getElem? (i := 102) rfl))
set_option maxRecDepth 20000 in
theorem tM_RX0_81 : Cond.methodLink RX0 81 yX0_isPaper ∈ lw_tbl := List.mem_append_right _ (show _ ∈ tables_1_1 ++ (tables_1_2 ++ tables_1_3) from List.mem_append_left _ (List.mem_of_getElem? (i := 103) (by decide +kernel)))
set_option maxRecDepth 20000 in
theorem tV_yX0_isPaper : Cond.instanceMethod yX0_isPaper ∈ lw_tbl := List.mem_append_right _ (show _ ∈ tables_1_1 ++ (tables_1_2 ++ tables_1_3) from List.mem_append_left _ (List.mem_of_getElem? (i := 105) (by decide +kernel)))
set_option maxRecDepth 20000 in
theorem tK_yX0_isPaper : Cond.code yX0_isPaper cX0_isPaper 2 (Option.some Jvm.ClassFile.FieldType.boolean) ∈ lw_tbl := List.mem_append_right _ (show _ ∈ tables_1_1 ++ (tables_1_2 ++ tables_1_3) from List.mem_append_left _ (List.mem_of_getElem? (i := 106) rfl))
set_option maxRecDepth 20000 in
theorem tM_RX0_84 : Cond.methodLink RX0 84 yX0_hasPupil ∈ lw_tbl := List.mem_append_right _ (show _ ∈ tables_1_1 ++ (tables_1_2 ++ tables_1_3) from List.mem_append_left _ (List.mem_of_getElem? (i := 107) (by decide +kernel)))
set_option maxRecDepth 20000 in
theorem tV_yX0_hasPupil : Cond.instanceMethod yX0_hasPupil ∈ lw_tbl := List.mem_append_right _ (show _ ∈ tables_1_1 ++ (tables_1_2 ++ tables_1_3) from List.mem_append_left _ (List.mem_of_getElem? (i := 109) (by decide +kernel)))
set_option maxRecDepth 20000 in
theorem tK_yX0_hasPupil : Cond.code yX0_hasPupil cX0_hasPupil 3 (Option.some Jvm.ClassFile.FieldType.boolean) ∈ lw_tbl := List.mem_append_right _ (show _ ∈ tables_1_1 ++ (tables_1_2 ++ tables_1_3) from List.mem_append_left _ (List.mem_of_getElem? (i := 110) rfl))
set_option maxRecDepth 20000 in
theorem tM_RL_36 : Cond.methodLink RL 36 yX0_at ∈ lw_tbl := List.mem_append_right _ (show _ ∈ tables_1_1 ++ (tables_1_2 ++ tables_1_3) from List.mem_append_left _ (List.mem_of_getElem? (i := 111) (by decide +kernel)))
set_option maxRecDepth 20000 in
theorem tV_yX0_at : Cond.instanceMethod yX0_at ∈ lw_tbl := List.mem_append_right _ (show _ ∈ tables_1_1 ++ (tables_1_2 ++ tables_1_3) from List.mem_append_left _ (List.mem_of_getElem? (i := 112) (by decide +kernel)))
set_option maxRecDepth 20000 in
theorem tP_yX0_at : Cond.selects yX0_at.cls yX0_at yX0_at ∈ lw_tbl := List.mem_append_right _ (show _ ∈ tables_1_1 ++ (tables_1_2 ++ tables_1_3) from List.mem_append_left _ (List.mem_of_getElem? (i := 113) (by decide +kernel)))
set_option maxRecDepth 20000 in
theorem tK_yX0_at : Cond.code yX0_at cX0_at 3 (Option.some Jvm.ClassFile.FieldType.int) ∈ lw_tbl := List.mem_append_right _ (show _ ∈ tables_1_1 ++ (tables_1_2 ++ tables_1_3) from List.mem_append_left _ (List.mem_of_getElem? (i := 114) rfl))
set_option maxRecDepth 20000 in
theorem tM_RL_40 : Cond.methodLink RL 40 yX0_pupil ∈ lw_tbl := List.mem_append_right _ (show _ ∈ tables_1_1 ++ (tables_1_2 ++ tables_1_3) from List.mem_append_left _ (List.mem_of_getElem? (i := 115) (by decide +kernel)))
set_option maxRecDepth 20000 in
theorem tV_yX0_pupil : Cond.instanceMethod yX0_pupil ∈ lw_tbl := List.mem_append_right _ (show _ ∈ tables_1_1 ++ (tables_1_2 ++ tables_1_3) from List.mem_append_left _ (List.mem_of_getElem? (i := 116) (by decide +kernel)))
set_option maxRecDepth 20000 in
theorem tP_yX0_pupil : Cond.selects yX0_pupil.cls yX0_pupil yX0_pupil ∈ lw_tbl := List.mem_append_right _ (show _ ∈ tables_1_1 ++ (tables_1_2 ++ tables_1_3) from List.mem_append_left _ (List.mem_of_getElem? (i := 117) (by decide +kernel)))
set_option maxRecDepth 20000 in
theorem tK_yX0_pupil : Cond.code yX0_pupil cX0_pupil 4 (Option.some Jvm.ClassFile.FieldType.int) ∈ lw_tbl := List.mem_append_right _ (show _ ∈ tables_1_1 ++ (tables_1_2 ++ tables_1_3) from List.mem_append_left _ (List.mem_of_getElem? (i := 118) rfl))
set_option maxRecDepth 20000 in
theorem tM_RX0_87 : Cond.methodLink RX0 87 yX0_isPlace ∈ lw_tbl := List.mem_append_right _ (show _ ∈ tables_1_1 ++ (tables_1_2 ++ tables_1_3) from List.mem_append_left _ (List.mem_of_getElem? (i := 119) (by decide +kernel)))
set_option maxRecDepth 20000 in
theorem tS_yX0_isPlace : Cond.static yX0_isPlace ∈ lw_tbl := List.mem_append_right _ (show _ ∈ tables_1_1 ++ (tables_1_2 ++ tables_1_3) from List.mem_append_left _ (List.mem_of_getElem? (i := 120) (by decide +kernel)))
set_option maxRecDepth 20000 in
theorem tK_yX0_isPlace : Cond.code yX0_isPlace cX0_isPlace 1 (Option.some Jvm.ClassFile.FieldType.boolean) ∈ lw_tbl := List.mem_append_right _ (show _ ∈ tables_1_1 ++ (tables_1_2 ++ tables_1_3) from List.mem_append_left _ (List.mem_of_getElem? (i := 121) rfl))
set_option maxRecDepth 20000 in
theorem tM_RL_44 : Cond.methodLink RL 44 yX0_answer ∈ lw_tbl := List.mem_append_right _ (show _ ∈ tables_1_1 ++ (tables_1_2 ++ tables_1_3) from List.mem_append_left _ (List.mem_of_getElem? (i := 122) (by decide +kernel)))
set_option maxRecDepth 20000 in
theorem tV_yX0_answer : Cond.instanceMethod yX0_answer ∈ lw_tbl := List.mem_append_right _ (show _ ∈ tables_1_1 ++ (tables_1_2 ++ tables_1_3) from List.mem_append_left _ (List.mem_of_getElem? (i := 123) (by decide +kernel)))
set_option maxRecDepth 20000 in
theorem tP_yX0_answer : Cond.selects yX0_answer.cls yX0_answer yX0_answer ∈ lw_tbl := List.mem_append_right _ (show _ ∈ tables_1_1 ++ (tables_1_2 ++ tables_1_3) from List.mem_append_left _ (List.mem_of_getElem? (i := 124) (by decide +kernel)))
set_option maxRecDepth 20000 in
theorem tK_yX0_answer : Cond.code yX0_answer cX0_answer 5 (Option.some Jvm.ClassFile.FieldType.int) ∈ lw_tbl := List.mem_append_right _ (show _ ∈ tables_1_1 ++ (tables_1_2 ++ tables_1_3) from List.mem_append_left _ (List.mem_of_getElem? (i := 125) rfl))
set_option maxRecDepth 20000 in
theorem tM_RX0_93 : Cond.methodLink RX0 93 yX0_spotFor ∈ lw_tbl := List.mem_append_right _ (show _ ∈ tables_1_1 ++ (tables_1_2 ++ tables_1_3) from List.mem_append_left _ (List.mem_of_getElem? (i := 126) (by decide +kernel)))
set_option maxRecDepth 20000 in
theorem tV_yX0_spotFor : Cond.instanceMethod yX0_spotFor ∈ lw_tbl := List.mem_append_right _ (show _ ∈ tables_1_1 ++ (tables_1_2 ++ tables_1_3) from List.mem_append_left _ (List.mem_of_getElem? (i := 128) (by decide +kernel)))
set_option maxRecDepth 20000 in
theorem tK_yX0_spotFor : Cond.code yX0_spotFor cX0_spotFor 3 (Option.some Jvm.ClassFile.FieldType.int) ∈ lw_tbl := List.mem_append_right _ (show _ ∈ tables_1_1 ++ (tables_1_2 ++ tables_1_3) from List.mem_append_left _ (List.mem_of_getElem? (i := 129) rfl))
set_option maxRecDepth 20000 in
theorem tM_RX0_103 : Cond.methodLink RX0 103 yX0_isPupil ∈ lw_tbl := List.mem_append_right _ (show _ ∈ tables_1_1 ++ (tables_1_2 ++ tables_1_3) from List.mem_append_left _ (List.mem_of_getElem? (i := 130) (by decide +kernel)))
set_option maxRecDepth 20000 in
theorem tV_yX0_isPupil : Cond.instanceMethod yX0_isPupil ∈ lw_tbl := List.mem_append_right _ (show _ ∈ tables_1_1 ++ (tables_1_2 ++ tables_1_3) from List.mem_append_left _ (List.mem_of_getElem? (i := 132) (by decide +kernel)))
set_option maxRecDepth 20000 in
theorem tK_yX0_isPupil : Cond.code yX0_isPupil cX0_isPupil 2 (Option.some Jvm.ClassFile.FieldType.boolean) ∈ lw_tbl := List.mem_append_right _ (show _ ∈ tables_1_1 ++ (tables_1_2 ++ tables_1_3) from List.mem_append_left _ (List.mem_of_getElem? (i := 133) rfl))
set_option maxRecDepth 20000 in
theorem tM_RX0_178 : Cond.methodLink RX0 178 yX0_spotOf ∈ lw_tbl := List.mem_append_right _ (show _ ∈ tables_1_1 ++ (tables_1_2 ++ tables_1_3) from List.mem_append_left _ (List.mem_of_getElem? (i := 134) (by decide +kernel)))
set_option maxRecDepth 20000 in
theorem tV_yX0_spotOf : Cond.instanceMethod yX0_spotOf ∈ lw_tbl := List.mem_append_right _ (show _ ∈ tables_1_1 ++ (tables_1_2 ++ tables_1_3) from List.mem_append_left _ (List.mem_of_getElem? (i := 136) (by decide +kernel)))
set_option maxRecDepth 20000 in
theorem tK_yX0_spotOf : Cond.code yX0_spotOf cX0_spotOf 4 (Option.some Jvm.ClassFile.FieldType.int) ∈ lw_tbl := List.mem_append_right _ (show _ ∈ tables_1_1 ++ (tables_1_2 ++ tables_1_3) from List.mem_append_left _ (List.mem_of_getElem? (i := 137) rfl))
set_option maxRecDepth 20000 in
theorem tM_RX0_97 : Cond.methodLink RX0 97 yX0_isAnswer ∈ lw_tbl := List.mem_append_right _ (show _ ∈ tables_1_1 ++ (tables_1_2 ++ tables_1_3) from List.mem_append_left _ (List.mem_of_getElem? (i := 138) (by decide +kernel)))
set_option maxRecDepth 20000 in
theorem tV_yX0_isAnswer : Cond.instanceMethod yX0_isAnswer ∈ lw_tbl := List.mem_append_right _ (show _ ∈ tables_1_1 ++ (tables_1_2 ++ tables_1_3) from List.mem_append_left _ (List.mem_of_getElem? (i := 140) (by decide +kernel)))
set_option maxRecDepth 20000 in
theorem tK_yX0_isAnswer : Cond.code yX0_isAnswer cX0_isAnswer 4 (Option.some Jvm.ClassFile.FieldType.boolean) ∈ lw_tbl := List.mem_append_right _ (show _ ∈ tables_1_1 ++ (tables_1_2 ++ tables_1_3) from List.mem_append_left _ (List.mem_of_getElem? (i := 141) rfl))
set_option maxRecDepth 20000 in
theorem tM_RX0_100 : Cond.methodLink RX0 100 yX0_worth ∈ lw_tbl := List.mem_append_right _ (show _ ∈ tables_1_1 ++ (tables_1_2 ++ tables_1_3) from List.mem_append_left _ (List.mem_of_getElem? (i := 142) (by decide +kernel)))
set_option maxRecDepth 20000 in
theorem tV_yX0_worth : Cond.instanceMethod yX0_worth ∈ lw_tbl := List.mem_append_right _ (show _ ∈ tables_1_1 ++ (tables_1_2 ++ tables_1_3) from List.mem_append_left _ (List.mem_of_getElem? (i := 144) (by decide +kernel)))
set_option maxRecDepth 20000 in
theorem tK_yX0_worth : Cond.code yX0_worth cX0_worth 3 (Option.some Jvm.ClassFile.FieldType.int) ∈ lw_tbl := List.mem_append_right _ (show _ ∈ tables_1_1 ++ (tables_1_2 ++ tables_1_3) from List.mem_append_left _ (List.mem_of_getElem? (i := 145) rfl))
set_option maxRecDepth 20000 in
theorem tM_RX0_206 : Cond.methodLink RX0 206 yX0_stepsInRow ∈ lw_tbl := List.mem_append_right _ (show _ ∈ tables_1_1 ++ (tables_1_2 ++ tables_1_3) from List.mem_append_left _ (List.mem_of_getElem? (i := 146) (by decide +kernel)))
set_option maxRecDepth 20000 in
theorem tS_yX0_stepsInRow : Cond.static yX0_stepsInRow ∈ lw_tbl := List.mem_append_right _ (show _ ∈ tables_1_1 ++ (tables_1_2 ++ tables_1_3) from List.mem_append_left _ (List.mem_of_getElem? (i := 147) (by decide +kernel)))
set_option maxRecDepth 20000 in
theorem tK_yX0_stepsInRow : Cond.code yX0_stepsInRow cX0_stepsInRow 2 (Option.some Jvm.ClassFile.FieldType.int) ∈ lw_tbl := List.mem_append_right _ (show _ ∈ tables_1_1 ++ (tables_1_2 ++ tables_1_3) from List.mem_append_left _ (List.mem_of_getElem? (i := 148) rfl))
set_option maxRecDepth 20000 in
theorem tM_RL_48 : Cond.methodLink RL 48 yX0_gap ∈ lw_tbl := List.mem_append_right _ (show _ ∈ tables_1_1 ++ (tables_1_2 ++ tables_1_3) from List.mem_append_left _ (List.mem_of_getElem? (i := 149) (by decide +kernel)))
set_option maxRecDepth 20000 in
theorem tV_yX0_gap : Cond.instanceMethod yX0_gap ∈ lw_tbl := List.mem_append_right _ (show _ ∈ tables_1_1 ++ (tables_1_2 ++ tables_1_3) from List.mem_append_left _ (List.mem_of_getElem? (i := 150) (by decide +kernel)))
set_option maxRecDepth 20000 in
theorem tP_yX0_gap : Cond.selects yX0_gap.cls yX0_gap yX0_gap ∈ lw_tbl := List.mem_append_right _ (show _ ∈ tables_1_1 ++ (tables_1_2 ++ tables_1_3) from List.mem_append_left _ (List.mem_of_getElem? (i := 151) (by decide +kernel)))
set_option maxRecDepth 20000 in
theorem tK_yX0_gap : Cond.code yX0_gap cX0_gap 5 (Option.some Jvm.ClassFile.FieldType.int) ∈ lw_tbl := List.mem_append_right _ (show _ ∈ tables_1_1 ++ (tables_1_2 ++ tables_1_3) from List.mem_append_left _ (List.mem_of_getElem? (i := 152) rfl))
set_option maxRecDepth 20000 in
theorem tM_RL_54 : Cond.methodLink RL 54 yX0_row ∈ lw_tbl := List.mem_append_right _ (show _ ∈ tables_1_1 ++ (tables_1_2 ++ tables_1_3) from List.mem_append_left _ (List.mem_of_getElem? (i := 153) (by decide +kernel)))
set_option maxRecDepth 20000 in
theorem tV_yX0_row : Cond.instanceMethod yX0_row ∈ lw_tbl := List.mem_append_right _ (show _ ∈ tables_1_1 ++ (tables_1_2 ++ tables_1_3) from List.mem_append_left _ (List.mem_of_getElem? (i := 154) (by decide +kernel)))
set_option maxRecDepth 20000 in
theorem tP_yX0_row : Cond.selects yX0_row.cls yX0_row yX0_row ∈ lw_tbl := List.mem_append_right _ (show _ ∈ tables_1_1 ++ (tables_1_2 ++ tables_1_3) from List.mem_append_left _ (List.mem_of_getElem? (i := 155) (by decide +kernel)))
set_option maxRecDepth 20000 in
theorem tK_yX0_row : Cond.code yX0_row cX0_row 9 (Option.some Jvm.ClassFile.FieldType.int) ∈ lw_tbl := List.mem_append_right _ (show _ ∈ tables_1_1 ++ (tables_1_2 ++ tables_1_3) from List.mem_append_left _ (List.mem_of_getElem? (i := 156) rfl))
set_option maxRecDepth 20000 in
theorem tM_RX0_106 : Cond.methodLink RX0 106 yJ9_min_7cf53 ∈ lw_tbl := List.mem_append_right _ (show _ ∈ tables_1_1 ++ (tables_1_2 ++ tables_1_3) from List.mem_append_left _ (List.mem_of_getElem? (i := 157) (by decide +kernel)))
set_option maxRecDepth 20000 in
theorem tS_yJ9_min_7cf53 : Cond.static yJ9_min_7cf53 ∈ lw_tbl := List.mem_append_right _ (show _ ∈ tables_1_1 ++ (tables_1_2 ++ tables_1_3) from List.mem_append_left _ (List.mem_of_getElem? (i := 158) (by decide +kernel)))
set_option maxRecDepth 20000 in
theorem tK_yJ9_min_7cf53 : Cond.code yJ9_min_7cf53 cJ9_min_7cf53 2 (Option.some Jvm.ClassFile.FieldType.int) ∈ lw_tbl := List.mem_append_right _ (show _ ∈ tables_1_1 ++ (tables_1_2 ++ tables_1_3) from List.mem_append_left _ (List.mem_of_getElem? (i := 159) rfl))
set_option maxRecDepth 20000 in
theorem tM_RL_59 : Cond.methodLink RL 59 yX0_mark ∈ lw_tbl := List.mem_append_right _ (show _ ∈ tables_1_1 ++ (tables_1_2 ++ tables_1_3) from List.mem_append_left _ (List.mem_of_getElem? (i := 160) (by decide +kernel)))
set_option maxRecDepth 20000 in
theorem tV_yX0_mark : Cond.instanceMethod yX0_mark ∈ lw_tbl := List.mem_append_right _ (show _ ∈ tables_1_1 ++ (tables_1_2 ++ tables_1_3) from List.mem_append_left _ (List.mem_of_getElem? (i := 161) (by decide +kernel)))
set_option maxRecDepth 20000 in
theorem tP_yX0_mark : Cond.selects yX0_mark.cls yX0_mark yX0_mark ∈ lw_tbl := List.mem_append_right _ (show _ ∈ tables_1_1 ++ (tables_1_2 ++ tables_1_3) from List.mem_append_left _ (List.mem_of_getElem? (i := 162) (by decide +kernel)))
set_option maxRecDepth 20000 in
theorem tK_yX0_mark : Cond.code yX0_mark cX0_mark 4 (Option.some Jvm.ClassFile.FieldType.int) ∈ lw_tbl := List.mem_append_right _ (show _ ∈ tables_1_1 ++ (tables_1_2 ++ tables_1_3) from List.mem_append_left _ (List.mem_of_getElem? (i := 163) rfl))
set_option maxRecDepth 20000 in
theorem tM_RX0_111 : Cond.methodLink RX0 111 yX0_markAt ∈ lw_tbl := List.mem_append_right _ (show _ ∈ tables_1_1 ++ (tables_1_2 ++ tables_1_3) from List.mem_append_left _ (List.mem_of_getElem? (i := 164) (by decide +kernel)))
set_option maxRecDepth 20000 in
theorem tV_yX0_markAt : Cond.instanceMethod yX0_markAt ∈ lw_tbl := List.mem_append_right _ (show _ ∈ tables_1_1 ++ (tables_1_2 ++ tables_1_3) from List.mem_append_left _ (List.mem_of_getElem? (i := 166) (by decide +kernel)))
set_option maxRecDepth 20000 in
theorem tK_yX0_markAt : Cond.code yX0_markAt cX0_markAt 4 (Option.some Jvm.ClassFile.FieldType.int) ∈ lw_tbl := List.mem_append_right _ (show _ ∈ tables_1_1 ++ (tables_1_2 ++ tables_1_3) from List.mem_append_left _ (List.mem_of_getElem? (i := 167) rfl))
set_option maxRecDepth 20000 in
theorem tM_RL_63 : Cond.methodLink RL 63 yX0_come ∈ lw_tbl := List.mem_append_right _ (show _ ∈ tables_1_1 ++ (tables_1_2 ++ tables_1_3) from List.mem_append_left _ (List.mem_of_getElem? (i := 168) (by decide +kernel)))
set_option maxRecDepth 20000 in
theorem tV_yX0_come : Cond.instanceMethod yX0_come ∈ lw_tbl := List.mem_append_right _ (show _ ∈ tables_1_1 ++ (tables_1_2 ++ tables_1_3) from List.mem_append_left _ (List.mem_of_getElem? (i := 169) (by decide +kernel)))
set_option maxRecDepth 20000 in
theorem tP_yX0_come : Cond.selects yX0_come.cls yX0_come yX0_come ∈ lw_tbl := List.mem_append_right _ (show _ ∈ tables_1_1 ++ (tables_1_2 ++ tables_1_3) from List.mem_append_left _ (List.mem_of_getElem? (i := 170) (by decide +kernel)))
set_option maxRecDepth 20000 in
theorem tK_yX0_come : Cond.code yX0_come cX0_come 4 (Option.some Jvm.ClassFile.FieldType.int) ∈ lw_tbl := List.mem_append_right _ (show _ ∈ tables_1_1 ++ (tables_1_2 ++ tables_1_3) from List.mem_append_left _ (List.mem_of_getElem? (i := 171) rfl))
set_option maxRecDepth 20000 in
theorem tM_RX0_114 : Cond.methodLink RX0 114 yX0_hasComeTo ∈ lw_tbl := List.mem_append_right _ (show _ ∈ tables_1_1 ++ (tables_1_2 ++ tables_1_3) from List.mem_append_left _ (List.mem_of_getElem? (i := 172) (by decide +kernel)))
set_option maxRecDepth 20000 in
theorem tV_yX0_hasComeTo : Cond.instanceMethod yX0_hasComeTo ∈ lw_tbl := List.mem_append_right _ (show _ ∈ tables_1_1 ++ (tables_1_2 ++ tables_1_3) from List.mem_append_left _ (List.mem_of_getElem? (i := 174) (by decide +kernel)))
set_option maxRecDepth 20000 in
theorem tK_yX0_hasComeTo : Cond.code yX0_hasComeTo cX0_hasComeTo 5 (Option.some Jvm.ClassFile.FieldType.boolean) ∈ lw_tbl := List.mem_append_right _ (show _ ∈ tables_1_1 ++ (tables_1_2 ++ tables_1_3) from List.mem_append_left _ (List.mem_of_getElem? (i := 175) rfl))
set_option maxRecDepth 20000 in
theorem tM_RL_67 : Cond.methodLink RL 67 yX0_total ∈ lw_tbl := List.mem_append_right _ (show _ ∈ tables_1_1 ++ (tables_1_2 ++ tables_1_3) from List.mem_append_left _ (List.mem_of_getElem? (i := 176) (by decide +kernel)))
set_option maxRecDepth 20000 in
theorem tV_yX0_total : Cond.instanceMethod yX0_total ∈ lw_tbl := List.mem_append_right _ (show _ ∈ tables_1_1 ++ (tables_1_2 ++ tables_1_3) from List.mem_append_left _ (List.mem_of_getElem? (i := 177) (by decide +kernel)))
set_option maxRecDepth 20000 in
theorem tP_yX0_total : Cond.selects yX0_total.cls yX0_total yX0_total ∈ lw_tbl := List.mem_append_right _ (show _ ∈ tables_1_1 ++ (tables_1_2 ++ tables_1_3) from List.mem_append_left _ (List.mem_of_getElem? (i := 178) (by decide +kernel)))
set_option maxRecDepth 20000 in
theorem tK_yX0_total : Cond.code yX0_total cX0_total 2 (Option.some Jvm.ClassFile.FieldType.int) ∈ lw_tbl := List.mem_append_right _ (show _ ∈ tables_1_1 ++ (tables_1_2 ++ tables_1_3) from List.mem_append_left _ (List.mem_of_getElem? (i := 179) rfl))
set_option maxRecDepth 20000 in
theorem tM_RX0_117 : Cond.methodLink RX0 117 yX0_countingSet ∈ lw_tbl := List.mem_append_right _ (show _ ∈ tables_1_1 ++ (tables_1_2 ++ tables_1_3) from List.mem_append_left _ (List.mem_of_getElem? (i := 180) (by decide +kernel)))
set_option maxRecDepth 20000 in
theorem tV_yX0_countingSet : Cond.instanceMethod yX0_countingSet ∈ lw_tbl := List.mem_append_right _ (show _ ∈ tables_1_1 ++ (tables_1_2 ++ tables_1_3) from List.mem_append_left _ (List.mem_of_getElem? (i := 182) (by decide +kernel)))
set_option maxRecDepth 20000 in
theorem tK_yX0_countingSet : Cond.code yX0_countingSet cX0_countingSet 1 (Option.some Jvm.ClassFile.FieldType.int) ∈ lw_tbl := List.mem_append_right _ (show _ ∈ tables_1_1 ++ (tables_1_2 ++ tables_1_3) from List.mem_append_left _ (List.mem_of_getElem? (i := 183) rfl))
set_option maxRecDepth 20000 in
theorem tM_RX0_121 : Cond.methodLink RX0 121 yX0_sumOver ∈ lw_tbl := List.mem_append_right _ (show _ ∈ tables_1_1 ++ (tables_1_2 ++ tables_1_3) from List.mem_append_left _ (List.mem_of_getElem? (i := 184) (by decide +kernel)))
set_option maxRecDepth 20000 in
theorem tV_yX0_sumOver : Cond.instanceMethod yX0_sumOver ∈ lw_tbl := List.mem_append_right _ (show _ ∈ tables_1_1 ++ (tables_1_2 ++ tables_1_3) from List.mem_append_left _ (List.mem_of_getElem? (i := 186) (by decide +kernel)))
set_option maxRecDepth 20000 in
theorem tK_yX0_sumOver : Cond.code yX0_sumOver cX0_sumOver 6 (Option.some Jvm.ClassFile.FieldType.int) ∈ lw_tbl := List.mem_append_right _ (show _ ∈ tables_1_1 ++ (tables_1_2 ++ tables_1_3) from List.mem_append_left _ (List.mem_of_getElem? (i := 187) rfl))
set_option maxRecDepth 20000 in
theorem tM_RL_72 : Cond.methodLink RL 72 yX0_easy ∈ lw_tbl := List.mem_append_right _ (show _ ∈ tables_1_1 ++ (tables_1_2 ++ tables_1_3) from List.mem_append_left _ (List.mem_of_getElem? (i := 188) (by decide +kernel)))
set_option maxRecDepth 20000 in
theorem tV_yX0_easy : Cond.instanceMethod yX0_easy ∈ lw_tbl := List.mem_append_right _ (show _ ∈ tables_1_1 ++ (tables_1_2 ++ tables_1_3) from List.mem_append_left _ (List.mem_of_getElem? (i := 189) (by decide +kernel)))
set_option maxRecDepth 20000 in
theorem tP_yX0_easy : Cond.selects yX0_easy.cls yX0_easy yX0_easy ∈ lw_tbl := List.mem_append_right _ (show _ ∈ tables_1_1 ++ (tables_1_2 ++ tables_1_3) from List.mem_append_left _ (List.mem_of_getElem? (i := 190) (by decide +kernel)))
set_option maxRecDepth 20000 in
theorem tK_yX0_easy : Cond.code yX0_easy cX0_easy 9 (Option.some Jvm.ClassFile.FieldType.long) ∈ lw_tbl := List.mem_append_right _ (show _ ∈ tables_1_1 ++ (tables_1_2 ++ tables_1_3) from List.mem_append_left _ (List.mem_of_getElem? (i := 191) rfl))
set_option maxRecDepth 20000 in
theorem tM_RX0_124 : Cond.methodLink RX0 124 yX0_isPart ∈ lw_tbl := List.mem_append_right _ (show _ ∈ tables_1_1 ++ (tables_1_2 ++ tables_1_3) from List.mem_append_left _ (List.mem_of_getElem? (i := 192) (by decide +kernel)))
set_option maxRecDepth 20000 in
theorem tS_yX0_isPart : Cond.static yX0_isPart ∈ lw_tbl := List.mem_append_right _ (show _ ∈ tables_1_1 ++ (tables_1_2 ++ tables_1_3) from List.mem_append_left _ (List.mem_of_getElem? (i := 193) (by decide +kernel)))
set_option maxRecDepth 20000 in
theorem tK_yX0_isPart : Cond.code yX0_isPart cX0_isPart 1 (Option.some Jvm.ClassFile.FieldType.boolean) ∈ lw_tbl := List.mem_append_right _ (show _ ∈ tables_1_1 ++ (tables_1_2 ++ tables_1_3) from List.mem_append_left _ (List.mem_of_getElem? (i := 194) rfl))
set_option maxRecDepth 20000 in
theorem tJ_RX0_127 : Cond.constantLong RX0 127 (-9223372036854775808) ∈ lw_tbl := List.mem_append_right _ (show _ ∈ tables_1_1 ++ (tables_1_2 ++ tables_1_3) from List.mem_append_left _ (List.mem_of_getElem? (i := 195) (by decide +kernel)))
set_option maxRecDepth 20000 in
theorem tM_RX0_129 : Cond.methodLink RX0 129 yX0_spotComeTo ∈ lw_tbl := List.mem_append_right _ (show _ ∈ tables_1_1 ++ (tables_1_2 ++ tables_1_3) from List.mem_append_left _ (List.mem_of_getElem? (i := 196) (by decide +kernel)))
set_option maxRecDepth 20000 in
theorem tV_yX0_spotComeTo : Cond.instanceMethod yX0_spotComeTo ∈ lw_tbl := List.mem_append_right _ (show _ ∈ tables_1_1 ++ (tables_1_2 ++ tables_1_3) from List.mem_append_left _ (List.mem_of_getElem? (i := 198) (by decide +kernel)))
set_option maxRecDepth 20000 in
theorem tK_yX0_spotComeTo : Cond.code yX0_spotComeTo cX0_spotComeTo 4 (Option.some Jvm.ClassFile.FieldType.int) ∈ lw_tbl := List.mem_append_right _ (show _ ∈ tables_1_1 ++ (tables_1_2 ++ tables_1_3) from List.mem_append_left _ (List.mem_of_getElem? (i := 199) rfl))
set_option maxRecDepth 20000 in
theorem tM_RX0_132 : Cond.methodLink RX0 132 yX0_fraction ∈ lw_tbl := List.mem_append_right _ (show _ ∈ tables_1_1 ++ (tables_1_2 ++ tables_1_3) from List.mem_append_left _ (List.mem_of_getElem? (i := 200) (by decide +kernel)))
set_option maxRecDepth 20000 in
theorem tS_yX0_fraction : Cond.static yX0_fraction ∈ lw_tbl := List.mem_append_right _ (show _ ∈ tables_1_1 ++ (tables_1_2 ++ tables_1_3) from List.mem_append_left _ (List.mem_of_getElem? (i := 201) (by decide +kernel)))
set_option maxRecDepth 20000 in
theorem tK_yX0_fraction : Cond.code yX0_fraction cX0_fraction 7 (Option.some Jvm.ClassFile.FieldType.long) ∈ lw_tbl := List.mem_append_right _ (show _ ∈ tables_1_1 ++ (tables_1_2 ++ tables_1_3) from List.mem_append_left _ (List.mem_of_getElem? (i := 202) rfl))
set_option maxRecDepth 20000 in
theorem tM_RX0_189 : Cond.methodLink RX0 189 yJ9_abs_067f4 ∈ lw_tbl := List.mem_append_right _ (show _ ∈ tables_1_1 ++ (tables_1_2 ++ tables_1_3) from List.mem_append_left _ (List.mem_of_getElem? (i := 203) (by decide +kernel)))
set_option maxRecDepth 20000 in
theorem tS_yJ9_abs_067f4 : Cond.static yJ9_abs_067f4 ∈ lw_tbl := List.mem_append_right _ (show _ ∈ tables_1_1 ++ (tables_1_2 ++ tables_1_3) from List.mem_append_left _ (List.mem_of_getElem? (i := 204) (by decide +kernel)))
set_option maxRecDepth 20000 in
theorem tK_yJ9_abs_067f4 : Cond.code yJ9_abs_067f4 cJ9_abs_067f4 2 (Option.some Jvm.ClassFile.FieldType.long) ∈ lw_tbl := List.mem_append_right _ (show _ ∈ tables_1_1 ++ (tables_1_2 ++ tables_1_3) from List.mem_append_left _ (List.mem_of_getElem? (i := 205) rfl))
set_option maxRecDepth 20000 in
theorem tM_RX0_212 : Cond.methodLink RX0 212 yX0_commonDivisor ∈ lw_tbl := List.mem_append_right _ (show _ ∈ tables_1_1 ++ (tables_1_2 ++ tables_1_3) from List.mem_append_left _ (List.mem_of_getElem? (i := 206) (by decide +kernel)))
set_option maxRecDepth 20000 in
theorem tS_yX0_commonDivisor : Cond.static yX0_commonDivisor ∈ lw_tbl := List.mem_append_right _ (show _ ∈ tables_1_1 ++ (tables_1_2 ++ tables_1_3) from List.mem_append_left _ (List.mem_of_getElem? (i := 207) (by decide +kernel)))
set_option maxRecDepth 20000 in
theorem tK_yX0_commonDivisor : Cond.code yX0_commonDivisor cX0_commonDivisor 11 (Option.some Jvm.ClassFile.FieldType.long) ∈ lw_tbl := List.mem_append_right _ (show _ ∈ tables_1_1 ++ (tables_1_2 ++ tables_1_3) from List.mem_append_left _ (List.mem_of_getElem? (i := 208) rfl))
set_option maxRecDepth 20000 in
theorem tM_RL_77 : Cond.methodLink RL 77 yX0_sharp ∈ lw_tbl := List.mem_append_right _ (show _ ∈ tables_1_1 ++ (tables_1_2 ++ tables_1_3) from List.mem_append_left _ (List.mem_of_getElem? (i := 209) (by decide +kernel)))
set_option maxRecDepth 20000 in
theorem tV_yX0_sharp : Cond.instanceMethod yX0_sharp ∈ lw_tbl := List.mem_append_right _ (show _ ∈ tables_1_1 ++ (tables_1_2 ++ tables_1_3) from List.mem_append_left _ (List.mem_of_getElem? (i := 210) (by decide +kernel)))
set_option maxRecDepth 20000 in
theorem tP_yX0_sharp : Cond.selects yX0_sharp.cls yX0_sharp yX0_sharp ∈ lw_tbl := List.mem_append_right _ (show _ ∈ tables_1_1 ++ (tables_1_2 ++ tables_1_3) from List.mem_append_left _ (List.mem_of_getElem? (i := 211) (by decide +kernel)))
set_option maxRecDepth 20000 in
theorem tK_yX0_sharp : Cond.code yX0_sharp cX0_sharp 17 (Option.some Jvm.ClassFile.FieldType.long) ∈ lw_tbl := List.mem_append_right _ (show _ ∈ tables_1_1 ++ (tables_1_2 ++ tables_1_3) from List.mem_append_left _ (List.mem_of_getElem? (i := 212) rfl))
set_option maxRecDepth 20000 in
theorem tM_RL_82 : Cond.methodLink RL 82 yX0_leaky ∈ lw_tbl := List.mem_append_right _ (show _ ∈ tables_1_1 ++ (tables_1_2 ++ tables_1_3) from List.mem_append_left _ (List.mem_of_getElem? (i := 213) (by decide +kernel)))
set_option maxRecDepth 20000 in
theorem tV_yX0_leaky : Cond.instanceMethod yX0_leaky ∈ lw_tbl := List.mem_append_right _ (show _ ∈ tables_1_1 ++ (tables_1_2 ++ tables_1_3) from List.mem_append_left _ (List.mem_of_getElem? (i := 214) (by decide +kernel)))
set_option maxRecDepth 20000 in
theorem tP_yX0_leaky : Cond.selects yX0_leaky.cls yX0_leaky yX0_leaky ∈ lw_tbl := List.mem_append_right _ (show _ ∈ tables_1_1 ++ (tables_1_2 ++ tables_1_3) from List.mem_append_left _ (List.mem_of_getElem? (i := 215) (by decide +kernel)))
set_option maxRecDepth 20000 in
theorem tK_yX0_leaky : Cond.code yX0_leaky cX0_leaky 4 (Option.some Jvm.ClassFile.FieldType.int) ∈ lw_tbl := List.mem_append_right _ (show _ ∈ tables_1_1 ++ (tables_1_2 ++ tables_1_3) from List.mem_append_left _ (List.mem_of_getElem? (i := 216) rfl))
set_option maxRecDepth 20000 in
theorem tM_RX0_136 : Cond.methodLink RX0 136 yX0_isBar ∈ lw_tbl := List.mem_append_right _ (show _ ∈ tables_1_1 ++ (tables_1_2 ++ tables_1_3) from List.mem_append_left _ (List.mem_of_getElem? (i := 217) (by decide +kernel)))
set_option maxRecDepth 20000 in
theorem tS_yX0_isBar : Cond.static yX0_isBar ∈ lw_tbl := List.mem_append_right _ (show _ ∈ tables_1_1 ++ (tables_1_2 ++ tables_1_3) from List.mem_append_left _ (List.mem_of_getElem? (i := 218) (by decide +kernel)))
set_option maxRecDepth 20000 in
theorem tK_yX0_isBar : Cond.code yX0_isBar cX0_isBar 1 (Option.some Jvm.ClassFile.FieldType.boolean) ∈ lw_tbl := List.mem_append_right _ (show _ ∈ tables_1_1 ++ (tables_1_2 ++ tables_1_3) from List.mem_append_left _ (List.mem_of_getElem? (i := 219) rfl))
set_option maxRecDepth 20000 in
theorem tM_RX0_139 : Cond.methodLink RX0 139 yX0_tallyPlaces ∈ lw_tbl := List.mem_append_right _ (show _ ∈ tables_1_1 ++ (tables_1_2 ++ tables_1_3) from List.mem_append_left _ (List.mem_of_getElem? (i := 220) (by decide +kernel)))
set_option maxRecDepth 20000 in
theorem tV_yX0_tallyPlaces : Cond.instanceMethod yX0_tallyPlaces ∈ lw_tbl := List.mem_append_right _ (show _ ∈ tables_1_1 ++ (tables_1_2 ++ tables_1_3) from List.mem_append_left _ (List.mem_of_getElem? (i := 222) (by decide +kernel)))
set_option maxRecDepth 20000 in
theorem tK_yX0_tallyPlaces : Cond.code yX0_tallyPlaces cX0_tallyPlaces 4 (Option.none : Option Jvm.ClassFile.FieldType) ∈ lw_tbl := List.mem_append_right _ (show _ ∈ tables_1_1 ++ (tables_1_2 ++ tables_1_3) from List.mem_append_left _ (List.mem_of_getElem? (i := 223) rfl))
set_option maxRecDepth 20000 in
theorem tM_RX0_143 : Cond.methodLink RX0 143 yX0_isLeakyByTally ∈ lw_tbl := List.mem_append_right _ (show _ ∈ tables_1_1 ++ (tables_1_2 ++ tables_1_3) from List.mem_append_left _ (List.mem_of_getElem? (i := 224) (by decide +kernel)))
set_option maxRecDepth 20000 in
theorem tV_yX0_isLeakyByTally : Cond.instanceMethod yX0_isLeakyByTally ∈ lw_tbl := List.mem_append_right _ (show _ ∈ tables_1_1 ++ (tables_1_2 ++ tables_1_3) from List.mem_append_left _ (List.mem_of_getElem? (i := 226) (by decide +kernel)))
set_option maxRecDepth 20000 in
theorem tK_yX0_isLeakyByTally : Cond.code yX0_isLeakyByTally cX0_isLeakyByTally 8 (Option.some Jvm.ClassFile.FieldType.boolean) ∈ lw_tbl := List.mem_append_right _ (show _ ∈ tables_1_1 ++ (tables_1_2 ++ tables_1_3) from List.mem_append_left _ (List.mem_of_getElem? (i := 227) rfl))
set_option maxRecDepth 20000 in
theorem tM_RL_86 : Cond.methodLink RL 86 yX0_leak ∈ lw_tbl := List.mem_append_right _ (show _ ∈ tables_1_1 ++ (tables_1_2 ++ tables_1_3) from List.mem_append_left _ (List.mem_of_getElem? (i := 228) (by decide +kernel)))
set_option maxRecDepth 20000 in
theorem tV_yX0_leak : Cond.instanceMethod yX0_leak ∈ lw_tbl := List.mem_append_right _ (show _ ∈ tables_1_1 ++ (tables_1_2 ++ tables_1_3) from List.mem_append_left _ (List.mem_of_getElem? (i := 229) (by decide +kernel)))
set_option maxRecDepth 20000 in
theorem tP_yX0_leak : Cond.selects yX0_leak.cls yX0_leak yX0_leak ∈ lw_tbl := List.mem_append_right _ (show _ ∈ tables_1_1 ++ (tables_1_2 ++ tables_1_3) from List.mem_append_left _ (List.mem_of_getElem? (i := 230) (by decide +kernel)))
set_option maxRecDepth 20000 in
theorem tK_yX0_leak : Cond.code yX0_leak cX0_leak 6 (Option.some Jvm.ClassFile.FieldType.int) ∈ lw_tbl := List.mem_append_right _ (show _ ∈ tables_1_1 ++ (tables_1_2 ++ tables_1_3) from List.mem_append_left _ (List.mem_of_getElem? (i := 231) rfl))
set_option maxRecDepth 20000 in
theorem tM_RL_90 : Cond.methodLink RL 90 yX0_shared ∈ lw_tbl := List.mem_append_right _ (show _ ∈ tables_1_1 ++ (tables_1_2 ++ tables_1_3) from List.mem_append_left _ (List.mem_of_getElem? (i := 232) (by decide +kernel)))
set_option maxRecDepth 20000 in
theorem tV_yX0_shared : Cond.instanceMethod yX0_shared ∈ lw_tbl := List.mem_append_right _ (show _ ∈ tables_1_1 ++ (tables_1_2 ++ tables_1_3) from List.mem_append_left _ (List.mem_of_getElem? (i := 233) (by decide +kernel)))
set_option maxRecDepth 20000 in
theorem tP_yX0_shared : Cond.selects yX0_shared.cls yX0_shared yX0_shared ∈ lw_tbl := List.mem_append_right _ (show _ ∈ tables_1_1 ++ (tables_1_2 ++ tables_1_3) from List.mem_append_left _ (List.mem_of_getElem? (i := 234) (by decide +kernel)))
set_option maxRecDepth 20000 in
theorem tK_yX0_shared : Cond.code yX0_shared cX0_shared 3 (Option.some Jvm.ClassFile.FieldType.int) ∈ lw_tbl := List.mem_append_right _ (show _ ∈ tables_1_1 ++ (tables_1_2 ++ tables_1_3) from List.mem_append_left _ (List.mem_of_getElem? (i := 235) rfl))
set_option maxRecDepth 20000 in
theorem tM_RX0_146 : Cond.methodLink RX0 146 yX0_sharedSet ∈ lw_tbl := List.mem_append_right _ (show _ ∈ tables_1_1 ++ (tables_1_2 ++ tables_1_3) from List.mem_append_left _ (List.mem_of_getElem? (i := 236) (by decide +kernel)))
set_option maxRecDepth 20000 in
theorem tV_yX0_sharedSet : Cond.instanceMethod yX0_sharedSet ∈ lw_tbl := List.mem_append_right _ (show _ ∈ tables_1_1 ++ (tables_1_2 ++ tables_1_3) from List.mem_append_left _ (List.mem_of_getElem? (i := 238) (by decide +kernel)))
set_option maxRecDepth 20000 in
theorem tK_yX0_sharedSet : Cond.code yX0_sharedSet cX0_sharedSet 3 (Option.some Jvm.ClassFile.FieldType.int) ∈ lw_tbl := List.mem_append_right _ (show _ ∈ tables_1_1 ++ (tables_1_2 ++ tables_1_3) from List.mem_append_left _ (List.mem_of_getElem? (i := 239) rfl))
set_option maxRecDepth 20000 in
theorem tM_RX0_149 : Cond.methodLink RX0 149 yJ6_bitCount_0f7a4 ∈ lw_tbl := List.mem_append_right _ (show _ ∈ tables_1_1 ++ (tables_1_2 ++ tables_1_3) from List.mem_append_right _ (List.mem_append_left _ (List.mem_of_getElem? (i := 0) (by decide +kernel))))
set_option maxRecDepth 20000 in
theorem tS_yJ6_bitCount_0f7a4 : Cond.static yJ6_bitCount_0f7a4 ∈ lw_tbl := List.mem_append_right _ (show _ ∈ tables_1_1 ++ (tables_1_2 ++ tables_1_3) from List.mem_append_right _ (List.mem_append_left _ (List.mem_of_getElem? (i := 1) (by decide +kernel))))
set_option maxRecDepth 20000 in
theorem tK_yJ6_bitCount_0f7a4 : Cond.code yJ6_bitCount_0f7a4 cJ6_bitCount_0f7a4 1 (Option.some Jvm.ClassFile.FieldType.int) ∈ lw_tbl := List.mem_append_right _ (show _ ∈ tables_1_1 ++ (tables_1_2 ++ tables_1_3) from List.mem_append_right _ (List.mem_append_left _ (List.mem_of_getElem? (i := 2) rfl)))
set_option maxRecDepth 20000 in
theorem tG_RJ6_265 : Cond.constant RJ6 265 (1431655765) ∈ lw_tbl := List.mem_append_right _ (show _ ∈ tables_1_1 ++ (tables_1_2 ++ tables_1_3) from List.mem_append_right _ (List.mem_append_left _ (List.mem_of_getElem? (i := 3) (by decide +kernel))))
set_option maxRecDepth 20000 in
theorem tG_RJ6_266 : Cond.constant RJ6 266 (858993459) ∈ lw_tbl := List.mem_append_right _ (show _ ∈ tables_1_1 ++ (tables_1_2 ++ tables_1_3) from List.mem_append_right _ (List.mem_append_left _ (List.mem_of_getElem? (i := 4) (by decide +kernel))))
set_option maxRecDepth 20000 in
theorem tG_RJ6_267 : Cond.constant RJ6 267 (252645135) ∈ lw_tbl := List.mem_append_right _ (show _ ∈ tables_1_1 ++ (tables_1_2 ++ tables_1_3) from List.mem_append_right _ (List.mem_append_left _ (List.mem_of_getElem? (i := 5) (by decide +kernel))))
set_option maxRecDepth 20000 in
theorem tM_RL_94 : Cond.methodLink RL 94 yX0_sum ∈ lw_tbl := List.mem_append_right _ (show _ ∈ tables_1_1 ++ (tables_1_2 ++ tables_1_3) from List.mem_append_right _ (List.mem_append_left _ (List.mem_of_getElem? (i := 6) (by decide +kernel))))
set_option maxRecDepth 20000 in
theorem tV_yX0_sum : Cond.instanceMethod yX0_sum ∈ lw_tbl := List.mem_append_right _ (show _ ∈ tables_1_1 ++ (tables_1_2 ++ tables_1_3) from List.mem_append_right _ (List.mem_append_left _ (List.mem_of_getElem? (i := 7) (by decide +kernel))))
set_option maxRecDepth 20000 in
theorem tP_yX0_sum : Cond.selects yX0_sum.cls yX0_sum yX0_sum ∈ lw_tbl := List.mem_append_right _ (show _ ∈ tables_1_1 ++ (tables_1_2 ++ tables_1_3) from List.mem_append_right _ (List.mem_append_left _ (List.mem_of_getElem? (i := 8) (by decide +kernel))))
set_option maxRecDepth 20000 in
theorem tK_yX0_sum : Cond.code yX0_sum cX0_sum 4 (Option.some Jvm.ClassFile.FieldType.int) ∈ lw_tbl := List.mem_append_right _ (show _ ∈ tables_1_1 ++ (tables_1_2 ++ tables_1_3) from List.mem_append_right _ (List.mem_append_left _ (List.mem_of_getElem? (i := 9) rfl)))
set_option maxRecDepth 20000 in
theorem tM_RL_98 : Cond.methodLink RL 98 yX0_group ∈ lw_tbl := List.mem_append_right _ (show _ ∈ tables_1_1 ++ (tables_1_2 ++ tables_1_3) from List.mem_append_right _ (List.mem_append_left _ (List.mem_of_getElem? (i := 10) (by decide +kernel))))
set_option maxRecDepth 20000 in
theorem tV_yX0_group : Cond.instanceMethod yX0_group ∈ lw_tbl := List.mem_append_right _ (show _ ∈ tables_1_1 ++ (tables_1_2 ++ tables_1_3) from List.mem_append_right _ (List.mem_append_left _ (List.mem_of_getElem? (i := 11) (by decide +kernel))))
set_option maxRecDepth 20000 in
theorem tP_yX0_group : Cond.selects yX0_group.cls yX0_group yX0_group ∈ lw_tbl := List.mem_append_right _ (show _ ∈ tables_1_1 ++ (tables_1_2 ++ tables_1_3) from List.mem_append_right _ (List.mem_append_left _ (List.mem_of_getElem? (i := 12) (by decide +kernel))))
set_option maxRecDepth 20000 in
theorem tK_yX0_group : Cond.code yX0_group cX0_group 5 (Option.some Jvm.ClassFile.FieldType.long) ∈ lw_tbl := List.mem_append_right _ (show _ ∈ tables_1_1 ++ (tables_1_2 ++ tables_1_3) from List.mem_append_right _ (List.mem_append_left _ (List.mem_of_getElem? (i := 13) rfl)))
set_option maxRecDepth 20000 in
theorem tM_RX0_155 : Cond.methodLink RX0 155 yX0_gatherSums ∈ lw_tbl := List.mem_append_right _ (show _ ∈ tables_1_1 ++ (tables_1_2 ++ tables_1_3) from List.mem_append_right _ (List.mem_append_left _ (List.mem_of_getElem? (i := 14) (by decide +kernel))))
set_option maxRecDepth 20000 in
theorem tV_yX0_gatherSums : Cond.instanceMethod yX0_gatherSums ∈ lw_tbl := List.mem_append_right _ (show _ ∈ tables_1_1 ++ (tables_1_2 ++ tables_1_3) from List.mem_append_right _ (List.mem_append_left _ (List.mem_of_getElem? (i := 16) (by decide +kernel))))
set_option maxRecDepth 20000 in
theorem tK_yX0_gatherSums : Cond.code yX0_gatherSums cX0_gatherSums 5 (Option.some Jvm.ClassFile.FieldType.int) ∈ lw_tbl := List.mem_append_right _ (show _ ∈ tables_1_1 ++ (tables_1_2 ++ tables_1_3) from List.mem_append_right _ (List.mem_append_left _ (List.mem_of_getElem? (i := 17) rfl)))
set_option maxRecDepth 20000 in
theorem tM_RX0_158 : Cond.methodLink RX0 158 yX0_sumOfValues ∈ lw_tbl := List.mem_append_right _ (show _ ∈ tables_1_1 ++ (tables_1_2 ++ tables_1_3) from List.mem_append_right _ (List.mem_append_left _ (List.mem_of_getElem? (i := 18) (by decide +kernel))))
set_option maxRecDepth 20000 in
theorem tV_yX0_sumOfValues : Cond.instanceMethod yX0_sumOfValues ∈ lw_tbl := List.mem_append_right _ (show _ ∈ tables_1_1 ++ (tables_1_2 ++ tables_1_3) from List.mem_append_right _ (List.mem_append_left _ (List.mem_of_getElem? (i := 20) (by decide +kernel))))
set_option maxRecDepth 20000 in
theorem tK_yX0_sumOfValues : Cond.code yX0_sumOfValues cX0_sumOfValues 5 (Option.some Jvm.ClassFile.FieldType.long) ∈ lw_tbl := List.mem_append_right _ (show _ ∈ tables_1_1 ++ (tables_1_2 ++ tables_1_3) from List.mem_append_right _ (List.mem_append_left _ (List.mem_of_getElem? (i := 21) rfl)))
set_option maxRecDepth 20000 in
theorem tM_RX0_162 : Cond.methodLink RX0 162 yX0_awayOfValues ∈ lw_tbl := List.mem_append_right _ (show _ ∈ tables_1_1 ++ (tables_1_2 ++ tables_1_3) from List.mem_append_right _ (List.mem_append_left _ (List.mem_of_getElem? (i := 22) (by decide +kernel))))
set_option maxRecDepth 20000 in
theorem tV_yX0_awayOfValues : Cond.instanceMethod yX0_awayOfValues ∈ lw_tbl := List.mem_append_right _ (show _ ∈ tables_1_1 ++ (tables_1_2 ++ tables_1_3) from List.mem_append_right _ (List.mem_append_left _ (List.mem_of_getElem? (i := 24) (by decide +kernel))))
set_option maxRecDepth 20000 in
theorem tK_yX0_awayOfValues : Cond.code yX0_awayOfValues cX0_awayOfValues 7 (Option.some Jvm.ClassFile.FieldType.long) ∈ lw_tbl := List.mem_append_right _ (show _ ∈ tables_1_1 ++ (tables_1_2 ++ tables_1_3) from List.mem_append_right _ (List.mem_append_left _ (List.mem_of_getElem? (i := 25) rfl)))
set_option maxRecDepth 20000 in
theorem tM_RL_103 : Cond.methodLink RL 103 yX0_scale ∈ lw_tbl := List.mem_append_right _ (show _ ∈ tables_1_1 ++ (tables_1_2 ++ tables_1_3) from List.mem_append_right _ (List.mem_append_left _ (List.mem_of_getElem? (i := 26) (by decide +kernel))))
set_option maxRecDepth 20000 in
theorem tV_yX0_scale : Cond.instanceMethod yX0_scale ∈ lw_tbl := List.mem_append_right _ (show _ ∈ tables_1_1 ++ (tables_1_2 ++ tables_1_3) from List.mem_append_right _ (List.mem_append_left _ (List.mem_of_getElem? (i := 27) (by decide +kernel))))
set_option maxRecDepth 20000 in
theorem tP_yX0_scale : Cond.selects yX0_scale.cls yX0_scale yX0_scale ∈ lw_tbl := List.mem_append_right _ (show _ ∈ tables_1_1 ++ (tables_1_2 ++ tables_1_3) from List.mem_append_right _ (List.mem_append_left _ (List.mem_of_getElem? (i := 28) (by decide +kernel))))
set_option maxRecDepth 20000 in
theorem tK_yX0_scale : Cond.code yX0_scale cX0_scale 21 (Option.some Jvm.ClassFile.FieldType.long) ∈ lw_tbl := List.mem_append_right _ (show _ ∈ tables_1_1 ++ (tables_1_2 ++ tables_1_3) from List.mem_append_right _ (List.mem_append_left _ (List.mem_of_getElem? (i := 29) rfl)))
set_option maxRecDepth 20000 in
theorem tM_RX0_165 : Cond.methodLink RX0 165 yX0_isTotal ∈ lw_tbl := List.mem_append_right _ (show _ ∈ tables_1_1 ++ (tables_1_2 ++ tables_1_3) from List.mem_append_right _ (List.mem_append_left _ (List.mem_of_getElem? (i := 30) (by decide +kernel))))
set_option maxRecDepth 20000 in
theorem tS_yX0_isTotal : Cond.static yX0_isTotal ∈ lw_tbl := List.mem_append_right _ (show _ ∈ tables_1_1 ++ (tables_1_2 ++ tables_1_3) from List.mem_append_right _ (List.mem_append_left _ (List.mem_of_getElem? (i := 31) (by decide +kernel))))
set_option maxRecDepth 20000 in
theorem tK_yX0_isTotal : Cond.code yX0_isTotal cX0_isTotal 1 (Option.some Jvm.ClassFile.FieldType.boolean) ∈ lw_tbl := List.mem_append_right _ (show _ ∈ tables_1_1 ++ (tables_1_2 ++ tables_1_3) from List.mem_append_right _ (List.mem_append_left _ (List.mem_of_getElem? (i := 32) rfl)))
set_option maxRecDepth 20000 in
theorem tM_RX0_168 : Cond.methodLink RX0 168 yX0_group ∈ lw_tbl := List.mem_append_right _ (show _ ∈ tables_1_1 ++ (tables_1_2 ++ tables_1_3) from List.mem_append_right _ (List.mem_append_left _ (List.mem_of_getElem? (i := 33) (by decide +kernel))))
set_option maxRecDepth 20000 in
theorem tM_RL_108 : Cond.methodLink RL 108 yX0_rank ∈ lw_tbl := List.mem_append_right _ (show _ ∈ tables_1_1 ++ (tables_1_2 ++ tables_1_3) from List.mem_append_right _ (List.mem_append_left _ (List.mem_of_getElem? (i := 34) (by decide +kernel))))
set_option maxRecDepth 20000 in
theorem tV_yX0_rank : Cond.instanceMethod yX0_rank ∈ lw_tbl := List.mem_append_right _ (show _ ∈ tables_1_1 ++ (tables_1_2 ++ tables_1_3) from List.mem_append_right _ (List.mem_append_left _ (List.mem_of_getElem? (i := 35) (by decide +kernel))))
set_option maxRecDepth 20000 in
theorem tP_yX0_rank : Cond.selects yX0_rank.cls yX0_rank yX0_rank ∈ lw_tbl := List.mem_append_right _ (show _ ∈ tables_1_1 ++ (tables_1_2 ++ tables_1_3) from List.mem_append_right _ (List.mem_append_left _ (List.mem_of_getElem? (i := 36) (by decide +kernel))))
set_option maxRecDepth 20000 in
theorem tK_yX0_rank : Cond.code yX0_rank cX0_rank 3 (Option.some Jvm.ClassFile.FieldType.int) ∈ lw_tbl := List.mem_append_right _ (show _ ∈ tables_1_1 ++ (tables_1_2 ++ tables_1_3) from List.mem_append_right _ (List.mem_append_left _ (List.mem_of_getElem? (i := 37) rfl)))
set_option maxRecDepth 20000 in
theorem tM_RX0_172 : Cond.methodLink RX0 172 yX0_rankInValues ∈ lw_tbl := List.mem_append_right _ (show _ ∈ tables_1_1 ++ (tables_1_2 ++ tables_1_3) from List.mem_append_right _ (List.mem_append_left _ (List.mem_of_getElem? (i := 38) (by decide +kernel))))
set_option maxRecDepth 20000 in
theorem tV_yX0_rankInValues : Cond.instanceMethod yX0_rankInValues ∈ lw_tbl := List.mem_append_right _ (show _ ∈ tables_1_1 ++ (tables_1_2 ++ tables_1_3) from List.mem_append_right _ (List.mem_append_left _ (List.mem_of_getElem? (i := 40) (by decide +kernel))))
set_option maxRecDepth 20000 in
theorem tK_yX0_rankInValues : Cond.code yX0_rankInValues cX0_rankInValues 5 (Option.some Jvm.ClassFile.FieldType.int) ∈ lw_tbl := List.mem_append_right _ (show _ ∈ tables_1_1 ++ (tables_1_2 ++ tables_1_3) from List.mem_append_right _ (List.mem_append_left _ (List.mem_of_getElem? (i := 41) rfl)))
set_option maxRecDepth 20000 in
theorem tM_RL_112 : Cond.methodLink RL 112 yX0_like ∈ lw_tbl := List.mem_append_right _ (show _ ∈ tables_1_1 ++ (tables_1_2 ++ tables_1_3) from List.mem_append_right _ (List.mem_append_left _ (List.mem_of_getElem? (i := 42) (by decide +kernel))))
set_option maxRecDepth 20000 in
theorem tV_yX0_like : Cond.instanceMethod yX0_like ∈ lw_tbl := List.mem_append_right _ (show _ ∈ tables_1_1 ++ (tables_1_2 ++ tables_1_3) from List.mem_append_right _ (List.mem_append_left _ (List.mem_of_getElem? (i := 43) (by decide +kernel))))
set_option maxRecDepth 20000 in
theorem tP_yX0_like : Cond.selects yX0_like.cls yX0_like yX0_like ∈ lw_tbl := List.mem_append_right _ (show _ ∈ tables_1_1 ++ (tables_1_2 ++ tables_1_3) from List.mem_append_right _ (List.mem_append_left _ (List.mem_of_getElem? (i := 44) (by decide +kernel))))
set_option maxRecDepth 20000 in
theorem tK_yX0_like : Cond.code yX0_like cX0_like 10 (Option.some Jvm.ClassFile.FieldType.int) ∈ lw_tbl := List.mem_append_right _ (show _ ∈ tables_1_1 ++ (tables_1_2 ++ tables_1_3) from List.mem_append_right _ (List.mem_append_left _ (List.mem_of_getElem? (i := 45) rfl)))
set_option maxRecDepth 20000 in
theorem tM_RX0_175 : Cond.methodLink RX0 175 yJ9_max_7cf53 ∈ lw_tbl := List.mem_append_right _ (show _ ∈ tables_1_1 ++ (tables_1_2 ++ tables_1_3) from List.mem_append_right _ (List.mem_append_left _ (List.mem_of_getElem? (i := 46) (by decide +kernel))))
set_option maxRecDepth 20000 in
theorem tS_yJ9_max_7cf53 : Cond.static yJ9_max_7cf53 ∈ lw_tbl := List.mem_append_right _ (show _ ∈ tables_1_1 ++ (tables_1_2 ++ tables_1_3) from List.mem_append_right _ (List.mem_append_left _ (List.mem_of_getElem? (i := 47) (by decide +kernel))))
set_option maxRecDepth 20000 in
theorem tK_yJ9_max_7cf53 : Cond.code yJ9_max_7cf53 cJ9_max_7cf53 2 (Option.some Jvm.ClassFile.FieldType.int) ∈ lw_tbl := List.mem_append_right _ (show _ ∈ tables_1_1 ++ (tables_1_2 ++ tables_1_3) from List.mem_append_right _ (List.mem_append_left _ (List.mem_of_getElem? (i := 48) rfl)))
set_option maxRecDepth 20000 in
theorem tM_RL_116 : Cond.methodLink RL 116 yX0_judge ∈ lw_tbl := List.mem_append_right _ (show _ ∈ tables_1_1 ++ (tables_1_2 ++ tables_1_3) from List.mem_append_right _ (List.mem_append_left _ (List.mem_of_getElem? (i := 49) (by decide +kernel))))
set_option maxRecDepth 20000 in
theorem tV_yX0_judge : Cond.instanceMethod yX0_judge ∈ lw_tbl := List.mem_append_right _ (show _ ∈ tables_1_1 ++ (tables_1_2 ++ tables_1_3) from List.mem_append_right _ (List.mem_append_left _ (List.mem_of_getElem? (i := 50) (by decide +kernel))))
set_option maxRecDepth 20000 in
theorem tP_yX0_judge : Cond.selects yX0_judge.cls yX0_judge yX0_judge ∈ lw_tbl := List.mem_append_right _ (show _ ∈ tables_1_1 ++ (tables_1_2 ++ tables_1_3) from List.mem_append_right _ (List.mem_append_left _ (List.mem_of_getElem? (i := 51) (by decide +kernel))))
set_option maxRecDepth 20000 in
theorem tK_yX0_judge : Cond.code yX0_judge cX0_judge 8 (Option.some Jvm.ClassFile.FieldType.int) ∈ lw_tbl := List.mem_append_right _ (show _ ∈ tables_1_1 ++ (tables_1_2 ++ tables_1_3) from List.mem_append_right _ (List.mem_append_left _ (List.mem_of_getElem? (i := 52) rfl)))
set_option maxRecDepth 20000 in
theorem tM_RL_121 : Cond.methodLink RL 121 yX0_cut ∈ lw_tbl := List.mem_append_right _ (show _ ∈ tables_1_1 ++ (tables_1_2 ++ tables_1_3) from List.mem_append_right _ (List.mem_append_left _ (List.mem_of_getElem? (i := 53) (by decide +kernel))))
set_option maxRecDepth 20000 in
theorem tV_yX0_cut : Cond.instanceMethod yX0_cut ∈ lw_tbl := List.mem_append_right _ (show _ ∈ tables_1_1 ++ (tables_1_2 ++ tables_1_3) from List.mem_append_right _ (List.mem_append_left _ (List.mem_of_getElem? (i := 54) (by decide +kernel))))
set_option maxRecDepth 20000 in
theorem tP_yX0_cut : Cond.selects yX0_cut.cls yX0_cut yX0_cut ∈ lw_tbl := List.mem_append_right _ (show _ ∈ tables_1_1 ++ (tables_1_2 ++ tables_1_3) from List.mem_append_right _ (List.mem_append_left _ (List.mem_of_getElem? (i := 55) (by decide +kernel))))
set_option maxRecDepth 20000 in
theorem tK_yX0_cut : Cond.code yX0_cut cX0_cut 3 (Option.some Jvm.ClassFile.FieldType.long) ∈ lw_tbl := List.mem_append_right _ (show _ ∈ tables_1_1 ++ (tables_1_2 ++ tables_1_3) from List.mem_append_right _ (List.mem_append_left _ (List.mem_of_getElem? (i := 56) rfl)))
set_option maxRecDepth 20000 in
theorem tM_RX0_181 : Cond.methodLink RX0 181 yX0_cutParts ∈ lw_tbl := List.mem_append_right _ (show _ ∈ tables_1_1 ++ (tables_1_2 ++ tables_1_3) from List.mem_append_right _ (List.mem_append_left _ (List.mem_of_getElem? (i := 57) (by decide +kernel))))
set_option maxRecDepth 20000 in
theorem tV_yX0_cutParts : Cond.instanceMethod yX0_cutParts ∈ lw_tbl := List.mem_append_right _ (show _ ∈ tables_1_1 ++ (tables_1_2 ++ tables_1_3) from List.mem_append_right _ (List.mem_append_left _ (List.mem_of_getElem? (i := 59) (by decide +kernel))))
set_option maxRecDepth 20000 in
theorem tK_yX0_cutParts : Cond.code yX0_cutParts cX0_cutParts 5 (Option.some Jvm.ClassFile.FieldType.int) ∈ lw_tbl := List.mem_append_right _ (show _ ∈ tables_1_1 ++ (tables_1_2 ++ tables_1_3) from List.mem_append_right _ (List.mem_append_left _ (List.mem_of_getElem? (i := 60) rfl)))
set_option maxRecDepth 20000 in
theorem tM_RX0_209 : Cond.methodLink RX0 209 yX0_meanParts ∈ lw_tbl := List.mem_append_right _ (show _ ∈ tables_1_1 ++ (tables_1_2 ++ tables_1_3) from List.mem_append_right _ (List.mem_append_left _ (List.mem_of_getElem? (i := 61) (by decide +kernel))))
set_option maxRecDepth 20000 in
theorem tV_yX0_meanParts : Cond.instanceMethod yX0_meanParts ∈ lw_tbl := List.mem_append_right _ (show _ ∈ tables_1_1 ++ (tables_1_2 ++ tables_1_3) from List.mem_append_right _ (List.mem_append_left _ (List.mem_of_getElem? (i := 63) (by decide +kernel))))
set_option maxRecDepth 20000 in
theorem tK_yX0_meanParts : Cond.code yX0_meanParts cX0_meanParts 6 (Option.some Jvm.ClassFile.FieldType.int) ∈ lw_tbl := List.mem_append_right _ (show _ ∈ tables_1_1 ++ (tables_1_2 ++ tables_1_3) from List.mem_append_right _ (List.mem_append_left _ (List.mem_of_getElem? (i := 64) rfl)))
set_option maxRecDepth 20000 in
theorem tJ_RX0_184 : Cond.constantLong RX0 184 (840) ∈ lw_tbl := List.mem_append_right _ (show _ ∈ tables_1_1 ++ (tables_1_2 ++ tables_1_3) from List.mem_append_right _ (List.mem_append_left _ (List.mem_of_getElem? (i := 65) (by decide +kernel))))
set_option maxRecDepth 20000 in
theorem tM_RL_125 : Cond.methodLink RL 125 yX0_passes ∈ lw_tbl := List.mem_append_right _ (show _ ∈ tables_1_1 ++ (tables_1_2 ++ tables_1_3) from List.mem_append_right _ (List.mem_append_left _ (List.mem_of_getElem? (i := 66) (by decide +kernel))))
set_option maxRecDepth 20000 in
theorem tV_yX0_passes : Cond.instanceMethod yX0_passes ∈ lw_tbl := List.mem_append_right _ (show _ ∈ tables_1_1 ++ (tables_1_2 ++ tables_1_3) from List.mem_append_right _ (List.mem_append_left _ (List.mem_of_getElem? (i := 67) (by decide +kernel))))
set_option maxRecDepth 20000 in
theorem tP_yX0_passes : Cond.selects yX0_passes.cls yX0_passes yX0_passes ∈ lw_tbl := List.mem_append_right _ (show _ ∈ tables_1_1 ++ (tables_1_2 ++ tables_1_3) from List.mem_append_right _ (List.mem_append_left _ (List.mem_of_getElem? (i := 68) (by decide +kernel))))
set_option maxRecDepth 20000 in
theorem tK_yX0_passes : Cond.code yX0_passes cX0_passes 2 (Option.some Jvm.ClassFile.FieldType.int) ∈ lw_tbl := List.mem_append_right _ (show _ ∈ tables_1_1 ++ (tables_1_2 ++ tables_1_3) from List.mem_append_right _ (List.mem_append_left _ (List.mem_of_getElem? (i := 69) rfl)))
set_option maxRecDepth 20000 in
theorem tM_RX0_186 : Cond.methodLink RX0 186 yX0_isPassing ∈ lw_tbl := List.mem_append_right _ (show _ ∈ tables_1_1 ++ (tables_1_2 ++ tables_1_3) from List.mem_append_right _ (List.mem_append_left _ (List.mem_of_getElem? (i := 70) (by decide +kernel))))
set_option maxRecDepth 20000 in
theorem tV_yX0_isPassing : Cond.instanceMethod yX0_isPassing ∈ lw_tbl := List.mem_append_right _ (show _ ∈ tables_1_1 ++ (tables_1_2 ++ tables_1_3) from List.mem_append_right _ (List.mem_append_left _ (List.mem_of_getElem? (i := 72) (by decide +kernel))))
set_option maxRecDepth 20000 in
theorem tK_yX0_isPassing : Cond.code yX0_isPassing cX0_isPassing 2 (Option.some Jvm.ClassFile.FieldType.boolean) ∈ lw_tbl := List.mem_append_right _ (show _ ∈ tables_1_1 ++ (tables_1_2 ++ tables_1_3) from List.mem_append_right _ (List.mem_append_left _ (List.mem_of_getElem? (i := 73) rfl)))
set_option maxRecDepth 20000 in
theorem tM_RL_129 : Cond.methodLink RL 129 yX0_border ∈ lw_tbl := List.mem_append_right _ (show _ ∈ tables_1_1 ++ (tables_1_2 ++ tables_1_3) from List.mem_append_right _ (List.mem_append_left _ (List.mem_of_getElem? (i := 74) (by decide +kernel))))
set_option maxRecDepth 20000 in
theorem tV_yX0_border : Cond.instanceMethod yX0_border ∈ lw_tbl := List.mem_append_right _ (show _ ∈ tables_1_1 ++ (tables_1_2 ++ tables_1_3) from List.mem_append_right _ (List.mem_append_left _ (List.mem_of_getElem? (i := 75) (by decide +kernel))))
set_option maxRecDepth 20000 in
theorem tP_yX0_border : Cond.selects yX0_border.cls yX0_border yX0_border ∈ lw_tbl := List.mem_append_right _ (show _ ∈ tables_1_1 ++ (tables_1_2 ++ tables_1_3) from List.mem_append_right _ (List.mem_append_left _ (List.mem_of_getElem? (i := 76) (by decide +kernel))))
set_option maxRecDepth 20000 in
theorem tK_yX0_border : Cond.code yX0_border cX0_border 10 (Option.some Jvm.ClassFile.FieldType.int) ∈ lw_tbl := List.mem_append_right _ (show _ ∈ tables_1_1 ++ (tables_1_2 ++ tables_1_3) from List.mem_append_right _ (List.mem_append_left _ (List.mem_of_getElem? (i := 77) rfl)))
set_option maxRecDepth 20000 in
theorem tM_RL_133 : Cond.methodLink RL 133 yX0_alike ∈ lw_tbl := List.mem_append_right _ (show _ ∈ tables_1_1 ++ (tables_1_2 ++ tables_1_3) from List.mem_append_right _ (List.mem_append_left _ (List.mem_of_getElem? (i := 78) (by decide +kernel))))
set_option maxRecDepth 20000 in
theorem tV_yX0_alike : Cond.instanceMethod yX0_alike ∈ lw_tbl := List.mem_append_right _ (show _ ∈ tables_1_1 ++ (tables_1_2 ++ tables_1_3) from List.mem_append_right _ (List.mem_append_left _ (List.mem_of_getElem? (i := 79) (by decide +kernel))))
set_option maxRecDepth 20000 in
theorem tP_yX0_alike : Cond.selects yX0_alike.cls yX0_alike yX0_alike ∈ lw_tbl := List.mem_append_right _ (show _ ∈ tables_1_1 ++ (tables_1_2 ++ tables_1_3) from List.mem_append_right _ (List.mem_append_left _ (List.mem_of_getElem? (i := 80) (by decide +kernel))))
set_option maxRecDepth 20000 in
theorem tK_yX0_alike : Cond.code yX0_alike cX0_alike 3 (Option.some Jvm.ClassFile.FieldType.int) ∈ lw_tbl := List.mem_append_right _ (show _ ∈ tables_1_1 ++ (tables_1_2 ++ tables_1_3) from List.mem_append_right _ (List.mem_append_left _ (List.mem_of_getElem? (i := 81) rfl)))
set_option maxRecDepth 20000 in
theorem tM_RX0_193 : Cond.methodLink RX0 193 yX0_sameWrongs ∈ lw_tbl := List.mem_append_right _ (show _ ∈ tables_1_1 ++ (tables_1_2 ++ tables_1_3) from List.mem_append_right _ (List.mem_append_left _ (List.mem_of_getElem? (i := 82) (by decide +kernel))))
set_option maxRecDepth 20000 in
theorem tV_yX0_sameWrongs : Cond.instanceMethod yX0_sameWrongs ∈ lw_tbl := List.mem_append_right _ (show _ ∈ tables_1_1 ++ (tables_1_2 ++ tables_1_3) from List.mem_append_right _ (List.mem_append_left _ (List.mem_of_getElem? (i := 84) (by decide +kernel))))
set_option maxRecDepth 20000 in
theorem tK_yX0_sameWrongs : Cond.code yX0_sameWrongs cX0_sameWrongs 7 (Option.some Jvm.ClassFile.FieldType.int) ∈ lw_tbl := List.mem_append_right _ (show _ ∈ tables_1_1 ++ (tables_1_2 ++ tables_1_3) from List.mem_append_right _ (List.mem_append_left _ (List.mem_of_getElem? (i := 85) rfl)))
set_option maxRecDepth 20000 in
theorem tM_RL_137 : Cond.methodLink RL 137 yX0_pair ∈ lw_tbl := List.mem_append_right _ (show _ ∈ tables_1_1 ++ (tables_1_2 ++ tables_1_3) from List.mem_append_right _ (List.mem_append_left _ (List.mem_of_getElem? (i := 86) (by decide +kernel))))
set_option maxRecDepth 20000 in
theorem tV_yX0_pair : Cond.instanceMethod yX0_pair ∈ lw_tbl := List.mem_append_right _ (show _ ∈ tables_1_1 ++ (tables_1_2 ++ tables_1_3) from List.mem_append_right _ (List.mem_append_left _ (List.mem_of_getElem? (i := 87) (by decide +kernel))))
set_option maxRecDepth 20000 in
theorem tP_yX0_pair : Cond.selects yX0_pair.cls yX0_pair yX0_pair ∈ lw_tbl := List.mem_append_right _ (show _ ∈ tables_1_1 ++ (tables_1_2 ++ tables_1_3) from List.mem_append_right _ (List.mem_append_left _ (List.mem_of_getElem? (i := 88) (by decide +kernel))))
set_option maxRecDepth 20000 in
theorem tK_yX0_pair : Cond.code yX0_pair cX0_pair 7 (Option.some Jvm.ClassFile.FieldType.int) ∈ lw_tbl := List.mem_append_right _ (show _ ∈ tables_1_1 ++ (tables_1_2 ++ tables_1_3) from List.mem_append_right _ (List.mem_append_left _ (List.mem_of_getElem? (i := 89) rfl)))
set_option maxRecDepth 20000 in
theorem tM_RX0_196 : Cond.methodLink RX0 196 yX0_areAlikeOf ∈ lw_tbl := List.mem_append_right _ (show _ ∈ tables_1_1 ++ (tables_1_2 ++ tables_1_3) from List.mem_append_right _ (List.mem_append_left _ (List.mem_of_getElem? (i := 90) (by decide +kernel))))
set_option maxRecDepth 20000 in
theorem tV_yX0_areAlikeOf : Cond.instanceMethod yX0_areAlikeOf ∈ lw_tbl := List.mem_append_right _ (show _ ∈ tables_1_1 ++ (tables_1_2 ++ tables_1_3) from List.mem_append_right _ (List.mem_append_left _ (List.mem_of_getElem? (i := 92) (by decide +kernel))))
set_option maxRecDepth 20000 in
theorem tK_yX0_areAlikeOf : Cond.code yX0_areAlikeOf cX0_areAlikeOf 5 (Option.some Jvm.ClassFile.FieldType.boolean) ∈ lw_tbl := List.mem_append_right _ (show _ ∈ tables_1_1 ++ (tables_1_2 ++ tables_1_3) from List.mem_append_right _ (List.mem_append_left _ (List.mem_of_getElem? (i := 93) rfl)))
set_option maxRecDepth 20000 in
theorem tM_RL_141 : Cond.methodLink RL 141 yX0_count ∈ lw_tbl := List.mem_append_right _ (show _ ∈ tables_1_1 ++ (tables_1_2 ++ tables_1_3) from List.mem_append_right _ (List.mem_append_left _ (List.mem_of_getElem? (i := 94) (by decide +kernel))))
set_option maxRecDepth 20000 in
theorem tV_yX0_count : Cond.instanceMethod yX0_count ∈ lw_tbl := List.mem_append_right _ (show _ ∈ tables_1_1 ++ (tables_1_2 ++ tables_1_3) from List.mem_append_right _ (List.mem_append_left _ (List.mem_of_getElem? (i := 95) (by decide +kernel))))
set_option maxRecDepth 20000 in
theorem tP_yX0_count : Cond.selects yX0_count.cls yX0_count yX0_count ∈ lw_tbl := List.mem_append_right _ (show _ ∈ tables_1_1 ++ (tables_1_2 ++ tables_1_3) from List.mem_append_right _ (List.mem_append_left _ (List.mem_of_getElem? (i := 96) (by decide +kernel))))
set_option maxRecDepth 20000 in
theorem tK_yX0_count : Cond.code yX0_count cX0_count 2 (Option.some Jvm.ClassFile.FieldType.int) ∈ lw_tbl := List.mem_append_right _ (show _ ∈ tables_1_1 ++ (tables_1_2 ++ tables_1_3) from List.mem_append_right _ (List.mem_append_left _ (List.mem_of_getElem? (i := 97) rfl)))
set_option maxRecDepth 20000 in
theorem tM_RX0_200 : Cond.methodLink RX0 200 yX0_countAnswers ∈ lw_tbl := List.mem_append_right _ (show _ ∈ tables_1_1 ++ (tables_1_2 ++ tables_1_3) from List.mem_append_right _ (List.mem_append_left _ (List.mem_of_getElem? (i := 98) (by decide +kernel))))
set_option maxRecDepth 20000 in
theorem tV_yX0_countAnswers : Cond.instanceMethod yX0_countAnswers ∈ lw_tbl := List.mem_append_right _ (show _ ∈ tables_1_1 ++ (tables_1_2 ++ tables_1_3) from List.mem_append_right _ (List.mem_append_left _ (List.mem_of_getElem? (i := 100) (by decide +kernel))))
set_option maxRecDepth 20000 in
theorem tK_yX0_countAnswers : Cond.code yX0_countAnswers cX0_countAnswers 3 (Option.some Jvm.ClassFile.FieldType.int) ∈ lw_tbl := List.mem_append_right _ (show _ ∈ tables_1_1 ++ (tables_1_2 ++ tables_1_3) from List.mem_append_right _ (List.mem_append_left _ (List.mem_of_getElem? (i := 101) rfl)))
set_option maxRecDepth 20000 in
theorem tM_RX0_203 : Cond.methodLink RX0 203 yX0_countPassing ∈ lw_tbl := List.mem_append_right _ (show _ ∈ tables_1_1 ++ (tables_1_2 ++ tables_1_3) from List.mem_append_right _ (List.mem_append_left _ (List.mem_of_getElem? (i := 102) (by decide +kernel))))
set_option maxRecDepth 20000 in
theorem tV_yX0_countPassing : Cond.instanceMethod yX0_countPassing ∈ lw_tbl := List.mem_append_right _ (show _ ∈ tables_1_1 ++ (tables_1_2 ++ tables_1_3) from List.mem_append_right _ (List.mem_append_left _ (List.mem_of_getElem? (i := 104) (by decide +kernel))))
set_option maxRecDepth 20000 in
theorem tK_yX0_countPassing : Cond.code yX0_countPassing cX0_countPassing 3 (Option.some Jvm.ClassFile.FieldType.int) ∈ lw_tbl := List.mem_append_right _ (show _ ∈ tables_1_1 ++ (tables_1_2 ++ tables_1_3) from List.mem_append_right _ (List.mem_append_left _ (List.mem_of_getElem? (i := 105) rfl)))
set_option maxRecDepth 20000 in
theorem tC_RL_10 : Cond.classLink RL 10 RX1 ∈ lw_tbl := List.mem_append_right _ (show _ ∈ tables_1_1 ++ (tables_1_2 ++ tables_1_3) from List.mem_append_right _ (List.mem_append_left _ (List.mem_of_getElem? (i := 106) (by decide +kernel))))
set_option maxRecDepth 20000 in
theorem tN_RX1 : Cond.instantiable RX1 13 ∈ lw_tbl := List.mem_append_right _ (show _ ∈ tables_1_1 ++ (tables_1_2 ++ tables_1_3) from List.mem_append_right _ (List.mem_append_left _ (List.mem_of_getElem? (i := 107) (by decide +kernel))))
set_option maxRecDepth 20000 in
theorem tM_RL_12 : Cond.methodLink RL 12 yX1_init ∈ lw_tbl := List.mem_append_right _ (show _ ∈ tables_1_1 ++ (tables_1_2 ++ tables_1_3) from List.mem_append_right _ (List.mem_append_left _ (List.mem_of_getElem? (i := 108) (by decide +kernel))))
set_option maxRecDepth 20000 in
theorem tV_yX1_init : Cond.instanceMethod yX1_init ∈ lw_tbl := List.mem_append_right _ (show _ ∈ tables_1_1 ++ (tables_1_2 ++ tables_1_3) from List.mem_append_right _ (List.mem_append_left _ (List.mem_of_getElem? (i := 109) (by decide +kernel))))
set_option maxRecDepth 20000 in
theorem tK_yX1_init : Cond.code yX1_init cX1_init 1 (Option.none : Option Jvm.ClassFile.FieldType) ∈ lw_tbl := List.mem_append_right _ (show _ ∈ tables_1_1 ++ (tables_1_2 ++ tables_1_3) from List.mem_append_right _ (List.mem_append_left _ (List.mem_of_getElem? (i := 110) rfl)))
set_option maxRecDepth 20000 in
theorem tM_RX1_1 : Cond.methodLink RX1 1 objectInit ∈ lw_tbl := List.mem_append_right _ (show _ ∈ tables_1_1 ++ (tables_1_2 ++ tables_1_3) from List.mem_append_right _ (List.mem_append_left _ (List.mem_of_getElem? (i := 111) (by decide +kernel))))
set_option maxRecDepth 20000 in
theorem tF_RX1_7 : Cond.fieldLink RX1 7 "ExamScalesModel" "questions" "I" ∈ lw_tbl := List.mem_append_right _ (show _ ∈ tables_1_1 ++ (tables_1_2 ++ tables_1_3) from List.mem_append_right _ (List.mem_append_left _ (List.mem_of_getElem? (i := 112) (by decide +kernel))))
set_option maxRecDepth 20000 in
theorem tF_RX1_13 : Cond.fieldLink RX1 13 "ExamScalesModel" "papers" "I" ∈ lw_tbl := List.mem_append_right _ (show _ ∈ tables_1_1 ++ (tables_1_2 ++ tables_1_3) from List.mem_append_right _ (List.mem_append_left _ (List.mem_of_getElem? (i := 113) (by decide +kernel))))
set_option maxRecDepth 20000 in
theorem tF_RX1_16 : Cond.fieldLink RX1 16 "ExamScalesModel" "pupils" "I" ∈ lw_tbl := List.mem_append_right _ (show _ ∈ tables_1_1 ++ (tables_1_2 ++ tables_1_3) from List.mem_append_right _ (List.mem_append_left _ (List.mem_of_getElem? (i := 114) (by decide +kernel))))
set_option maxRecDepth 20000 in
theorem tF_RX1_19 : Cond.fieldLink RX1 19 "ExamScalesModel" "kind" "[I" ∈ lw_tbl := List.mem_append_right _ (show _ ∈ tables_1_1 ++ (tables_1_2 ++ tables_1_3) from List.mem_append_right _ (List.mem_append_left _ (List.mem_of_getElem? (i := 115) (by decide +kernel))))
set_option maxRecDepth 20000 in
theorem tF_RX1_23 : Cond.fieldLink RX1 23 "ExamScalesModel" "most" "[I" ∈ lw_tbl := List.mem_append_right _ (show _ ∈ tables_1_1 ++ (tables_1_2 ++ tables_1_3) from List.mem_append_right _ (List.mem_append_left _ (List.mem_of_getElem? (i := 116) (by decide +kernel))))
set_option maxRecDepth 20000 in
theorem tF_RX1_26 : Cond.fieldLink RX1 26 "ExamScalesModel" "key" "[I" ∈ lw_tbl := List.mem_append_right _ (show _ ∈ tables_1_1 ++ (tables_1_2 ++ tables_1_3) from List.mem_append_right _ (List.mem_append_left _ (List.mem_of_getElem? (i := 117) (by decide +kernel))))
set_option maxRecDepth 20000 in
theorem tF_RX1_29 : Cond.fieldLink RX1 29 "ExamScalesModel" "isStruck" "[Z" ∈ lw_tbl := List.mem_append_right _ (show _ ∈ tables_1_1 ++ (tables_1_2 ++ tables_1_3) from List.mem_append_right _ (List.mem_append_left _ (List.mem_of_getElem? (i := 118) (by decide +kernel))))
set_option maxRecDepth 20000 in
theorem tF_RX1_33 : Cond.fieldLink RX1 33 "ExamScalesModel" "asked" "[I" ∈ lw_tbl := List.mem_append_right _ (show _ ∈ tables_1_1 ++ (tables_1_2 ++ tables_1_3) from List.mem_append_right _ (List.mem_append_left _ (List.mem_of_getElem? (i := 119) (by decide +kernel))))
set_option maxRecDepth 20000 in
theorem tF_RX1_36 : Cond.fieldLink RX1 36 "ExamScalesModel" "size" "[I" ∈ lw_tbl := List.mem_append_right _ (show _ ∈ tables_1_1 ++ (tables_1_2 ++ tables_1_3) from List.mem_append_right _ (List.mem_append_left _ (List.mem_of_getElem? (i := 120) (by decide +kernel))))
set_option maxRecDepth 20000 in
theorem tF_RX1_39 : Cond.fieldLink RX1 39 "ExamScalesModel" "paperOf" "[I" ∈ lw_tbl := List.mem_append_right _ (show _ ∈ tables_1_1 ++ (tables_1_2 ++ tables_1_3) from List.mem_append_right _ (List.mem_append_left _ (List.mem_of_getElem? (i := 121) (by decide +kernel))))
set_option maxRecDepth 20000 in
theorem tF_RX1_42 : Cond.fieldLink RX1 42 "ExamScalesModel" "placeOf" "[I" ∈ lw_tbl := List.mem_append_right _ (show _ ∈ tables_1_1 ++ (tables_1_2 ++ tables_1_3) from List.mem_append_right _ (List.mem_append_left _ (List.mem_of_getElem? (i := 122) (by decide +kernel))))
set_option maxRecDepth 20000 in
theorem tF_RX1_45 : Cond.fieldLink RX1 45 "ExamScalesModel" "given" "[I" ∈ lw_tbl := List.mem_append_right _ (show _ ∈ tables_1_1 ++ (tables_1_2 ++ tables_1_3) from List.mem_append_right _ (List.mem_append_left _ (List.mem_of_getElem? (i := 123) (by decide +kernel))))
set_option maxRecDepth 20000 in
theorem tF_RX1_48 : Cond.fieldLink RX1 48 "ExamScalesModel" "told" "[I" ∈ lw_tbl := List.mem_append_right _ (show _ ∈ tables_1_1 ++ (tables_1_2 ++ tables_1_3) from List.mem_append_right _ (List.mem_append_left _ (List.mem_of_getElem? (i := 124) (by decide +kernel))))
set_option maxRecDepth 20000 in
theorem tL_RX1_questions : Cond.lays RX1 "ExamScalesModel" "questions" "I" ∈ lw_tbl := List.mem_append_right _ (show _ ∈ tables_1_1 ++ (tables_1_2 ++ tables_1_3) from List.mem_append_right _ (List.mem_append_left _ (List.mem_of_getElem? (i := 125) (by decide +kernel))))
set_option maxRecDepth 20000 in
theorem tL_RX1_papers : Cond.lays RX1 "ExamScalesModel" "papers" "I" ∈ lw_tbl := List.mem_append_right _ (show _ ∈ tables_1_1 ++ (tables_1_2 ++ tables_1_3) from List.mem_append_right _ (List.mem_append_left _ (List.mem_of_getElem? (i := 127) (by decide +kernel))))
set_option maxRecDepth 20000 in
theorem tL_RX1_pupils : Cond.lays RX1 "ExamScalesModel" "pupils" "I" ∈ lw_tbl := List.mem_append_right _ (show _ ∈ tables_1_1 ++ (tables_1_2 ++ tables_1_3) from List.mem_append_right _ (List.mem_append_left _ (List.mem_of_getElem? (i := 129) (by decide +kernel))))
set_option maxRecDepth 20000 in
theorem tL_RX1_kind : Cond.laysFinal RX1 "ExamScalesModel" "kind" "[I" ∈ lw_tbl := List.mem_append_right _ (show _ ∈ tables_1_1 ++ (tables_1_2 ++ tables_1_3) from List.mem_append_right _ (List.mem_append_left _ (List.mem_of_getElem? (i := 131) (by decide +kernel))))
set_option maxRecDepth 20000 in
theorem tL_RX1_most : Cond.laysFinal RX1 "ExamScalesModel" "most" "[I" ∈ lw_tbl := List.mem_append_right _ (show _ ∈ tables_1_1 ++ (tables_1_2 ++ tables_1_3) from List.mem_append_right _ (List.mem_append_left _ (List.mem_of_getElem? (i := 133) (by decide +kernel))))
set_option maxRecDepth 20000 in
theorem tL_RX1_key : Cond.laysFinal RX1 "ExamScalesModel" "key" "[I" ∈ lw_tbl := List.mem_append_right _ (show _ ∈ tables_1_1 ++ (tables_1_2 ++ tables_1_3) from List.mem_append_right _ (List.mem_append_left _ (List.mem_of_getElem? (i := 135) (by decide +kernel))))
set_option maxRecDepth 20000 in
theorem tL_RX1_isStruck : Cond.laysFinal RX1 "ExamScalesModel" "isStruck" "[Z" ∈ lw_tbl := List.mem_append_right _ (show _ ∈ tables_1_1 ++ (tables_1_2 ++ tables_1_3) from List.mem_append_right _ (List.mem_append_left _ (List.mem_of_getElem? (i := 137) (by decide +kernel))))
set_option maxRecDepth 20000 in
theorem tL_RX1_asked : Cond.laysFinal RX1 "ExamScalesModel" "asked" "[I" ∈ lw_tbl := List.mem_append_right _ (show _ ∈ tables_1_1 ++ (tables_1_2 ++ tables_1_3) from List.mem_append_right _ (List.mem_append_left _ (List.mem_of_getElem? (i := 139) (by decide +kernel))))
set_option maxRecDepth 20000 in
theorem tL_RX1_size : Cond.laysFinal RX1 "ExamScalesModel" "size" "[I" ∈ lw_tbl := List.mem_append_right _ (show _ ∈ tables_1_1 ++ (tables_1_2 ++ tables_1_3) from List.mem_append_right _ (List.mem_append_left _ (List.mem_of_getElem? (i := 141) (by decide +kernel))))
set_option maxRecDepth 20000 in
theorem tL_RX1_paperOf : Cond.laysFinal RX1 "ExamScalesModel" "paperOf" "[I" ∈ lw_tbl := List.mem_append_right _ (show _ ∈ tables_1_1 ++ (tables_1_2 ++ tables_1_3) from List.mem_append_right _ (List.mem_append_left _ (List.mem_of_getElem? (i := 143) (by decide +kernel))))
set_option maxRecDepth 20000 in
theorem tL_RX1_placeOf : Cond.laysFinal RX1 "ExamScalesModel" "placeOf" "[I" ∈ lw_tbl := List.mem_append_right _ (show _ ∈ tables_1_1 ++ (tables_1_2 ++ tables_1_3) from List.mem_append_right _ (List.mem_append_left _ (List.mem_of_getElem? (i := 145) (by decide +kernel))))
set_option maxRecDepth 20000 in
theorem tL_RX1_given : Cond.laysFinal RX1 "ExamScalesModel" "given" "[I" ∈ lw_tbl := List.mem_append_right _ (show _ ∈ tables_1_1 ++ (tables_1_2 ++ tables_1_3) from List.mem_append_right _ (List.mem_append_left _ (List.mem_of_getElem? (i := 147) (by decide +kernel))))
set_option maxRecDepth 20000 in
theorem tL_RX1_told : Cond.laysFinal RX1 "ExamScalesModel" "told" "[I" ∈ lw_tbl := List.mem_append_right _ (show _ ∈ tables_1_1 ++ (tables_1_2 ++ tables_1_3) from List.mem_append_right _ (List.mem_append_left _ (List.mem_of_getElem? (i := 149) (by decide +kernel))))
set_option maxRecDepth 20000 in
theorem tA_boolean : Cond.arrayClass (.boolean) ∈ lw_tbl := List.mem_append_right _ (show _ ∈ tables_1_1 ++ (tables_1_2 ++ tables_1_3) from List.mem_append_right _ (List.mem_append_left _ (List.mem_of_getElem? (i := 152) (by decide +kernel))))
set_option maxRecDepth 20000 in
theorem tM_RL_17 : Cond.methodLink RL 17 yX1_question ∈ lw_tbl := List.mem_append_right _ (show _ ∈ tables_1_1 ++ (tables_1_2 ++ tables_1_3) from List.mem_append_right _ (List.mem_append_left _ (List.mem_of_getElem? (i := 153) (by decide +kernel))))
set_option maxRecDepth 20000 in
theorem tV_yX1_question : Cond.instanceMethod yX1_question ∈ lw_tbl := List.mem_append_right _ (show _ ∈ tables_1_1 ++ (tables_1_2 ++ tables_1_3) from List.mem_append_right _ (List.mem_append_left _ (List.mem_of_getElem? (i := 154) (by decide +kernel))))
set_option maxRecDepth 20000 in
theorem tP_yX1_question : Cond.selects yX1_question.cls yX1_question yX1_question ∈ lw_tbl := List.mem_append_right _ (show _ ∈ tables_1_1 ++ (tables_1_2 ++ tables_1_3) from List.mem_append_right _ (List.mem_append_left _ (List.mem_of_getElem? (i := 155) (by decide +kernel))))
set_option maxRecDepth 20000 in
theorem tK_yX1_question : Cond.code yX1_question cX1_question 4 (Option.some Jvm.ClassFile.FieldType.int) ∈ lw_tbl := List.mem_append_right _ (show _ ∈ tables_1_1 ++ (tables_1_2 ++ tables_1_3) from List.mem_append_right _ (List.mem_append_left _ (List.mem_of_getElem? (i := 156) rfl)))
set_option maxRecDepth 20000 in
theorem tM_RX1_51 : Cond.methodLink RX1 51 yX1_in ∈ lw_tbl := List.mem_append_right _ (show _ ∈ tables_1_1 ++ (tables_1_2 ++ tables_1_3) from List.mem_append_right _ (List.mem_append_left _ (List.mem_of_getElem? (i := 157) (by decide +kernel))))
set_option maxRecDepth 20000 in
theorem tV_yX1_in : Cond.instanceMethod yX1_in ∈ lw_tbl := List.mem_append_right _ (show _ ∈ tables_1_1 ++ (tables_1_2 ++ tables_1_3) from List.mem_append_right _ (List.mem_append_left _ (List.mem_of_getElem? (i := 159) (by decide +kernel))))
set_option maxRecDepth 20000 in
theorem tK_yX1_in : Cond.code yX1_in cX1_in 4 (Option.some Jvm.ClassFile.FieldType.boolean) ∈ lw_tbl := List.mem_append_right _ (show _ ∈ tables_1_1 ++ (tables_1_2 ++ tables_1_3) from List.mem_append_right _ (List.mem_append_left _ (List.mem_of_getElem? (i := 160) rfl)))
set_option maxRecDepth 20000 in
theorem tM_RX1_55 : Cond.methodLink RX1 55 yX1_isKey ∈ lw_tbl := List.mem_append_right _ (show _ ∈ tables_1_1 ++ (tables_1_2 ++ tables_1_3) from List.mem_append_right _ (List.mem_append_left _ (List.mem_of_getElem? (i := 161) (by decide +kernel))))
set_option maxRecDepth 20000 in
theorem tV_yX1_isKey : Cond.instanceMethod yX1_isKey ∈ lw_tbl := List.mem_append_right _ (show _ ∈ tables_1_1 ++ (tables_1_2 ++ tables_1_3) from List.mem_append_right _ (List.mem_append_left _ (List.mem_of_getElem? (i := 163) (by decide +kernel))))
set_option maxRecDepth 20000 in
theorem tK_yX1_isKey : Cond.code yX1_isKey cX1_isKey 3 (Option.some Jvm.ClassFile.FieldType.boolean) ∈ lw_tbl := List.mem_append_right _ (show _ ∈ tables_1_1 ++ (tables_1_2 ++ tables_1_3) from List.mem_append_right _ (List.mem_append_left _ (List.mem_of_getElem? (i := 164) rfl)))
set_option maxRecDepth 20000 in
theorem tM_RL_22 : Cond.methodLink RL 22 yX1_key ∈ lw_tbl := List.mem_append_right _ (show _ ∈ tables_1_1 ++ (tables_1_2 ++ tables_1_3) from List.mem_append_right _ (List.mem_append_left _ (List.mem_of_getElem? (i := 165) (by decide +kernel))))
set_option maxRecDepth 20000 in
theorem tV_yX1_key : Cond.instanceMethod yX1_key ∈ lw_tbl := List.mem_append_right _ (show _ ∈ tables_1_1 ++ (tables_1_2 ++ tables_1_3) from List.mem_append_right _ (List.mem_append_left _ (List.mem_of_getElem? (i := 166) (by decide +kernel))))
set_option maxRecDepth 20000 in
theorem tP_yX1_key : Cond.selects yX1_key.cls yX1_key yX1_key ∈ lw_tbl := List.mem_append_right _ (show _ ∈ tables_1_1 ++ (tables_1_2 ++ tables_1_3) from List.mem_append_right _ (List.mem_append_left _ (List.mem_of_getElem? (i := 167) (by decide +kernel))))
set_option maxRecDepth 20000 in
theorem tK_yX1_key : Cond.code yX1_key cX1_key 4 (Option.some Jvm.ClassFile.FieldType.int) ∈ lw_tbl := List.mem_append_right _ (show _ ∈ tables_1_1 ++ (tables_1_2 ++ tables_1_3) from List.mem_append_right _ (List.mem_append_left _ (List.mem_of_getElem? (i := 168) rfl)))
set_option maxRecDepth 20000 in
theorem tM_RX1_59 : Cond.methodLink RX1 59 yX1_isQuestion ∈ lw_tbl := List.mem_append_right _ (show _ ∈ tables_1_1 ++ (tables_1_2 ++ tables_1_3) from List.mem_append_right _ (List.mem_append_left _ (List.mem_of_getElem? (i := 169) (by decide +kernel))))
set_option maxRecDepth 20000 in
theorem tV_yX1_isQuestion : Cond.instanceMethod yX1_isQuestion ∈ lw_tbl := List.mem_append_right _ (show _ ∈ tables_1_1 ++ (tables_1_2 ++ tables_1_3) from List.mem_append_right _ (List.mem_append_left _ (List.mem_of_getElem? (i := 171) (by decide +kernel))))
set_option maxRecDepth 20000 in
theorem tK_yX1_isQuestion : Cond.code yX1_isQuestion cX1_isQuestion 2 (Option.some Jvm.ClassFile.FieldType.boolean) ∈ lw_tbl := List.mem_append_right _ (show _ ∈ tables_1_1 ++ (tables_1_2 ++ tables_1_3) from List.mem_append_right _ (List.mem_append_left _ (List.mem_of_getElem? (i := 172) rfl)))
set_option maxRecDepth 20000 in
theorem tM_RL_26 : Cond.methodLink RL 26 yX1_strike ∈ lw_tbl := List.mem_append_right _ (show _ ∈ tables_1_1 ++ (tables_1_2 ++ tables_1_3) from List.mem_append_right _ (List.mem_append_left _ (List.mem_of_getElem? (i := 173) (by decide +kernel))))
set_option maxRecDepth 20000 in
theorem tV_yX1_strike : Cond.instanceMethod yX1_strike ∈ lw_tbl := List.mem_append_right _ (show _ ∈ tables_1_1 ++ (tables_1_2 ++ tables_1_3) from List.mem_append_right _ (List.mem_append_left _ (List.mem_of_getElem? (i := 174) (by decide +kernel))))
set_option maxRecDepth 20000 in
theorem tP_yX1_strike : Cond.selects yX1_strike.cls yX1_strike yX1_strike ∈ lw_tbl := List.mem_append_right _ (show _ ∈ tables_1_1 ++ (tables_1_2 ++ tables_1_3) from List.mem_append_right _ (List.mem_append_left _ (List.mem_of_getElem? (i := 175) (by decide +kernel))))
set_option maxRecDepth 20000 in
theorem tK_yX1_strike : Cond.code yX1_strike cX1_strike 4 (Option.some Jvm.ClassFile.FieldType.int) ∈ lw_tbl := List.mem_append_right _ (show _ ∈ tables_1_1 ++ (tables_1_2 ++ tables_1_3) from List.mem_append_right _ (List.mem_append_left _ (List.mem_of_getElem? (i := 176) rfl)))
set_option maxRecDepth 20000 in
theorem tM_RL_31 : Cond.methodLink RL 31 yX1_paper ∈ lw_tbl := List.mem_append_right _ (show _ ∈ tables_1_1 ++ (tables_1_2 ++ tables_1_3) from List.mem_append_right _ (List.mem_append_left _ (List.mem_of_getElem? (i := 177) (by decide +kernel))))
set_option maxRecDepth 20000 in
theorem tV_yX1_paper : Cond.instanceMethod yX1_paper ∈ lw_tbl := List.mem_append_right _ (show _ ∈ tables_1_1 ++ (tables_1_2 ++ tables_1_3) from List.mem_append_right _ (List.mem_append_left _ (List.mem_of_getElem? (i := 178) (by decide +kernel))))
set_option maxRecDepth 20000 in
theorem tP_yX1_paper : Cond.selects yX1_paper.cls yX1_paper yX1_paper ∈ lw_tbl := List.mem_append_right _ (show _ ∈ tables_1_1 ++ (tables_1_2 ++ tables_1_3) from List.mem_append_right _ (List.mem_append_left _ (List.mem_of_getElem? (i := 179) (by decide +kernel))))
set_option maxRecDepth 20000 in
theorem tK_yX1_paper : Cond.code yX1_paper cX1_paper 1 (Option.some Jvm.ClassFile.FieldType.int) ∈ lw_tbl := List.mem_append_right _ (show _ ∈ tables_1_1 ++ (tables_1_2 ++ tables_1_3) from List.mem_append_right _ (List.mem_append_left _ (List.mem_of_getElem? (i := 180) rfl)))
set_option maxRecDepth 20000 in
theorem tM_RL_35 : Cond.methodLink RL 35 yX1_put ∈ lw_tbl := List.mem_append_right _ (show _ ∈ tables_1_1 ++ (tables_1_2 ++ tables_1_3) from List.mem_append_right _ (List.mem_append_left _ (List.mem_of_getElem? (i := 181) (by decide +kernel))))
set_option maxRecDepth 20000 in
theorem tV_yX1_put : Cond.instanceMethod yX1_put ∈ lw_tbl := List.mem_append_right _ (show _ ∈ tables_1_1 ++ (tables_1_2 ++ tables_1_3) from List.mem_append_right _ (List.mem_append_left _ (List.mem_of_getElem? (i := 182) (by decide +kernel))))
set_option maxRecDepth 20000 in
theorem tP_yX1_put : Cond.selects yX1_put.cls yX1_put yX1_put ∈ lw_tbl := List.mem_append_right _ (show _ ∈ tables_1_1 ++ (tables_1_2 ++ tables_1_3) from List.mem_append_right _ (List.mem_append_left _ (List.mem_of_getElem? (i := 183) (by decide +kernel))))
set_option maxRecDepth 20000 in
theorem tK_yX1_put : Cond.code yX1_put cX1_put 4 (Option.some Jvm.ClassFile.FieldType.int) ∈ lw_tbl := List.mem_append_right _ (show _ ∈ tables_1_1 ++ (tables_1_2 ++ tables_1_3) from List.mem_append_right _ (List.mem_append_left _ (List.mem_of_getElem? (i := 184) rfl)))
set_option maxRecDepth 20000 in
theorem tM_RX1_63 : Cond.methodLink RX1 63 yX1_isPaper ∈ lw_tbl := List.mem_append_right _ (show _ ∈ tables_1_1 ++ (tables_1_2 ++ tables_1_3) from List.mem_append_right _ (List.mem_append_left _ (List.mem_of_getElem? (i := 185) (by decide +kernel))))
set_option maxRecDepth 20000 in
theorem tV_yX1_isPaper : Cond.instanceMethod yX1_isPaper ∈ lw_tbl := List.mem_append_right _ (show _ ∈ tables_1_1 ++ (tables_1_2 ++ tables_1_3) from List.mem_append_right _ (List.mem_append_left _ (List.mem_of_getElem? (i := 187) (by decide +kernel))))
set_option maxRecDepth 20000 in
theorem tK_yX1_isPaper : Cond.code yX1_isPaper cX1_isPaper 2 (Option.some Jvm.ClassFile.FieldType.boolean) ∈ lw_tbl := List.mem_append_right _ (show _ ∈ tables_1_1 ++ (tables_1_2 ++ tables_1_3) from List.mem_append_right _ (List.mem_append_left _ (List.mem_of_getElem? (i := 188) rfl)))
set_option maxRecDepth 20000 in
theorem tM_RX1_66 : Cond.methodLink RX1 66 yX1_spot ∈ lw_tbl := List.mem_append_right _ (show _ ∈ tables_1_1 ++ (tables_1_2 ++ tables_1_3) from List.mem_append_right _ (List.mem_append_left _ (List.mem_of_getElem? (i := 189) (by decide +kernel))))
set_option maxRecDepth 20000 in
theorem tV_yX1_spot : Cond.instanceMethod yX1_spot ∈ lw_tbl := List.mem_append_right _ (show _ ∈ tables_1_1 ++ (tables_1_2 ++ tables_1_3) from List.mem_append_right _ (List.mem_append_left _ (List.mem_of_getElem? (i := 191) (by decide +kernel))))
set_option maxRecDepth 20000 in
theorem tK_yX1_spot : Cond.code yX1_spot cX1_spot 4 (Option.some Jvm.ClassFile.FieldType.int) ∈ lw_tbl := List.mem_append_right _ (show _ ∈ tables_1_1 ++ (tables_1_2 ++ tables_1_3) from List.mem_append_right _ (List.mem_append_left _ (List.mem_of_getElem? (i := 192) rfl)))
set_option maxRecDepth 20000 in
theorem tM_RX1_70 : Cond.methodLink RX1 70 yX1_groupSize ∈ lw_tbl := List.mem_append_right _ (show _ ∈ tables_1_1 ++ (tables_1_2 ++ tables_1_3) from List.mem_append_right _ (List.mem_append_left _ (List.mem_of_getElem? (i := 193) (by decide +kernel))))
set_option maxRecDepth 20000 in
theorem tV_yX1_groupSize : Cond.instanceMethod yX1_groupSize ∈ lw_tbl := List.mem_append_right _ (show _ ∈ tables_1_1 ++ (tables_1_2 ++ tables_1_3) from List.mem_append_right _ (List.mem_append_left _ (List.mem_of_getElem? (i := 195) (by decide +kernel))))
set_option maxRecDepth 20000 in
theorem tK_yX1_groupSize : Cond.code yX1_groupSize cX1_groupSize 4 (Option.some Jvm.ClassFile.FieldType.int) ∈ lw_tbl := List.mem_append_right _ (show _ ∈ tables_1_1 ++ (tables_1_2 ++ tables_1_3) from List.mem_append_right _ (List.mem_append_left _ (List.mem_of_getElem? (i := 196) rfl)))
set_option maxRecDepth 20000 in
theorem tM_RL_39 : Cond.methodLink RL 39 yX1_at ∈ lw_tbl := List.mem_append_right _ (show _ ∈ tables_1_1 ++ (tables_1_2 ++ tables_1_3) from List.mem_append_right _ (List.mem_append_left _ (List.mem_of_getElem? (i := 197) (by decide +kernel))))
set_option maxRecDepth 20000 in
theorem tV_yX1_at : Cond.instanceMethod yX1_at ∈ lw_tbl := List.mem_append_right _ (show _ ∈ tables_1_1 ++ (tables_1_2 ++ tables_1_3) from List.mem_append_right _ (List.mem_append_left _ (List.mem_of_getElem? (i := 198) (by decide +kernel))))
set_option maxRecDepth 20000 in
theorem tP_yX1_at : Cond.selects yX1_at.cls yX1_at yX1_at ∈ lw_tbl := List.mem_append_right _ (show _ ∈ tables_1_1 ++ (tables_1_2 ++ tables_1_3) from List.mem_append_right _ (List.mem_append_left _ (List.mem_of_getElem? (i := 199) (by decide +kernel))))
set_option maxRecDepth 20000 in
theorem tK_yX1_at : Cond.code yX1_at cX1_at 3 (Option.some Jvm.ClassFile.FieldType.int) ∈ lw_tbl := List.mem_append_right _ (show _ ∈ tables_1_1 ++ (tables_1_2 ++ tables_1_3) from List.mem_append_right _ (List.mem_append_left _ (List.mem_of_getElem? (i := 200) rfl)))
set_option maxRecDepth 20000 in
theorem tM_RL_43 : Cond.methodLink RL 43 yX1_pupil ∈ lw_tbl := List.mem_append_right _ (show _ ∈ tables_1_1 ++ (tables_1_2 ++ tables_1_3) from List.mem_append_right _ (List.mem_append_left _ (List.mem_of_getElem? (i := 201) (by decide +kernel))))
set_option maxRecDepth 20000 in
theorem tV_yX1_pupil : Cond.instanceMethod yX1_pupil ∈ lw_tbl := List.mem_append_right _ (show _ ∈ tables_1_1 ++ (tables_1_2 ++ tables_1_3) from List.mem_append_right _ (List.mem_append_left _ (List.mem_of_getElem? (i := 202) (by decide +kernel))))
set_option maxRecDepth 20000 in
theorem tP_yX1_pupil : Cond.selects yX1_pupil.cls yX1_pupil yX1_pupil ∈ lw_tbl := List.mem_append_right _ (show _ ∈ tables_1_1 ++ (tables_1_2 ++ tables_1_3) from List.mem_append_right _ (List.mem_append_left _ (List.mem_of_getElem? (i := 203) (by decide +kernel))))
set_option maxRecDepth 20000 in
theorem tK_yX1_pupil : Cond.code yX1_pupil cX1_pupil 4 (Option.some Jvm.ClassFile.FieldType.int) ∈ lw_tbl := List.mem_append_right _ (show _ ∈ tables_1_1 ++ (tables_1_2 ++ tables_1_3) from List.mem_append_right _ (List.mem_append_left _ (List.mem_of_getElem? (i := 204) rfl)))
set_option maxRecDepth 20000 in
theorem tM_RL_47 : Cond.methodLink RL 47 yX1_answer ∈ lw_tbl := List.mem_append_right _ (show _ ∈ tables_1_1 ++ (tables_1_2 ++ tables_1_3) from List.mem_append_right _ (List.mem_append_left _ (List.mem_of_getElem? (i := 205) (by decide +kernel))))
set_option maxRecDepth 20000 in
theorem tV_yX1_answer : Cond.instanceMethod yX1_answer ∈ lw_tbl := List.mem_append_right _ (show _ ∈ tables_1_1 ++ (tables_1_2 ++ tables_1_3) from List.mem_append_right _ (List.mem_append_left _ (List.mem_of_getElem? (i := 206) (by decide +kernel))))
set_option maxRecDepth 20000 in
theorem tP_yX1_answer : Cond.selects yX1_answer.cls yX1_answer yX1_answer ∈ lw_tbl := List.mem_append_right _ (show _ ∈ tables_1_1 ++ (tables_1_2 ++ tables_1_3) from List.mem_append_right _ (List.mem_append_left _ (List.mem_of_getElem? (i := 207) (by decide +kernel))))
set_option maxRecDepth 20000 in
theorem tK_yX1_answer : Cond.code yX1_answer cX1_answer 5 (Option.some Jvm.ClassFile.FieldType.int) ∈ lw_tbl := List.mem_append_right _ (show _ ∈ tables_1_1 ++ (tables_1_2 ++ tables_1_3) from List.mem_append_right _ (List.mem_append_left _ (List.mem_of_getElem? (i := 208) rfl)))
set_option maxRecDepth 20000 in
theorem tM_RX1_77 : Cond.methodLink RX1 77 yX1_own ∈ lw_tbl := List.mem_append_right _ (show _ ∈ tables_1_1 ++ (tables_1_2 ++ tables_1_3) from List.mem_append_right _ (List.mem_append_left _ (List.mem_of_getElem? (i := 209) (by decide +kernel))))
set_option maxRecDepth 20000 in
theorem tV_yX1_own : Cond.instanceMethod yX1_own ∈ lw_tbl := List.mem_append_right _ (show _ ∈ tables_1_1 ++ (tables_1_2 ++ tables_1_3) from List.mem_append_right _ (List.mem_append_left _ (List.mem_of_getElem? (i := 211) (by decide +kernel))))
set_option maxRecDepth 20000 in
theorem tK_yX1_own : Cond.code yX1_own cX1_own 3 (Option.some Jvm.ClassFile.FieldType.int) ∈ lw_tbl := List.mem_append_right _ (show _ ∈ tables_1_1 ++ (tables_1_2 ++ tables_1_3) from List.mem_append_right _ (List.mem_append_left _ (List.mem_of_getElem? (i := 212) rfl)))
set_option maxRecDepth 20000 in
theorem tM_RX1_74 : Cond.methodLink RX1 74 yX1_isPupil ∈ lw_tbl := List.mem_append_right _ (show _ ∈ tables_1_1 ++ (tables_1_2 ++ tables_1_3) from List.mem_append_right _ (List.mem_append_left _ (List.mem_of_getElem? (i := 213) (by decide +kernel))))
set_option maxRecDepth 20000 in
theorem tV_yX1_isPupil : Cond.instanceMethod yX1_isPupil ∈ lw_tbl := List.mem_append_right _ (show _ ∈ tables_1_1 ++ (tables_1_2 ++ tables_1_3) from List.mem_append_right _ (List.mem_append_left _ (List.mem_of_getElem? (i := 215) (by decide +kernel))))
set_option maxRecDepth 20000 in
theorem tK_yX1_isPupil : Cond.code yX1_isPupil cX1_isPupil 2 (Option.some Jvm.ClassFile.FieldType.boolean) ∈ lw_tbl := List.mem_append_right _ (show _ ∈ tables_1_1 ++ (tables_1_2 ++ tables_1_3) from List.mem_append_right _ (List.mem_append_left _ (List.mem_of_getElem? (i := 216) rfl)))
set_option maxRecDepth 20000 in
theorem tM_RX1_80 : Cond.methodLink RX1 80 yX1_isAnswer ∈ lw_tbl := List.mem_append_right _ (show _ ∈ tables_1_1 ++ (tables_1_2 ++ tables_1_3) from List.mem_append_right _ (List.mem_append_left _ (List.mem_of_getElem? (i := 217) (by decide +kernel))))
set_option maxRecDepth 20000 in
theorem tV_yX1_isAnswer : Cond.instanceMethod yX1_isAnswer ∈ lw_tbl := List.mem_append_right _ (show _ ∈ tables_1_1 ++ (tables_1_2 ++ tables_1_3) from List.mem_append_right _ (List.mem_append_left _ (List.mem_of_getElem? (i := 219) (by decide +kernel))))
set_option maxRecDepth 20000 in
theorem tK_yX1_isAnswer : Cond.code yX1_isAnswer cX1_isAnswer 4 (Option.some Jvm.ClassFile.FieldType.boolean) ∈ lw_tbl := List.mem_append_right _ (show _ ∈ tables_1_1 ++ (tables_1_2 ++ tables_1_3) from List.mem_append_right _ (List.mem_append_left _ (List.mem_of_getElem? (i := 220) rfl)))
set_option maxRecDepth 20000 in
theorem tM_RX1_83 : Cond.methodLink RX1 83 yX1_worth ∈ lw_tbl := List.mem_append_right _ (show _ ∈ tables_1_1 ++ (tables_1_2 ++ tables_1_3) from List.mem_append_right _ (List.mem_append_left _ (List.mem_of_getElem? (i := 221) (by decide +kernel))))
set_option maxRecDepth 20000 in
theorem tV_yX1_worth : Cond.instanceMethod yX1_worth ∈ lw_tbl := List.mem_append_right _ (show _ ∈ tables_1_1 ++ (tables_1_2 ++ tables_1_3) from List.mem_append_right _ (List.mem_append_left _ (List.mem_of_getElem? (i := 223) (by decide +kernel))))
set_option maxRecDepth 20000 in
theorem tK_yX1_worth : Cond.code yX1_worth cX1_worth 4 (Option.some Jvm.ClassFile.FieldType.int) ∈ lw_tbl := List.mem_append_right _ (show _ ∈ tables_1_1 ++ (tables_1_2 ++ tables_1_3) from List.mem_append_right _ (List.mem_append_left _ (List.mem_of_getElem? (i := 224) rfl)))
set_option maxRecDepth 20000 in
theorem tM_RL_51 : Cond.methodLink RL 51 yX1_gap ∈ lw_tbl := List.mem_append_right _ (show _ ∈ tables_1_1 ++ (tables_1_2 ++ tables_1_3) from List.mem_append_right _ (List.mem_append_left _ (List.mem_of_getElem? (i := 225) (by decide +kernel))))
set_option maxRecDepth 20000 in
theorem tV_yX1_gap : Cond.instanceMethod yX1_gap ∈ lw_tbl := List.mem_append_right _ (show _ ∈ tables_1_1 ++ (tables_1_2 ++ tables_1_3) from List.mem_append_right _ (List.mem_append_left _ (List.mem_of_getElem? (i := 226) (by decide +kernel))))
set_option maxRecDepth 20000 in
theorem tP_yX1_gap : Cond.selects yX1_gap.cls yX1_gap yX1_gap ∈ lw_tbl := List.mem_append_right _ (show _ ∈ tables_1_1 ++ (tables_1_2 ++ tables_1_3) from List.mem_append_right _ (List.mem_append_left _ (List.mem_of_getElem? (i := 227) (by decide +kernel))))
set_option maxRecDepth 20000 in
theorem tK_yX1_gap : Cond.code yX1_gap cX1_gap 5 (Option.some Jvm.ClassFile.FieldType.int) ∈ lw_tbl := List.mem_append_right _ (show _ ∈ tables_1_1 ++ (tables_1_2 ++ tables_1_3) from List.mem_append_right _ (List.mem_append_left _ (List.mem_of_getElem? (i := 228) rfl)))
set_option maxRecDepth 20000 in
theorem tM_RL_58 : Cond.methodLink RL 58 yX1_row ∈ lw_tbl := List.mem_append_right _ (show _ ∈ tables_1_1 ++ (tables_1_2 ++ tables_1_3) from List.mem_append_right _ (List.mem_append_left _ (List.mem_of_getElem? (i := 229) (by decide +kernel))))
set_option maxRecDepth 20000 in
theorem tV_yX1_row : Cond.instanceMethod yX1_row ∈ lw_tbl := List.mem_append_right _ (show _ ∈ tables_1_1 ++ (tables_1_2 ++ tables_1_3) from List.mem_append_right _ (List.mem_append_left _ (List.mem_of_getElem? (i := 230) (by decide +kernel))))
set_option maxRecDepth 20000 in
theorem tP_yX1_row : Cond.selects yX1_row.cls yX1_row yX1_row ∈ lw_tbl := List.mem_append_right _ (show _ ∈ tables_1_1 ++ (tables_1_2 ++ tables_1_3) from List.mem_append_right _ (List.mem_append_left _ (List.mem_of_getElem? (i := 231) (by decide +kernel))))
set_option maxRecDepth 20000 in
theorem tK_yX1_row : Cond.code yX1_row cX1_row 7 (Option.some Jvm.ClassFile.FieldType.int) ∈ lw_tbl := List.mem_append_right _ (show _ ∈ tables_1_1 ++ (tables_1_2 ++ tables_1_3) from List.mem_append_right _ (List.mem_append_left _ (List.mem_of_getElem? (i := 232) rfl)))
set_option maxRecDepth 20000 in
theorem tJ_RX1_86 : Cond.constantLong RX1 86 (255) ∈ lw_tbl := List.mem_append_right _ (show _ ∈ tables_1_1 ++ (tables_1_2 ++ tables_1_3) from List.mem_append_right _ (List.mem_append_left _ (List.mem_of_getElem? (i := 233) (by decide +kernel))))
set_option maxRecDepth 20000 in
theorem tM_RL_62 : Cond.methodLink RL 62 yX1_mark ∈ lw_tbl := List.mem_append_right _ (show _ ∈ tables_1_1 ++ (tables_1_2 ++ tables_1_3) from List.mem_append_right _ (List.mem_append_left _ (List.mem_of_getElem? (i := 234) (by decide +kernel))))
set_option maxRecDepth 20000 in
theorem tV_yX1_mark : Cond.instanceMethod yX1_mark ∈ lw_tbl := List.mem_append_right _ (show _ ∈ tables_1_1 ++ (tables_1_2 ++ tables_1_3) from List.mem_append_right _ (List.mem_append_left _ (List.mem_of_getElem? (i := 235) (by decide +kernel))))
set_option maxRecDepth 20000 in
theorem tP_yX1_mark : Cond.selects yX1_mark.cls yX1_mark yX1_mark ∈ lw_tbl := List.mem_append_right _ (show _ ∈ tables_1_1 ++ (tables_1_2 ++ tables_1_3) from List.mem_append_right _ (List.mem_append_left _ (List.mem_of_getElem? (i := 236) (by decide +kernel))))
set_option maxRecDepth 20000 in
theorem tK_yX1_mark : Cond.code yX1_mark cX1_mark 4 (Option.some Jvm.ClassFile.FieldType.int) ∈ lw_tbl := List.mem_append_right _ (show _ ∈ tables_1_1 ++ (tables_1_2 ++ tables_1_3) from List.mem_append_right _ (List.mem_append_left _ (List.mem_of_getElem? (i := 237) rfl)))
set_option maxRecDepth 20000 in
theorem tM_RX1_88 : Cond.methodLink RX1 88 yX1_markAt ∈ lw_tbl := List.mem_append_right _ (show _ ∈ tables_1_1 ++ (tables_1_2 ++ tables_1_3) from List.mem_append_right _ (List.mem_append_left _ (List.mem_of_getElem? (i := 238) (by decide +kernel))))
set_option maxRecDepth 20000 in
theorem tV_yX1_markAt : Cond.instanceMethod yX1_markAt ∈ lw_tbl := List.mem_append_right _ (show _ ∈ tables_1_1 ++ (tables_1_2 ++ tables_1_3) from List.mem_append_right _ (List.mem_append_right _ (List.mem_of_getElem? (i := 0) (by decide +kernel))))
set_option maxRecDepth 20000 in
theorem tK_yX1_markAt : Cond.code yX1_markAt cX1_markAt 3 (Option.some Jvm.ClassFile.FieldType.int) ∈ lw_tbl := List.mem_append_right _ (show _ ∈ tables_1_1 ++ (tables_1_2 ++ tables_1_3) from List.mem_append_right _ (List.mem_append_right _ (List.mem_of_getElem? (i := 1) rfl)))
set_option maxRecDepth 20000 in
theorem tM_RL_66 : Cond.methodLink RL 66 yX1_come ∈ lw_tbl := List.mem_append_right _ (show _ ∈ tables_1_1 ++ (tables_1_2 ++ tables_1_3) from List.mem_append_right _ (List.mem_append_right _ (List.mem_of_getElem? (i := 2) (by decide +kernel))))
set_option maxRecDepth 20000 in
theorem tV_yX1_come : Cond.instanceMethod yX1_come ∈ lw_tbl := List.mem_append_right _ (show _ ∈ tables_1_1 ++ (tables_1_2 ++ tables_1_3) from List.mem_append_right _ (List.mem_append_right _ (List.mem_of_getElem? (i := 3) (by decide +kernel))))
set_option maxRecDepth 20000 in
theorem tP_yX1_come : Cond.selects yX1_come.cls yX1_come yX1_come ∈ lw_tbl := List.mem_append_right _ (show _ ∈ tables_1_1 ++ (tables_1_2 ++ tables_1_3) from List.mem_append_right _ (List.mem_append_right _ (List.mem_of_getElem? (i := 4) (by decide +kernel))))
set_option maxRecDepth 20000 in
theorem tK_yX1_come : Cond.code yX1_come cX1_come 4 (Option.some Jvm.ClassFile.FieldType.int) ∈ lw_tbl := List.mem_append_right _ (show _ ∈ tables_1_1 ++ (tables_1_2 ++ tables_1_3) from List.mem_append_right _ (List.mem_append_right _ (List.mem_of_getElem? (i := 5) rfl)))
set_option maxRecDepth 20000 in
theorem tM_RX1_91 : Cond.methodLink RX1 91 yX1_cameTo ∈ lw_tbl := List.mem_append_right _ (show _ ∈ tables_1_1 ++ (tables_1_2 ++ tables_1_3) from List.mem_append_right _ (List.mem_append_right _ (List.mem_of_getElem? (i := 6) (by decide +kernel))))
set_option maxRecDepth 20000 in
theorem tV_yX1_cameTo : Cond.instanceMethod yX1_cameTo ∈ lw_tbl := List.mem_append_right _ (show _ ∈ tables_1_1 ++ (tables_1_2 ++ tables_1_3) from List.mem_append_right _ (List.mem_append_right _ (List.mem_of_getElem? (i := 8) (by decide +kernel))))
set_option maxRecDepth 20000 in
theorem tK_yX1_cameTo : Cond.code yX1_cameTo cX1_cameTo 5 (Option.some Jvm.ClassFile.FieldType.boolean) ∈ lw_tbl := List.mem_append_right _ (show _ ∈ tables_1_1 ++ (tables_1_2 ++ tables_1_3) from List.mem_append_right _ (List.mem_append_right _ (List.mem_of_getElem? (i := 9) rfl)))
set_option maxRecDepth 20000 in
theorem tM_RL_71 : Cond.methodLink RL 71 yX1_total ∈ lw_tbl := List.mem_append_right _ (show _ ∈ tables_1_1 ++ (tables_1_2 ++ tables_1_3) from List.mem_append_right _ (List.mem_append_right _ (List.mem_of_getElem? (i := 10) (by decide +kernel))))
set_option maxRecDepth 20000 in
theorem tV_yX1_total : Cond.instanceMethod yX1_total ∈ lw_tbl := List.mem_append_right _ (show _ ∈ tables_1_1 ++ (tables_1_2 ++ tables_1_3) from List.mem_append_right _ (List.mem_append_right _ (List.mem_of_getElem? (i := 11) (by decide +kernel))))
set_option maxRecDepth 20000 in
theorem tP_yX1_total : Cond.selects yX1_total.cls yX1_total yX1_total ∈ lw_tbl := List.mem_append_right _ (show _ ∈ tables_1_1 ++ (tables_1_2 ++ tables_1_3) from List.mem_append_right _ (List.mem_append_right _ (List.mem_of_getElem? (i := 12) (by decide +kernel))))
set_option maxRecDepth 20000 in
theorem tK_yX1_total : Cond.code yX1_total cX1_total 2 (Option.some Jvm.ClassFile.FieldType.int) ∈ lw_tbl := List.mem_append_right _ (show _ ∈ tables_1_1 ++ (tables_1_2 ++ tables_1_3) from List.mem_append_right _ (List.mem_append_right _ (List.mem_of_getElem? (i := 13) rfl)))
set_option maxRecDepth 20000 in
theorem tM_RX1_97 : Cond.methodLink RX1 97 yX1_totalOf ∈ lw_tbl := List.mem_append_right _ (show _ ∈ tables_1_1 ++ (tables_1_2 ++ tables_1_3) from List.mem_append_right _ (List.mem_append_right _ (List.mem_of_getElem? (i := 14) (by decide +kernel))))
set_option maxRecDepth 20000 in
theorem tV_yX1_totalOf : Cond.instanceMethod yX1_totalOf ∈ lw_tbl := List.mem_append_right _ (show _ ∈ tables_1_1 ++ (tables_1_2 ++ tables_1_3) from List.mem_append_right _ (List.mem_append_right _ (List.mem_of_getElem? (i := 16) (by decide +kernel))))
set_option maxRecDepth 20000 in
theorem tK_yX1_totalOf : Cond.code yX1_totalOf cX1_totalOf 4 (Option.some Jvm.ClassFile.FieldType.int) ∈ lw_tbl := List.mem_append_right _ (show _ ∈ tables_1_1 ++ (tables_1_2 ++ tables_1_3) from List.mem_append_right _ (List.mem_append_right _ (List.mem_of_getElem? (i := 17) rfl)))
set_option maxRecDepth 20000 in
theorem tM_RX1_94 : Cond.methodLink RX1 94 yX1_isCounted ∈ lw_tbl := List.mem_append_right _ (show _ ∈ tables_1_1 ++ (tables_1_2 ++ tables_1_3) from List.mem_append_right _ (List.mem_append_right _ (List.mem_of_getElem? (i := 18) (by decide +kernel))))
set_option maxRecDepth 20000 in
theorem tV_yX1_isCounted : Cond.instanceMethod yX1_isCounted ∈ lw_tbl := List.mem_append_right _ (show _ ∈ tables_1_1 ++ (tables_1_2 ++ tables_1_3) from List.mem_append_right _ (List.mem_append_right _ (List.mem_of_getElem? (i := 20) (by decide +kernel))))
set_option maxRecDepth 20000 in
theorem tK_yX1_isCounted : Cond.code yX1_isCounted cX1_isCounted 2 (Option.some Jvm.ClassFile.FieldType.boolean) ∈ lw_tbl := List.mem_append_right _ (show _ ∈ tables_1_1 ++ (tables_1_2 ++ tables_1_3) from List.mem_append_right _ (List.mem_append_right _ (List.mem_of_getElem? (i := 21) rfl)))
set_option maxRecDepth 20000 in
theorem tM_RL_76 : Cond.methodLink RL 76 yX1_easy ∈ lw_tbl := List.mem_append_right _ (show _ ∈ tables_1_1 ++ (tables_1_2 ++ tables_1_3) from List.mem_append_right _ (List.mem_append_right _ (List.mem_of_getElem? (i := 22) (by decide +kernel))))
set_option maxRecDepth 20000 in
theorem tV_yX1_easy : Cond.instanceMethod yX1_easy ∈ lw_tbl := List.mem_append_right _ (show _ ∈ tables_1_1 ++ (tables_1_2 ++ tables_1_3) from List.mem_append_right _ (List.mem_append_right _ (List.mem_of_getElem? (i := 23) (by decide +kernel))))
set_option maxRecDepth 20000 in
theorem tP_yX1_easy : Cond.selects yX1_easy.cls yX1_easy yX1_easy ∈ lw_tbl := List.mem_append_right _ (show _ ∈ tables_1_1 ++ (tables_1_2 ++ tables_1_3) from List.mem_append_right _ (List.mem_append_right _ (List.mem_of_getElem? (i := 24) (by decide +kernel))))
set_option maxRecDepth 20000 in
theorem tK_yX1_easy : Cond.code yX1_easy cX1_easy 9 (Option.some Jvm.ClassFile.FieldType.long) ∈ lw_tbl := List.mem_append_right _ (show _ ∈ tables_1_1 ++ (tables_1_2 ++ tables_1_3) from List.mem_append_right _ (List.mem_append_right _ (List.mem_of_getElem? (i := 25) rfl)))
set_option maxRecDepth 20000 in
theorem tJ_RX1_104 : Cond.constantLong RX1 104 (-9223372036854775808) ∈ lw_tbl := List.mem_append_right _ (show _ ∈ tables_1_1 ++ (tables_1_2 ++ tables_1_3) from List.mem_append_right _ (List.mem_append_right _ (List.mem_of_getElem? (i := 26) (by decide +kernel))))
set_option maxRecDepth 20000 in
theorem tM_RX1_106 : Cond.methodLink RX1 106 yX1_part ∈ lw_tbl := List.mem_append_right _ (show _ ∈ tables_1_1 ++ (tables_1_2 ++ tables_1_3) from List.mem_append_right _ (List.mem_append_right _ (List.mem_of_getElem? (i := 27) (by decide +kernel))))
set_option maxRecDepth 20000 in
theorem tV_yX1_part : Cond.instanceMethod yX1_part ∈ lw_tbl := List.mem_append_right _ (show _ ∈ tables_1_1 ++ (tables_1_2 ++ tables_1_3) from List.mem_append_right _ (List.mem_append_right _ (List.mem_of_getElem? (i := 29) (by decide +kernel))))
set_option maxRecDepth 20000 in
theorem tK_yX1_part : Cond.code yX1_part cX1_part 8 (Option.some Jvm.ClassFile.FieldType.long) ∈ lw_tbl := List.mem_append_right _ (show _ ∈ tables_1_1 ++ (tables_1_2 ++ tables_1_3) from List.mem_append_right _ (List.mem_append_right _ (List.mem_of_getElem? (i := 30) rfl)))
set_option maxRecDepth 20000 in
theorem tM_RX1_100 : Cond.methodLink RX1 100 yX1_divisor ∈ lw_tbl := List.mem_append_right _ (show _ ∈ tables_1_1 ++ (tables_1_2 ++ tables_1_3) from List.mem_append_right _ (List.mem_append_right _ (List.mem_of_getElem? (i := 31) (by decide +kernel))))
set_option maxRecDepth 20000 in
theorem tV_yX1_divisor : Cond.instanceMethod yX1_divisor ∈ lw_tbl := List.mem_append_right _ (show _ ∈ tables_1_1 ++ (tables_1_2 ++ tables_1_3) from List.mem_append_right _ (List.mem_append_right _ (List.mem_of_getElem? (i := 33) (by decide +kernel))))
set_option maxRecDepth 20000 in
theorem tK_yX1_divisor : Cond.code yX1_divisor cX1_divisor 11 (Option.some Jvm.ClassFile.FieldType.long) ∈ lw_tbl := List.mem_append_right _ (show _ ∈ tables_1_1 ++ (tables_1_2 ++ tables_1_3) from List.mem_append_right _ (List.mem_append_right _ (List.mem_of_getElem? (i := 34) rfl)))
set_option maxRecDepth 20000 in
theorem tM_RL_81 : Cond.methodLink RL 81 yX1_sharp ∈ lw_tbl := List.mem_append_right _ (show _ ∈ tables_1_1 ++ (tables_1_2 ++ tables_1_3) from List.mem_append_right _ (List.mem_append_right _ (List.mem_of_getElem? (i := 35) (by decide +kernel))))
set_option maxRecDepth 20000 in
theorem tV_yX1_sharp : Cond.instanceMethod yX1_sharp ∈ lw_tbl := List.mem_append_right _ (show _ ∈ tables_1_1 ++ (tables_1_2 ++ tables_1_3) from List.mem_append_right _ (List.mem_append_right _ (List.mem_of_getElem? (i := 36) (by decide +kernel))))
set_option maxRecDepth 20000 in
theorem tP_yX1_sharp : Cond.selects yX1_sharp.cls yX1_sharp yX1_sharp ∈ lw_tbl := List.mem_append_right _ (show _ ∈ tables_1_1 ++ (tables_1_2 ++ tables_1_3) from List.mem_append_right _ (List.mem_append_right _ (List.mem_of_getElem? (i := 37) (by decide +kernel))))
set_option maxRecDepth 20000 in
theorem tK_yX1_sharp : Cond.code yX1_sharp cX1_sharp 16 (Option.some Jvm.ClassFile.FieldType.long) ∈ lw_tbl := List.mem_append_right _ (show _ ∈ tables_1_1 ++ (tables_1_2 ++ tables_1_3) from List.mem_append_right _ (List.mem_append_right _ (List.mem_of_getElem? (i := 38) rfl)))
set_option maxRecDepth 20000 in
theorem tM_RL_85 : Cond.methodLink RL 85 yX1_leaky ∈ lw_tbl := List.mem_append_right _ (show _ ∈ tables_1_1 ++ (tables_1_2 ++ tables_1_3) from List.mem_append_right _ (List.mem_append_right _ (List.mem_of_getElem? (i := 39) (by decide +kernel))))
set_option maxRecDepth 20000 in
theorem tV_yX1_leaky : Cond.instanceMethod yX1_leaky ∈ lw_tbl := List.mem_append_right _ (show _ ∈ tables_1_1 ++ (tables_1_2 ++ tables_1_3) from List.mem_append_right _ (List.mem_append_right _ (List.mem_of_getElem? (i := 40) (by decide +kernel))))
set_option maxRecDepth 20000 in
theorem tP_yX1_leaky : Cond.selects yX1_leaky.cls yX1_leaky yX1_leaky ∈ lw_tbl := List.mem_append_right _ (show _ ∈ tables_1_1 ++ (tables_1_2 ++ tables_1_3) from List.mem_append_right _ (List.mem_append_right _ (List.mem_of_getElem? (i := 41) (by decide +kernel))))
set_option maxRecDepth 20000 in
theorem tK_yX1_leaky : Cond.code yX1_leaky cX1_leaky 4 (Option.some Jvm.ClassFile.FieldType.int) ∈ lw_tbl := List.mem_append_right _ (show _ ∈ tables_1_1 ++ (tables_1_2 ++ tables_1_3) from List.mem_append_right _ (List.mem_append_right _ (List.mem_of_getElem? (i := 42) rfl)))
set_option maxRecDepth 20000 in
theorem tM_RX1_112 : Cond.methodLink RX1 112 yX1_leaks ∈ lw_tbl := List.mem_append_right _ (show _ ∈ tables_1_1 ++ (tables_1_2 ++ tables_1_3) from List.mem_append_right _ (List.mem_append_right _ (List.mem_of_getElem? (i := 43) (by decide +kernel))))
set_option maxRecDepth 20000 in
theorem tV_yX1_leaks : Cond.instanceMethod yX1_leaks ∈ lw_tbl := List.mem_append_right _ (show _ ∈ tables_1_1 ++ (tables_1_2 ++ tables_1_3) from List.mem_append_right _ (List.mem_append_right _ (List.mem_of_getElem? (i := 45) (by decide +kernel))))
set_option maxRecDepth 20000 in
theorem tK_yX1_leaks : Cond.code yX1_leaks cX1_leaks 15 (Option.some Jvm.ClassFile.FieldType.boolean) ∈ lw_tbl := List.mem_append_right _ (show _ ∈ tables_1_1 ++ (tables_1_2 ++ tables_1_3) from List.mem_append_right _ (List.mem_append_right _ (List.mem_of_getElem? (i := 46) rfl)))
set_option maxRecDepth 20000 in
theorem tJ_RX1_110 : Cond.constantLong RX1 110 (100) ∈ lw_tbl := List.mem_append_right _ (show _ ∈ tables_1_1 ++ (tables_1_2 ++ tables_1_3) from List.mem_append_right _ (List.mem_append_right _ (List.mem_of_getElem? (i := 47) (by decide +kernel))))
set_option maxRecDepth 20000 in
theorem tM_RL_89 : Cond.methodLink RL 89 yX1_leak ∈ lw_tbl := List.mem_append_right _ (show _ ∈ tables_1_1 ++ (tables_1_2 ++ tables_1_3) from List.mem_append_right _ (List.mem_append_right _ (List.mem_of_getElem? (i := 48) (by decide +kernel))))
set_option maxRecDepth 20000 in
theorem tV_yX1_leak : Cond.instanceMethod yX1_leak ∈ lw_tbl := List.mem_append_right _ (show _ ∈ tables_1_1 ++ (tables_1_2 ++ tables_1_3) from List.mem_append_right _ (List.mem_append_right _ (List.mem_of_getElem? (i := 49) (by decide +kernel))))
set_option maxRecDepth 20000 in
theorem tP_yX1_leak : Cond.selects yX1_leak.cls yX1_leak yX1_leak ∈ lw_tbl := List.mem_append_right _ (show _ ∈ tables_1_1 ++ (tables_1_2 ++ tables_1_3) from List.mem_append_right _ (List.mem_append_right _ (List.mem_of_getElem? (i := 50) (by decide +kernel))))
set_option maxRecDepth 20000 in
theorem tK_yX1_leak : Cond.code yX1_leak cX1_leak 5 (Option.some Jvm.ClassFile.FieldType.int) ∈ lw_tbl := List.mem_append_right _ (show _ ∈ tables_1_1 ++ (tables_1_2 ++ tables_1_3) from List.mem_append_right _ (List.mem_append_right _ (List.mem_of_getElem? (i := 51) rfl)))
set_option maxRecDepth 20000 in
theorem tM_RL_93 : Cond.methodLink RL 93 yX1_shared ∈ lw_tbl := List.mem_append_right _ (show _ ∈ tables_1_1 ++ (tables_1_2 ++ tables_1_3) from List.mem_append_right _ (List.mem_append_right _ (List.mem_of_getElem? (i := 52) (by decide +kernel))))
set_option maxRecDepth 20000 in
theorem tV_yX1_shared : Cond.instanceMethod yX1_shared ∈ lw_tbl := List.mem_append_right _ (show _ ∈ tables_1_1 ++ (tables_1_2 ++ tables_1_3) from List.mem_append_right _ (List.mem_append_right _ (List.mem_of_getElem? (i := 53) (by decide +kernel))))
set_option maxRecDepth 20000 in
theorem tP_yX1_shared : Cond.selects yX1_shared.cls yX1_shared yX1_shared ∈ lw_tbl := List.mem_append_right _ (show _ ∈ tables_1_1 ++ (tables_1_2 ++ tables_1_3) from List.mem_append_right _ (List.mem_append_right _ (List.mem_of_getElem? (i := 54) (by decide +kernel))))
set_option maxRecDepth 20000 in
theorem tK_yX1_shared : Cond.code yX1_shared cX1_shared 3 (Option.some Jvm.ClassFile.FieldType.int) ∈ lw_tbl := List.mem_append_right _ (show _ ∈ tables_1_1 ++ (tables_1_2 ++ tables_1_3) from List.mem_append_right _ (List.mem_append_right _ (List.mem_of_getElem? (i := 55) rfl)))
set_option maxRecDepth 20000 in
theorem tM_RX1_118 : Cond.methodLink RX1 118 yX1_sharedMany ∈ lw_tbl := List.mem_append_right _ (show _ ∈ tables_1_1 ++ (tables_1_2 ++ tables_1_3) from List.mem_append_right _ (List.mem_append_right _ (List.mem_of_getElem? (i := 56) (by decide +kernel))))
set_option maxRecDepth 20000 in
theorem tV_yX1_sharedMany : Cond.instanceMethod yX1_sharedMany ∈ lw_tbl := List.mem_append_right _ (show _ ∈ tables_1_1 ++ (tables_1_2 ++ tables_1_3) from List.mem_append_right _ (List.mem_append_right _ (List.mem_of_getElem? (i := 58) (by decide +kernel))))
set_option maxRecDepth 20000 in
theorem tK_yX1_sharedMany : Cond.code yX1_sharedMany cX1_sharedMany 5 (Option.some Jvm.ClassFile.FieldType.int) ∈ lw_tbl := List.mem_append_right _ (show _ ∈ tables_1_1 ++ (tables_1_2 ++ tables_1_3) from List.mem_append_right _ (List.mem_append_right _ (List.mem_of_getElem? (i := 59) rfl)))
set_option maxRecDepth 20000 in
theorem tM_RX1_115 : Cond.methodLink RX1 115 yX1_isShared ∈ lw_tbl := List.mem_append_right _ (show _ ∈ tables_1_1 ++ (tables_1_2 ++ tables_1_3) from List.mem_append_right _ (List.mem_append_right _ (List.mem_of_getElem? (i := 60) (by decide +kernel))))
set_option maxRecDepth 20000 in
theorem tV_yX1_isShared : Cond.instanceMethod yX1_isShared ∈ lw_tbl := List.mem_append_right _ (show _ ∈ tables_1_1 ++ (tables_1_2 ++ tables_1_3) from List.mem_append_right _ (List.mem_append_right _ (List.mem_of_getElem? (i := 62) (by decide +kernel))))
set_option maxRecDepth 20000 in
theorem tK_yX1_isShared : Cond.code yX1_isShared cX1_isShared 4 (Option.some Jvm.ClassFile.FieldType.boolean) ∈ lw_tbl := List.mem_append_right _ (show _ ∈ tables_1_1 ++ (tables_1_2 ++ tables_1_3) from List.mem_append_right _ (List.mem_append_right _ (List.mem_of_getElem? (i := 63) rfl)))
set_option maxRecDepth 20000 in
theorem tM_RL_97 : Cond.methodLink RL 97 yX1_sum ∈ lw_tbl := List.mem_append_right _ (show _ ∈ tables_1_1 ++ (tables_1_2 ++ tables_1_3) from List.mem_append_right _ (List.mem_append_right _ (List.mem_of_getElem? (i := 64) (by decide +kernel))))
set_option maxRecDepth 20000 in
theorem tV_yX1_sum : Cond.instanceMethod yX1_sum ∈ lw_tbl := List.mem_append_right _ (show _ ∈ tables_1_1 ++ (tables_1_2 ++ tables_1_3) from List.mem_append_right _ (List.mem_append_right _ (List.mem_of_getElem? (i := 65) (by decide +kernel))))
set_option maxRecDepth 20000 in
theorem tP_yX1_sum : Cond.selects yX1_sum.cls yX1_sum yX1_sum ∈ lw_tbl := List.mem_append_right _ (show _ ∈ tables_1_1 ++ (tables_1_2 ++ tables_1_3) from List.mem_append_right _ (List.mem_append_right _ (List.mem_of_getElem? (i := 66) (by decide +kernel))))
set_option maxRecDepth 20000 in
theorem tK_yX1_sum : Cond.code yX1_sum cX1_sum 3 (Option.some Jvm.ClassFile.FieldType.int) ∈ lw_tbl := List.mem_append_right _ (show _ ∈ tables_1_1 ++ (tables_1_2 ++ tables_1_3) from List.mem_append_right _ (List.mem_append_right _ (List.mem_of_getElem? (i := 67) rfl)))
set_option maxRecDepth 20000 in
theorem tM_RX1_121 : Cond.methodLink RX1 121 yX1_sharedSum ∈ lw_tbl := List.mem_append_right _ (show _ ∈ tables_1_1 ++ (tables_1_2 ++ tables_1_3) from List.mem_append_right _ (List.mem_append_right _ (List.mem_of_getElem? (i := 68) (by decide +kernel))))
set_option maxRecDepth 20000 in
theorem tV_yX1_sharedSum : Cond.instanceMethod yX1_sharedSum ∈ lw_tbl := List.mem_append_right _ (show _ ∈ tables_1_1 ++ (tables_1_2 ++ tables_1_3) from List.mem_append_right _ (List.mem_append_right _ (List.mem_of_getElem? (i := 70) (by decide +kernel))))
set_option maxRecDepth 20000 in
theorem tK_yX1_sharedSum : Cond.code yX1_sharedSum cX1_sharedSum 5 (Option.some Jvm.ClassFile.FieldType.int) ∈ lw_tbl := List.mem_append_right _ (show _ ∈ tables_1_1 ++ (tables_1_2 ++ tables_1_3) from List.mem_append_right _ (List.mem_append_right _ (List.mem_of_getElem? (i := 71) rfl)))
set_option maxRecDepth 20000 in
theorem tM_RL_102 : Cond.methodLink RL 102 yX1_group ∈ lw_tbl := List.mem_append_right _ (show _ ∈ tables_1_1 ++ (tables_1_2 ++ tables_1_3) from List.mem_append_right _ (List.mem_append_right _ (List.mem_of_getElem? (i := 72) (by decide +kernel))))
set_option maxRecDepth 20000 in
theorem tV_yX1_group : Cond.instanceMethod yX1_group ∈ lw_tbl := List.mem_append_right _ (show _ ∈ tables_1_1 ++ (tables_1_2 ++ tables_1_3) from List.mem_append_right _ (List.mem_append_right _ (List.mem_of_getElem? (i := 73) (by decide +kernel))))
set_option maxRecDepth 20000 in
theorem tP_yX1_group : Cond.selects yX1_group.cls yX1_group yX1_group ∈ lw_tbl := List.mem_append_right _ (show _ ∈ tables_1_1 ++ (tables_1_2 ++ tables_1_3) from List.mem_append_right _ (List.mem_append_right _ (List.mem_of_getElem? (i := 74) (by decide +kernel))))
set_option maxRecDepth 20000 in
theorem tK_yX1_group : Cond.code yX1_group cX1_group 4 (Option.some Jvm.ClassFile.FieldType.long) ∈ lw_tbl := List.mem_append_right _ (show _ ∈ tables_1_1 ++ (tables_1_2 ++ tables_1_3) from List.mem_append_right _ (List.mem_append_right _ (List.mem_of_getElem? (i := 75) rfl)))
set_option maxRecDepth 20000 in
theorem tM_RX1_128 : Cond.methodLink RX1 128 yX1_sumOf ∈ lw_tbl := List.mem_append_right _ (show _ ∈ tables_1_1 ++ (tables_1_2 ++ tables_1_3) from List.mem_append_right _ (List.mem_append_right _ (List.mem_of_getElem? (i := 76) (by decide +kernel))))
set_option maxRecDepth 20000 in
theorem tV_yX1_sumOf : Cond.instanceMethod yX1_sumOf ∈ lw_tbl := List.mem_append_right _ (show _ ∈ tables_1_1 ++ (tables_1_2 ++ tables_1_3) from List.mem_append_right _ (List.mem_append_right _ (List.mem_of_getElem? (i := 78) (by decide +kernel))))
set_option maxRecDepth 20000 in
theorem tK_yX1_sumOf : Cond.code yX1_sumOf cX1_sumOf 6 (Option.some Jvm.ClassFile.FieldType.long) ∈ lw_tbl := List.mem_append_right _ (show _ ∈ tables_1_1 ++ (tables_1_2 ++ tables_1_3) from List.mem_append_right _ (List.mem_append_right _ (List.mem_of_getElem? (i := 79) rfl)))
set_option maxRecDepth 20000 in
theorem tM_RX1_124 : Cond.methodLink RX1 124 yX1_valueOf ∈ lw_tbl := List.mem_append_right _ (show _ ∈ tables_1_1 ++ (tables_1_2 ++ tables_1_3) from List.mem_append_right _ (List.mem_append_right _ (List.mem_of_getElem? (i := 80) (by decide +kernel))))
set_option maxRecDepth 20000 in
theorem tV_yX1_valueOf : Cond.instanceMethod yX1_valueOf ∈ lw_tbl := List.mem_append_right _ (show _ ∈ tables_1_1 ++ (tables_1_2 ++ tables_1_3) from List.mem_append_right _ (List.mem_append_right _ (List.mem_of_getElem? (i := 82) (by decide +kernel))))
set_option maxRecDepth 20000 in
theorem tK_yX1_valueOf : Cond.code yX1_valueOf cX1_valueOf 3 (Option.some Jvm.ClassFile.FieldType.long) ∈ lw_tbl := List.mem_append_right _ (show _ ∈ tables_1_1 ++ (tables_1_2 ++ tables_1_3) from List.mem_append_right _ (List.mem_append_right _ (List.mem_of_getElem? (i := 83) rfl)))
set_option maxRecDepth 20000 in
theorem tM_RX1_131 : Cond.methodLink RX1 131 yX1_away ∈ lw_tbl := List.mem_append_right _ (show _ ∈ tables_1_1 ++ (tables_1_2 ++ tables_1_3) from List.mem_append_right _ (List.mem_append_right _ (List.mem_of_getElem? (i := 84) (by decide +kernel))))
set_option maxRecDepth 20000 in
theorem tV_yX1_away : Cond.instanceMethod yX1_away ∈ lw_tbl := List.mem_append_right _ (show _ ∈ tables_1_1 ++ (tables_1_2 ++ tables_1_3) from List.mem_append_right _ (List.mem_append_right _ (List.mem_of_getElem? (i := 86) (by decide +kernel))))
set_option maxRecDepth 20000 in
theorem tK_yX1_away : Cond.code yX1_away cX1_away 12 (Option.some Jvm.ClassFile.FieldType.long) ∈ lw_tbl := List.mem_append_right _ (show _ ∈ tables_1_1 ++ (tables_1_2 ++ tables_1_3) from List.mem_append_right _ (List.mem_append_right _ (List.mem_of_getElem? (i := 87) rfl)))
set_option maxRecDepth 20000 in
theorem tM_RL_107 : Cond.methodLink RL 107 yX1_scale ∈ lw_tbl := List.mem_append_right _ (show _ ∈ tables_1_1 ++ (tables_1_2 ++ tables_1_3) from List.mem_append_right _ (List.mem_append_right _ (List.mem_of_getElem? (i := 88) (by decide +kernel))))
set_option maxRecDepth 20000 in
theorem tV_yX1_scale : Cond.instanceMethod yX1_scale ∈ lw_tbl := List.mem_append_right _ (show _ ∈ tables_1_1 ++ (tables_1_2 ++ tables_1_3) from List.mem_append_right _ (List.mem_append_right _ (List.mem_of_getElem? (i := 89) (by decide +kernel))))
set_option maxRecDepth 20000 in
theorem tP_yX1_scale : Cond.selects yX1_scale.cls yX1_scale yX1_scale ∈ lw_tbl := List.mem_append_right _ (show _ ∈ tables_1_1 ++ (tables_1_2 ++ tables_1_3) from List.mem_append_right _ (List.mem_append_right _ (List.mem_of_getElem? (i := 90) (by decide +kernel))))
set_option maxRecDepth 20000 in
theorem tK_yX1_scale : Cond.code yX1_scale cX1_scale 17 (Option.some Jvm.ClassFile.FieldType.long) ∈ lw_tbl := List.mem_append_right _ (show _ ∈ tables_1_1 ++ (tables_1_2 ++ tables_1_3) from List.mem_append_right _ (List.mem_append_right _ (List.mem_of_getElem? (i := 91) rfl)))
set_option maxRecDepth 20000 in
theorem tM_RL_111 : Cond.methodLink RL 111 yX1_rank ∈ lw_tbl := List.mem_append_right _ (show _ ∈ tables_1_1 ++ (tables_1_2 ++ tables_1_3) from List.mem_append_right _ (List.mem_append_right _ (List.mem_of_getElem? (i := 92) (by decide +kernel))))
set_option maxRecDepth 20000 in
theorem tV_yX1_rank : Cond.instanceMethod yX1_rank ∈ lw_tbl := List.mem_append_right _ (show _ ∈ tables_1_1 ++ (tables_1_2 ++ tables_1_3) from List.mem_append_right _ (List.mem_append_right _ (List.mem_of_getElem? (i := 93) (by decide +kernel))))
set_option maxRecDepth 20000 in
theorem tP_yX1_rank : Cond.selects yX1_rank.cls yX1_rank yX1_rank ∈ lw_tbl := List.mem_append_right _ (show _ ∈ tables_1_1 ++ (tables_1_2 ++ tables_1_3) from List.mem_append_right _ (List.mem_append_right _ (List.mem_of_getElem? (i := 94) (by decide +kernel))))
set_option maxRecDepth 20000 in
theorem tK_yX1_rank : Cond.code yX1_rank cX1_rank 3 (Option.some Jvm.ClassFile.FieldType.int) ∈ lw_tbl := List.mem_append_right _ (show _ ∈ tables_1_1 ++ (tables_1_2 ++ tables_1_3) from List.mem_append_right _ (List.mem_append_right _ (List.mem_of_getElem? (i := 95) rfl)))
set_option maxRecDepth 20000 in
theorem tM_RX1_136 : Cond.methodLink RX1 136 yX1_rankOf ∈ lw_tbl := List.mem_append_right _ (show _ ∈ tables_1_1 ++ (tables_1_2 ++ tables_1_3) from List.mem_append_right _ (List.mem_append_right _ (List.mem_of_getElem? (i := 96) (by decide +kernel))))
set_option maxRecDepth 20000 in
theorem tV_yX1_rankOf : Cond.instanceMethod yX1_rankOf ∈ lw_tbl := List.mem_append_right _ (show _ ∈ tables_1_1 ++ (tables_1_2 ++ tables_1_3) from List.mem_append_right _ (List.mem_append_right _ (List.mem_of_getElem? (i := 98) (by decide +kernel))))
set_option maxRecDepth 20000 in
theorem tK_yX1_rankOf : Cond.code yX1_rankOf cX1_rankOf 7 (Option.some Jvm.ClassFile.FieldType.long) ∈ lw_tbl := List.mem_append_right _ (show _ ∈ tables_1_1 ++ (tables_1_2 ++ tables_1_3) from List.mem_append_right _ (List.mem_append_right _ (List.mem_of_getElem? (i := 99) rfl)))
set_option maxRecDepth 20000 in
theorem tJ_RX1_134 : Cond.constantLong RX1 134 (2) ∈ lw_tbl := List.mem_append_right _ (show _ ∈ tables_1_1 ++ (tables_1_2 ++ tables_1_3) from List.mem_append_right _ (List.mem_append_right _ (List.mem_of_getElem? (i := 100) (by decide +kernel))))
set_option maxRecDepth 20000 in
theorem tM_RL_115 : Cond.methodLink RL 115 yX1_like ∈ lw_tbl := List.mem_append_right _ (show _ ∈ tables_1_1 ++ (tables_1_2 ++ tables_1_3) from List.mem_append_right _ (List.mem_append_right _ (List.mem_of_getElem? (i := 101) (by decide +kernel))))
set_option maxRecDepth 20000 in
theorem tV_yX1_like : Cond.instanceMethod yX1_like ∈ lw_tbl := List.mem_append_right _ (show _ ∈ tables_1_1 ++ (tables_1_2 ++ tables_1_3) from List.mem_append_right _ (List.mem_append_right _ (List.mem_of_getElem? (i := 102) (by decide +kernel))))
set_option maxRecDepth 20000 in
theorem tP_yX1_like : Cond.selects yX1_like.cls yX1_like yX1_like ∈ lw_tbl := List.mem_append_right _ (show _ ∈ tables_1_1 ++ (tables_1_2 ++ tables_1_3) from List.mem_append_right _ (List.mem_append_right _ (List.mem_of_getElem? (i := 103) (by decide +kernel))))
set_option maxRecDepth 20000 in
theorem tK_yX1_like : Cond.code yX1_like cX1_like 14 (Option.some Jvm.ClassFile.FieldType.int) ∈ lw_tbl := List.mem_append_right _ (show _ ∈ tables_1_1 ++ (tables_1_2 ++ tables_1_3) from List.mem_append_right _ (List.mem_append_right _ (List.mem_of_getElem? (i := 104) rfl)))
set_option maxRecDepth 20000 in
theorem tM_RL_120 : Cond.methodLink RL 120 yX1_judge ∈ lw_tbl := List.mem_append_right _ (show _ ∈ tables_1_1 ++ (tables_1_2 ++ tables_1_3) from List.mem_append_right _ (List.mem_append_right _ (List.mem_of_getElem? (i := 105) (by decide +kernel))))
set_option maxRecDepth 20000 in
theorem tV_yX1_judge : Cond.instanceMethod yX1_judge ∈ lw_tbl := List.mem_append_right _ (show _ ∈ tables_1_1 ++ (tables_1_2 ++ tables_1_3) from List.mem_append_right _ (List.mem_append_right _ (List.mem_of_getElem? (i := 106) (by decide +kernel))))
set_option maxRecDepth 20000 in
theorem tP_yX1_judge : Cond.selects yX1_judge.cls yX1_judge yX1_judge ∈ lw_tbl := List.mem_append_right _ (show _ ∈ tables_1_1 ++ (tables_1_2 ++ tables_1_3) from List.mem_append_right _ (List.mem_append_right _ (List.mem_of_getElem? (i := 107) (by decide +kernel))))
set_option maxRecDepth 20000 in
theorem tK_yX1_judge : Cond.code yX1_judge cX1_judge 7 (Option.some Jvm.ClassFile.FieldType.int) ∈ lw_tbl := List.mem_append_right _ (show _ ∈ tables_1_1 ++ (tables_1_2 ++ tables_1_3) from List.mem_append_right _ (List.mem_append_right _ (List.mem_of_getElem? (i := 108) rfl)))
set_option maxRecDepth 20000 in
theorem tM_RL_124 : Cond.methodLink RL 124 yX1_cut ∈ lw_tbl := List.mem_append_right _ (show _ ∈ tables_1_1 ++ (tables_1_2 ++ tables_1_3) from List.mem_append_right _ (List.mem_append_right _ (List.mem_of_getElem? (i := 109) (by decide +kernel))))
set_option maxRecDepth 20000 in
theorem tV_yX1_cut : Cond.instanceMethod yX1_cut ∈ lw_tbl := List.mem_append_right _ (show _ ∈ tables_1_1 ++ (tables_1_2 ++ tables_1_3) from List.mem_append_right _ (List.mem_append_right _ (List.mem_of_getElem? (i := 110) (by decide +kernel))))
set_option maxRecDepth 20000 in
theorem tP_yX1_cut : Cond.selects yX1_cut.cls yX1_cut yX1_cut ∈ lw_tbl := List.mem_append_right _ (show _ ∈ tables_1_1 ++ (tables_1_2 ++ tables_1_3) from List.mem_append_right _ (List.mem_append_right _ (List.mem_of_getElem? (i := 111) (by decide +kernel))))
set_option maxRecDepth 20000 in
theorem tK_yX1_cut : Cond.code yX1_cut cX1_cut 3 (Option.some Jvm.ClassFile.FieldType.long) ∈ lw_tbl := List.mem_append_right _ (show _ ∈ tables_1_1 ++ (tables_1_2 ++ tables_1_3) from List.mem_append_right _ (List.mem_append_right _ (List.mem_of_getElem? (i := 112) rfl)))
set_option maxRecDepth 20000 in
theorem tM_RX1_141 : Cond.methodLink RX1 141 yX1_cutOf ∈ lw_tbl := List.mem_append_right _ (show _ ∈ tables_1_1 ++ (tables_1_2 ++ tables_1_3) from List.mem_append_right _ (List.mem_append_right _ (List.mem_of_getElem? (i := 113) (by decide +kernel))))
set_option maxRecDepth 20000 in
theorem tV_yX1_cutOf : Cond.instanceMethod yX1_cutOf ∈ lw_tbl := List.mem_append_right _ (show _ ∈ tables_1_1 ++ (tables_1_2 ++ tables_1_3) from List.mem_append_right _ (List.mem_append_right _ (List.mem_of_getElem? (i := 115) (by decide +kernel))))
set_option maxRecDepth 20000 in
theorem tK_yX1_cutOf : Cond.code yX1_cutOf cX1_cutOf 11 (Option.some Jvm.ClassFile.FieldType.long) ∈ lw_tbl := List.mem_append_right _ (show _ ∈ tables_1_1 ++ (tables_1_2 ++ tables_1_3) from List.mem_append_right _ (List.mem_append_right _ (List.mem_of_getElem? (i := 116) rfl)))
set_option maxRecDepth 20000 in
theorem tJ_RX1_139 : Cond.constantLong RX1 139 (840) ∈ lw_tbl := List.mem_append_right _ (show _ ∈ tables_1_1 ++ (tables_1_2 ++ tables_1_3) from List.mem_append_right _ (List.mem_append_right _ (List.mem_of_getElem? (i := 117) (by decide +kernel))))
set_option maxRecDepth 20000 in
theorem tM_RL_128 : Cond.methodLink RL 128 yX1_passes ∈ lw_tbl := List.mem_append_right _ (show _ ∈ tables_1_1 ++ (tables_1_2 ++ tables_1_3) from List.mem_append_right _ (List.mem_append_right _ (List.mem_of_getElem? (i := 118) (by decide +kernel))))
set_option maxRecDepth 20000 in
theorem tV_yX1_passes : Cond.instanceMethod yX1_passes ∈ lw_tbl := List.mem_append_right _ (show _ ∈ tables_1_1 ++ (tables_1_2 ++ tables_1_3) from List.mem_append_right _ (List.mem_append_right _ (List.mem_of_getElem? (i := 119) (by decide +kernel))))
set_option maxRecDepth 20000 in
theorem tP_yX1_passes : Cond.selects yX1_passes.cls yX1_passes yX1_passes ∈ lw_tbl := List.mem_append_right _ (show _ ∈ tables_1_1 ++ (tables_1_2 ++ tables_1_3) from List.mem_append_right _ (List.mem_append_right _ (List.mem_of_getElem? (i := 120) (by decide +kernel))))
set_option maxRecDepth 20000 in
theorem tK_yX1_passes : Cond.code yX1_passes cX1_passes 2 (Option.some Jvm.ClassFile.FieldType.int) ∈ lw_tbl := List.mem_append_right _ (show _ ∈ tables_1_1 ++ (tables_1_2 ++ tables_1_3) from List.mem_append_right _ (List.mem_append_right _ (List.mem_of_getElem? (i := 121) rfl)))
set_option maxRecDepth 20000 in
theorem tM_RX1_145 : Cond.methodLink RX1 145 yX1_isPassed ∈ lw_tbl := List.mem_append_right _ (show _ ∈ tables_1_1 ++ (tables_1_2 ++ tables_1_3) from List.mem_append_right _ (List.mem_append_right _ (List.mem_of_getElem? (i := 122) (by decide +kernel))))
set_option maxRecDepth 20000 in
theorem tV_yX1_isPassed : Cond.instanceMethod yX1_isPassed ∈ lw_tbl := List.mem_append_right _ (show _ ∈ tables_1_1 ++ (tables_1_2 ++ tables_1_3) from List.mem_append_right _ (List.mem_append_right _ (List.mem_of_getElem? (i := 124) (by decide +kernel))))
set_option maxRecDepth 20000 in
theorem tK_yX1_isPassed : Cond.code yX1_isPassed cX1_isPassed 2 (Option.some Jvm.ClassFile.FieldType.boolean) ∈ lw_tbl := List.mem_append_right _ (show _ ∈ tables_1_1 ++ (tables_1_2 ++ tables_1_3) from List.mem_append_right _ (List.mem_append_right _ (List.mem_of_getElem? (i := 125) rfl)))
set_option maxRecDepth 20000 in
theorem tM_RL_132 : Cond.methodLink RL 132 yX1_border ∈ lw_tbl := List.mem_append_right _ (show _ ∈ tables_1_1 ++ (tables_1_2 ++ tables_1_3) from List.mem_append_right _ (List.mem_append_right _ (List.mem_of_getElem? (i := 126) (by decide +kernel))))
set_option maxRecDepth 20000 in
theorem tV_yX1_border : Cond.instanceMethod yX1_border ∈ lw_tbl := List.mem_append_right _ (show _ ∈ tables_1_1 ++ (tables_1_2 ++ tables_1_3) from List.mem_append_right _ (List.mem_append_right _ (List.mem_of_getElem? (i := 127) (by decide +kernel))))
set_option maxRecDepth 20000 in
theorem tP_yX1_border : Cond.selects yX1_border.cls yX1_border yX1_border ∈ lw_tbl := List.mem_append_right _ (show _ ∈ tables_1_1 ++ (tables_1_2 ++ tables_1_3) from List.mem_append_right _ (List.mem_append_right _ (List.mem_of_getElem? (i := 128) (by decide +kernel))))
set_option maxRecDepth 20000 in
theorem tK_yX1_border : Cond.code yX1_border cX1_border 7 (Option.some Jvm.ClassFile.FieldType.int) ∈ lw_tbl := List.mem_append_right _ (show _ ∈ tables_1_1 ++ (tables_1_2 ++ tables_1_3) from List.mem_append_right _ (List.mem_append_right _ (List.mem_of_getElem? (i := 129) rfl)))
set_option maxRecDepth 20000 in
theorem tM_RL_136 : Cond.methodLink RL 136 yX1_alike ∈ lw_tbl := List.mem_append_right _ (show _ ∈ tables_1_1 ++ (tables_1_2 ++ tables_1_3) from List.mem_append_right _ (List.mem_append_right _ (List.mem_of_getElem? (i := 130) (by decide +kernel))))
set_option maxRecDepth 20000 in
theorem tV_yX1_alike : Cond.instanceMethod yX1_alike ∈ lw_tbl := List.mem_append_right _ (show _ ∈ tables_1_1 ++ (tables_1_2 ++ tables_1_3) from List.mem_append_right _ (List.mem_append_right _ (List.mem_of_getElem? (i := 131) (by decide +kernel))))
set_option maxRecDepth 20000 in
theorem tP_yX1_alike : Cond.selects yX1_alike.cls yX1_alike yX1_alike ∈ lw_tbl := List.mem_append_right _ (show _ ∈ tables_1_1 ++ (tables_1_2 ++ tables_1_3) from List.mem_append_right _ (List.mem_append_right _ (List.mem_of_getElem? (i := 132) (by decide +kernel))))
set_option maxRecDepth 20000 in
theorem tK_yX1_alike : Cond.code yX1_alike cX1_alike 3 (Option.some Jvm.ClassFile.FieldType.int) ∈ lw_tbl := List.mem_append_right _ (show _ ∈ tables_1_1 ++ (tables_1_2 ++ tables_1_3) from List.mem_append_right _ (List.mem_append_right _ (List.mem_of_getElem? (i := 133) rfl)))
set_option maxRecDepth 20000 in
theorem tM_RX1_148 : Cond.methodLink RX1 148 yX1_alikeMany ∈ lw_tbl := List.mem_append_right _ (show _ ∈ tables_1_1 ++ (tables_1_2 ++ tables_1_3) from List.mem_append_right _ (List.mem_append_right _ (List.mem_of_getElem? (i := 134) (by decide +kernel))))
set_option maxRecDepth 20000 in
theorem tV_yX1_alikeMany : Cond.instanceMethod yX1_alikeMany ∈ lw_tbl := List.mem_append_right _ (show _ ∈ tables_1_1 ++ (tables_1_2 ++ tables_1_3) from List.mem_append_right _ (List.mem_append_right _ (List.mem_of_getElem? (i := 136) (by decide +kernel))))
set_option maxRecDepth 20000 in
theorem tK_yX1_alikeMany : Cond.code yX1_alikeMany cX1_alikeMany 6 (Option.some Jvm.ClassFile.FieldType.int) ∈ lw_tbl := List.mem_append_right _ (show _ ∈ tables_1_1 ++ (tables_1_2 ++ tables_1_3) from List.mem_append_right _ (List.mem_append_right _ (List.mem_of_getElem? (i := 137) rfl)))
set_option maxRecDepth 20000 in
theorem tM_RL_140 : Cond.methodLink RL 140 yX1_pair ∈ lw_tbl := List.mem_append_right _ (show _ ∈ tables_1_1 ++ (tables_1_2 ++ tables_1_3) from List.mem_append_right _ (List.mem_append_right _ (List.mem_of_getElem? (i := 138) (by decide +kernel))))
set_option maxRecDepth 20000 in
theorem tV_yX1_pair : Cond.instanceMethod yX1_pair ∈ lw_tbl := List.mem_append_right _ (show _ ∈ tables_1_1 ++ (tables_1_2 ++ tables_1_3) from List.mem_append_right _ (List.mem_append_right _ (List.mem_of_getElem? (i := 139) (by decide +kernel))))
set_option maxRecDepth 20000 in
theorem tP_yX1_pair : Cond.selects yX1_pair.cls yX1_pair yX1_pair ∈ lw_tbl := List.mem_append_right _ (show _ ∈ tables_1_1 ++ (tables_1_2 ++ tables_1_3) from List.mem_append_right _ (List.mem_append_right _ (List.mem_of_getElem? (i := 140) (by decide +kernel))))
set_option maxRecDepth 20000 in
theorem tK_yX1_pair : Cond.code yX1_pair cX1_pair 7 (Option.some Jvm.ClassFile.FieldType.int) ∈ lw_tbl := List.mem_append_right _ (show _ ∈ tables_1_1 ++ (tables_1_2 ++ tables_1_3) from List.mem_append_right _ (List.mem_append_right _ (List.mem_of_getElem? (i := 141) rfl)))
set_option maxRecDepth 20000 in
theorem tM_RL_144 : Cond.methodLink RL 144 yX1_count ∈ lw_tbl := List.mem_append_right _ (show _ ∈ tables_1_1 ++ (tables_1_2 ++ tables_1_3) from List.mem_append_right _ (List.mem_append_right _ (List.mem_of_getElem? (i := 142) (by decide +kernel))))
set_option maxRecDepth 20000 in
theorem tV_yX1_count : Cond.instanceMethod yX1_count ∈ lw_tbl := List.mem_append_right _ (show _ ∈ tables_1_1 ++ (tables_1_2 ++ tables_1_3) from List.mem_append_right _ (List.mem_append_right _ (List.mem_of_getElem? (i := 143) (by decide +kernel))))
set_option maxRecDepth 20000 in
theorem tP_yX1_count : Cond.selects yX1_count.cls yX1_count yX1_count ∈ lw_tbl := List.mem_append_right _ (show _ ∈ tables_1_1 ++ (tables_1_2 ++ tables_1_3) from List.mem_append_right _ (List.mem_append_right _ (List.mem_of_getElem? (i := 144) (by decide +kernel))))
set_option maxRecDepth 20000 in
theorem tK_yX1_count : Cond.code yX1_count cX1_count 5 (Option.some Jvm.ClassFile.FieldType.int) ∈ lw_tbl := List.mem_append_right _ (show _ ∈ tables_1_1 ++ (tables_1_2 ++ tables_1_3) from List.mem_append_right _ (List.mem_append_right _ (List.mem_of_getElem? (i := 145) rfl)))
set_option maxRecDepth 20000 in
theorem tJ_RL_52 : Cond.constantLong RL 52 (4294967295) ∈ lw_tbl := List.mem_append_right _ (show _ ∈ tables_1_1 ++ (tables_1_2 ++ tables_1_3) from List.mem_append_right _ (List.mem_append_right _ (List.mem_of_getElem? (i := 146) (by decide +kernel))))
set_option maxRecDepth 20000 in
theorem tP_yX0_isQuestion : Cond.selects yX0_isQuestion.cls yX0_isQuestion yX0_isQuestion ∈ lw_tbl := List.mem_append_left _ (List.mem_map.mpr ⟨(yX0_isQuestion, 18), List.mem_of_getElem? (i := 0) (by decide +kernel), rfl⟩)
set_option maxRecDepth 20000 in
theorem tP_yX0_isPaper : Cond.selects yX0_isPaper.cls yX0_isPaper yX0_isPaper ∈ lw_tbl := List.mem_append_left _ (List.mem_map.mpr ⟨(yX0_isPaper, 18), List.mem_of_getElem? (i := 1) (by decide +kernel), rfl⟩)
set_option maxRecDepth 20000 in
theorem tP_yX0_hasPupil : Cond.selects yX0_hasPupil.cls yX0_hasPupil yX0_hasPupil ∈ lw_tbl := List.mem_append_left _ (List.mem_map.mpr ⟨(yX0_hasPupil, 18), List.mem_of_getElem? (i := 2) (by decide +kernel), rfl⟩)
set_option maxRecDepth 20000 in
theorem tP_yX0_spotFor : Cond.selects yX0_spotFor.cls yX0_spotFor yX0_spotFor ∈ lw_tbl := List.mem_append_left _ (List.mem_map.mpr ⟨(yX0_spotFor, 18), List.mem_of_getElem? (i := 3) (by decide +kernel), rfl⟩)
set_option maxRecDepth 20000 in
theorem tP_yX0_isPupil : Cond.selects yX0_isPupil.cls yX0_isPupil yX0_isPupil ∈ lw_tbl := List.mem_append_left _ (List.mem_map.mpr ⟨(yX0_isPupil, 18), List.mem_of_getElem? (i := 4) (by decide +kernel), rfl⟩)
set_option maxRecDepth 20000 in
theorem tP_yX0_spotOf : Cond.selects yX0_spotOf.cls yX0_spotOf yX0_spotOf ∈ lw_tbl := List.mem_append_left _ (List.mem_map.mpr ⟨(yX0_spotOf, 18), List.mem_of_getElem? (i := 5) (by decide +kernel), rfl⟩)
set_option maxRecDepth 20000 in
theorem tP_yX0_isAnswer : Cond.selects yX0_isAnswer.cls yX0_isAnswer yX0_isAnswer ∈ lw_tbl := List.mem_append_left _ (List.mem_map.mpr ⟨(yX0_isAnswer, 18), List.mem_of_getElem? (i := 6) (by decide +kernel), rfl⟩)
set_option maxRecDepth 20000 in
theorem tP_yX0_worth : Cond.selects yX0_worth.cls yX0_worth yX0_worth ∈ lw_tbl := List.mem_append_left _ (List.mem_map.mpr ⟨(yX0_worth, 18), List.mem_of_getElem? (i := 7) (by decide +kernel), rfl⟩)
set_option maxRecDepth 20000 in
theorem tP_yX0_markAt : Cond.selects yX0_markAt.cls yX0_markAt yX0_markAt ∈ lw_tbl := List.mem_append_left _ (List.mem_map.mpr ⟨(yX0_markAt, 18), List.mem_of_getElem? (i := 8) (by decide +kernel), rfl⟩)
set_option maxRecDepth 20000 in
theorem tP_yX0_hasComeTo : Cond.selects yX0_hasComeTo.cls yX0_hasComeTo yX0_hasComeTo ∈ lw_tbl := List.mem_append_left _ (List.mem_map.mpr ⟨(yX0_hasComeTo, 18), List.mem_of_getElem? (i := 9) (by decide +kernel), rfl⟩)
set_option maxRecDepth 20000 in
theorem tP_yX0_countingSet : Cond.selects yX0_countingSet.cls yX0_countingSet yX0_countingSet ∈ lw_tbl := List.mem_append_left _ (List.mem_map.mpr ⟨(yX0_countingSet, 18), List.mem_of_getElem? (i := 10) (by decide +kernel), rfl⟩)
set_option maxRecDepth 20000 in
theorem tP_yX0_sumOver : Cond.selects yX0_sumOver.cls yX0_sumOver yX0_sumOver ∈ lw_tbl := List.mem_append_left _ (List.mem_map.mpr ⟨(yX0_sumOver, 18), List.mem_of_getElem? (i := 11) (by decide +kernel), rfl⟩)
set_option maxRecDepth 20000 in
theorem tP_yX0_spotComeTo : Cond.selects yX0_spotComeTo.cls yX0_spotComeTo yX0_spotComeTo ∈ lw_tbl := List.mem_append_left _ (List.mem_map.mpr ⟨(yX0_spotComeTo, 18), List.mem_of_getElem? (i := 12) (by decide +kernel), rfl⟩)
set_option maxRecDepth 20000 in
theorem tP_yX0_tallyPlaces : Cond.selects yX0_tallyPlaces.cls yX0_tallyPlaces yX0_tallyPlaces ∈ lw_tbl := List.mem_append_left _ (List.mem_map.mpr ⟨(yX0_tallyPlaces, 18), List.mem_of_getElem? (i := 13) (by decide +kernel), rfl⟩)
set_option maxRecDepth 20000 in
theorem tP_yX0_isLeakyByTally : Cond.selects yX0_isLeakyByTally.cls yX0_isLeakyByTally yX0_isLeakyByTally ∈ lw_tbl := List.mem_append_left _ (List.mem_map.mpr ⟨(yX0_isLeakyByTally, 18), List.mem_of_getElem? (i := 14) (by decide +kernel), rfl⟩)
set_option maxRecDepth 20000 in
theorem tP_yX0_sharedSet : Cond.selects yX0_sharedSet.cls yX0_sharedSet yX0_sharedSet ∈ lw_tbl := List.mem_append_left _ (List.mem_map.mpr ⟨(yX0_sharedSet, 18), List.mem_of_getElem? (i := 15) (by decide +kernel), rfl⟩)
set_option maxRecDepth 20000 in
theorem tP_yX0_gatherSums : Cond.selects yX0_gatherSums.cls yX0_gatherSums yX0_gatherSums ∈ lw_tbl := List.mem_append_left _ (List.mem_map.mpr ⟨(yX0_gatherSums, 18), List.mem_of_getElem? (i := 16) (by decide +kernel), rfl⟩)
set_option maxRecDepth 20000 in
theorem tP_yX0_sumOfValues : Cond.selects yX0_sumOfValues.cls yX0_sumOfValues yX0_sumOfValues ∈ lw_tbl := List.mem_append_left _ (List.mem_map.mpr ⟨(yX0_sumOfValues, 18), List.mem_of_getElem? (i := 17) (by decide +kernel), rfl⟩)
set_option maxRecDepth 20000 in
theorem tP_yX0_awayOfValues : Cond.selects yX0_awayOfValues.cls yX0_awayOfValues yX0_awayOfValues ∈ lw_tbl := List.mem_append_left _ (List.mem_map.mpr ⟨(yX0_awayOfValues, 18), List.mem_of_getElem? (i := 18) (by decide +kernel), rfl⟩)
set_option maxRecDepth 20000 in
theorem tP_yX0_rankInValues : Cond.selects yX0_rankInValues.cls yX0_rankInValues yX0_rankInValues ∈ lw_tbl := List.mem_append_left _ (List.mem_map.mpr ⟨(yX0_rankInValues, 18), List.mem_of_getElem? (i := 19) (by decide +kernel), rfl⟩)
set_option maxRecDepth 20000 in
theorem tP_yX0_cutParts : Cond.selects yX0_cutParts.cls yX0_cutParts yX0_cutParts ∈ lw_tbl := List.mem_append_left _ (List.mem_map.mpr ⟨(yX0_cutParts, 18), List.mem_of_getElem? (i := 20) (by decide +kernel), rfl⟩)
set_option maxRecDepth 20000 in
theorem tP_yX0_meanParts : Cond.selects yX0_meanParts.cls yX0_meanParts yX0_meanParts ∈ lw_tbl := List.mem_append_left _ (List.mem_map.mpr ⟨(yX0_meanParts, 18), List.mem_of_getElem? (i := 21) (by decide +kernel), rfl⟩)
set_option maxRecDepth 20000 in
theorem tP_yX0_isPassing : Cond.selects yX0_isPassing.cls yX0_isPassing yX0_isPassing ∈ lw_tbl := List.mem_append_left _ (List.mem_map.mpr ⟨(yX0_isPassing, 18), List.mem_of_getElem? (i := 22) (by decide +kernel), rfl⟩)
set_option maxRecDepth 20000 in
theorem tP_yX0_sameWrongs : Cond.selects yX0_sameWrongs.cls yX0_sameWrongs yX0_sameWrongs ∈ lw_tbl := List.mem_append_left _ (List.mem_map.mpr ⟨(yX0_sameWrongs, 18), List.mem_of_getElem? (i := 23) (by decide +kernel), rfl⟩)
set_option maxRecDepth 20000 in
theorem tP_yX0_areAlikeOf : Cond.selects yX0_areAlikeOf.cls yX0_areAlikeOf yX0_areAlikeOf ∈ lw_tbl := List.mem_append_left _ (List.mem_map.mpr ⟨(yX0_areAlikeOf, 18), List.mem_of_getElem? (i := 24) (by decide +kernel), rfl⟩)
set_option maxRecDepth 20000 in
theorem tP_yX0_countAnswers : Cond.selects yX0_countAnswers.cls yX0_countAnswers yX0_countAnswers ∈ lw_tbl := List.mem_append_left _ (List.mem_map.mpr ⟨(yX0_countAnswers, 18), List.mem_of_getElem? (i := 25) (by decide +kernel), rfl⟩)
set_option maxRecDepth 20000 in
theorem tP_yX0_countPassing : Cond.selects yX0_countPassing.cls yX0_countPassing yX0_countPassing ∈ lw_tbl := List.mem_append_left _ (List.mem_map.mpr ⟨(yX0_countPassing, 18), List.mem_of_getElem? (i := 26) (by decide +kernel), rfl⟩)
set_option maxRecDepth 20000 in
theorem tP_yX1_in : Cond.selects yX1_in.cls yX1_in yX1_in ∈ lw_tbl := List.mem_append_left _ (List.mem_map.mpr ⟨(yX1_in, 13), List.mem_of_getElem? (i := 27) (by decide +kernel), rfl⟩)
set_option maxRecDepth 20000 in
theorem tP_yX1_isKey : Cond.selects yX1_isKey.cls yX1_isKey yX1_isKey ∈ lw_tbl := List.mem_append_left _ (List.mem_map.mpr ⟨(yX1_isKey, 13), List.mem_of_getElem? (i := 28) (by decide +kernel), rfl⟩)
set_option maxRecDepth 20000 in
theorem tP_yX1_isQuestion : Cond.selects yX1_isQuestion.cls yX1_isQuestion yX1_isQuestion ∈ lw_tbl := List.mem_append_left _ (List.mem_map.mpr ⟨(yX1_isQuestion, 13), List.mem_of_getElem? (i := 29) (by decide +kernel), rfl⟩)
set_option maxRecDepth 20000 in
theorem tP_yX1_isPaper : Cond.selects yX1_isPaper.cls yX1_isPaper yX1_isPaper ∈ lw_tbl := List.mem_append_left _ (List.mem_map.mpr ⟨(yX1_isPaper, 13), List.mem_of_getElem? (i := 30) (by decide +kernel), rfl⟩)
set_option maxRecDepth 20000 in
theorem tP_yX1_spot : Cond.selects yX1_spot.cls yX1_spot yX1_spot ∈ lw_tbl := List.mem_append_left _ (List.mem_map.mpr ⟨(yX1_spot, 13), List.mem_of_getElem? (i := 31) (by decide +kernel), rfl⟩)
set_option maxRecDepth 20000 in
theorem tP_yX1_groupSize : Cond.selects yX1_groupSize.cls yX1_groupSize yX1_groupSize ∈ lw_tbl := List.mem_append_left _ (List.mem_map.mpr ⟨(yX1_groupSize, 13), List.mem_of_getElem? (i := 32) (by decide +kernel), rfl⟩)
set_option maxRecDepth 20000 in
theorem tP_yX1_own : Cond.selects yX1_own.cls yX1_own yX1_own ∈ lw_tbl := List.mem_append_left _ (List.mem_map.mpr ⟨(yX1_own, 13), List.mem_of_getElem? (i := 33) (by decide +kernel), rfl⟩)
set_option maxRecDepth 20000 in
theorem tP_yX1_isPupil : Cond.selects yX1_isPupil.cls yX1_isPupil yX1_isPupil ∈ lw_tbl := List.mem_append_left _ (List.mem_map.mpr ⟨(yX1_isPupil, 13), List.mem_of_getElem? (i := 34) (by decide +kernel), rfl⟩)
set_option maxRecDepth 20000 in
theorem tP_yX1_isAnswer : Cond.selects yX1_isAnswer.cls yX1_isAnswer yX1_isAnswer ∈ lw_tbl := List.mem_append_left _ (List.mem_map.mpr ⟨(yX1_isAnswer, 13), List.mem_of_getElem? (i := 35) (by decide +kernel), rfl⟩)
set_option maxRecDepth 20000 in
theorem tP_yX1_worth : Cond.selects yX1_worth.cls yX1_worth yX1_worth ∈ lw_tbl := List.mem_append_left _ (List.mem_map.mpr ⟨(yX1_worth, 13), List.mem_of_getElem? (i := 36) (by decide +kernel), rfl⟩)
set_option maxRecDepth 20000 in
theorem tP_yX1_markAt : Cond.selects yX1_markAt.cls yX1_markAt yX1_markAt ∈ lw_tbl := List.mem_append_left _ (List.mem_map.mpr ⟨(yX1_markAt, 13), List.mem_of_getElem? (i := 37) (by decide +kernel), rfl⟩)
set_option maxRecDepth 20000 in
theorem tP_yX1_cameTo : Cond.selects yX1_cameTo.cls yX1_cameTo yX1_cameTo ∈ lw_tbl := List.mem_append_left _ (List.mem_map.mpr ⟨(yX1_cameTo, 13), List.mem_of_getElem? (i := 38) (by decide +kernel), rfl⟩)
set_option maxRecDepth 20000 in
theorem tP_yX1_totalOf : Cond.selects yX1_totalOf.cls yX1_totalOf yX1_totalOf ∈ lw_tbl := List.mem_append_left _ (List.mem_map.mpr ⟨(yX1_totalOf, 13), List.mem_of_getElem? (i := 39) (by decide +kernel), rfl⟩)
set_option maxRecDepth 20000 in
theorem tP_yX1_isCounted : Cond.selects yX1_isCounted.cls yX1_isCounted yX1_isCounted ∈ lw_tbl := List.mem_append_left _ (List.mem_map.mpr ⟨(yX1_isCounted, 13), List.mem_of_getElem? (i := 40) (by decide +kernel), rfl⟩)
set_option maxRecDepth 20000 in
theorem tP_yX1_part : Cond.selects yX1_part.cls yX1_part yX1_part ∈ lw_tbl := List.mem_append_left _ (List.mem_map.mpr ⟨(yX1_part, 13), List.mem_of_getElem? (i := 41) (by decide +kernel), rfl⟩)
set_option maxRecDepth 20000 in
theorem tP_yX1_divisor : Cond.selects yX1_divisor.cls yX1_divisor yX1_divisor ∈ lw_tbl := List.mem_append_left _ (List.mem_map.mpr ⟨(yX1_divisor, 13), List.mem_of_getElem? (i := 42) (by decide +kernel), rfl⟩)
set_option maxRecDepth 20000 in
theorem tP_yX1_leaks : Cond.selects yX1_leaks.cls yX1_leaks yX1_leaks ∈ lw_tbl := List.mem_append_left _ (List.mem_map.mpr ⟨(yX1_leaks, 13), List.mem_of_getElem? (i := 43) (by decide +kernel), rfl⟩)
set_option maxRecDepth 20000 in
theorem tP_yX1_sharedMany : Cond.selects yX1_sharedMany.cls yX1_sharedMany yX1_sharedMany ∈ lw_tbl := List.mem_append_left _ (List.mem_map.mpr ⟨(yX1_sharedMany, 13), List.mem_of_getElem? (i := 44) (by decide +kernel), rfl⟩)
set_option maxRecDepth 20000 in
theorem tP_yX1_isShared : Cond.selects yX1_isShared.cls yX1_isShared yX1_isShared ∈ lw_tbl := List.mem_append_left _ (List.mem_map.mpr ⟨(yX1_isShared, 13), List.mem_of_getElem? (i := 45) (by decide +kernel), rfl⟩)
set_option maxRecDepth 20000 in
theorem tP_yX1_sharedSum : Cond.selects yX1_sharedSum.cls yX1_sharedSum yX1_sharedSum ∈ lw_tbl := List.mem_append_left _ (List.mem_map.mpr ⟨(yX1_sharedSum, 13), List.mem_of_getElem? (i := 46) (by decide +kernel), rfl⟩)
set_option maxRecDepth 20000 in
theorem tP_yX1_sumOf : Cond.selects yX1_sumOf.cls yX1_sumOf yX1_sumOf ∈ lw_tbl := List.mem_append_left _ (List.mem_map.mpr ⟨(yX1_sumOf, 13), List.mem_of_getElem? (i := 47) (by decide +kernel), rfl⟩)
set_option maxRecDepth 20000 in
theorem tP_yX1_valueOf : Cond.selects yX1_valueOf.cls yX1_valueOf yX1_valueOf ∈ lw_tbl := List.mem_append_left _ (List.mem_map.mpr ⟨(yX1_valueOf, 13), List.mem_of_getElem? (i := 48) (by decide +kernel), rfl⟩)
set_option maxRecDepth 20000 in
theorem tP_yX1_away : Cond.selects yX1_away.cls yX1_away yX1_away ∈ lw_tbl := List.mem_append_left _ (List.mem_map.mpr ⟨(yX1_away, 13), List.mem_of_getElem? (i := 49) (by decide +kernel), rfl⟩)
set_option maxRecDepth 20000 in
theorem tP_yX1_rankOf : Cond.selects yX1_rankOf.cls yX1_rankOf yX1_rankOf ∈ lw_tbl := List.mem_append_left _ (List.mem_map.mpr ⟨(yX1_rankOf, 13), List.mem_of_getElem? (i := 50) (by decide +kernel), rfl⟩)
set_option maxRecDepth 20000 in
theorem tP_yX1_cutOf : Cond.selects yX1_cutOf.cls yX1_cutOf yX1_cutOf ∈ lw_tbl := List.mem_append_left _ (List.mem_map.mpr ⟨(yX1_cutOf, 13), List.mem_of_getElem? (i := 51) (by decide +kernel), rfl⟩)
set_option maxRecDepth 20000 in
theorem tP_yX1_isPassed : Cond.selects yX1_isPassed.cls yX1_isPassed yX1_isPassed ∈ lw_tbl := List.mem_append_left _ (List.mem_map.mpr ⟨(yX1_isPassed, 13), List.mem_of_getElem? (i := 52) (by decide +kernel), rfl⟩)
set_option maxRecDepth 20000 in
theorem tP_yX1_alikeMany : Cond.selects yX1_alikeMany.cls yX1_alikeMany yX1_alikeMany ∈ lw_tbl := List.mem_append_left _ (List.mem_map.mpr ⟨(yX1_alikeMany, 13), List.mem_of_getElem? (i := 53) (by decide +kernel), rfl⟩)
theorem inX0 : ∀ w ∈ wsX00, w ∈ lw_tbl := by
  intro w hw
  have e : wsX00 = [Cond.lays RX0 "ExamScales" "questionCount" "I", Cond.lays RX0 "ExamScales" "paperCount" "I", Cond.lays RX0 "ExamScales" "pupilCount" "I", Cond.lays RX0 "ExamScales" "struckSet" "I", Cond.lays RX0 "ExamScales" "trialSet" "I", Cond.laysFinal RX0 "ExamScales" "kinds" "[I", Cond.laysFinal RX0 "ExamScales" "mosts" "[I", Cond.laysFinal RX0 "ExamScales" "keys" "[I", Cond.laysFinal RX0 "ExamScales" "paperSizes" "[I", Cond.laysFinal RX0 "ExamScales" "paperSets" "[I", Cond.laysFinal RX0 "ExamScales" "paperRows" "[I", Cond.laysFinal RX0 "ExamScales" "pupilPapers" "[I", Cond.laysFinal RX0 "ExamScales" "pupilPlaces" "[I", Cond.laysFinal RX0 "ExamScales" "answers" "[I", Cond.laysFinal RX0 "ExamScales" "told" "[I", Cond.laysFinal RX0 "ExamScales" "values" "[I", Cond.laysFinal RX0 "ExamScales" "cameAt" "[I", Cond.laysFinal RX0 "ExamScales" "fullAt" "[I"] := rfl
  rw [e] at hw
  simp only [List.mem_cons, List.not_mem_nil, or_false] at hw
  rcases hw with rfl | rfl | rfl | rfl | rfl | rfl | rfl | rfl | rfl | rfl | rfl | rfl | rfl | rfl | rfl | rfl | rfl | rfl
  · exact tL_RX0_questionCount
  · exact tL_RX0_paperCount
  · exact tL_RX0_pupilCount
  · exact tL_RX0_struckSet
  · exact tL_RX0_trialSet
  · exact tL_RX0_kinds
  · exact tL_RX0_mosts
  · exact tL_RX0_keys
  · exact tL_RX0_paperSizes
  · exact tL_RX0_paperSets
  · exact tL_RX0_paperRows
  · exact tL_RX0_pupilPapers
  · exact tL_RX0_pupilPlaces
  · exact tL_RX0_answers
  · exact tL_RX0_told
  · exact tL_RX0_values
  · exact tL_RX0_cameAt
  · exact tL_RX0_fullAt

theorem inX1 : ∀ w ∈ wsX10, w ∈ lw_tbl := by
  intro w hw
  have e : wsX10 = [Cond.lays RX1 "ExamScalesModel" "questions" "I", Cond.lays RX1 "ExamScalesModel" "papers" "I", Cond.lays RX1 "ExamScalesModel" "pupils" "I", Cond.laysFinal RX1 "ExamScalesModel" "kind" "[I", Cond.laysFinal RX1 "ExamScalesModel" "most" "[I", Cond.laysFinal RX1 "ExamScalesModel" "key" "[I", Cond.laysFinal RX1 "ExamScalesModel" "isStruck" "[Z", Cond.laysFinal RX1 "ExamScalesModel" "asked" "[I", Cond.laysFinal RX1 "ExamScalesModel" "size" "[I", Cond.laysFinal RX1 "ExamScalesModel" "paperOf" "[I", Cond.laysFinal RX1 "ExamScalesModel" "placeOf" "[I", Cond.laysFinal RX1 "ExamScalesModel" "given" "[I", Cond.laysFinal RX1 "ExamScalesModel" "told" "[I"] := rfl
  rw [e] at hw
  simp only [List.mem_cons, List.not_mem_nil, or_false] at hw
  rcases hw with rfl | rfl | rfl | rfl | rfl | rfl | rfl | rfl | rfl | rfl | rfl | rfl | rfl
  · exact tL_RX1_questions
  · exact tL_RX1_papers
  · exact tL_RX1_pupils
  · exact tL_RX1_kind
  · exact tL_RX1_most
  · exact tL_RX1_key
  · exact tL_RX1_isStruck
  · exact tL_RX1_asked
  · exact tL_RX1_size
  · exact tL_RX1_paperOf
  · exact tL_RX1_placeOf
  · exact tL_RX1_given
  · exact tL_RX1_told
end
section
theorem dX0_init_0 : decode cX0_init 0 = .ok (.aload_n 0, 1) := by decide +kernel
theorem dX0_init_1 : decode cX0_init 1 = .ok (.invokespecial 5, 3) := by decide +kernel
theorem dX0_init_4 : decode cX0_init 4 = .ok (.aload_n 0, 1) := by decide +kernel
theorem dX0_init_5 : decode cX0_init 5 = .ok (.bipush 30, 2) := by decide +kernel
theorem dX0_init_7 : decode cX0_init 7 = .ok (.newarray .int, 2) := by decide +kernel
theorem dX0_init_9 : decode cX0_init 9 = .ok (.putfield 11, 3) := by decide +kernel
theorem dX0_init_12 : decode cX0_init 12 = .ok (.aload_n 0, 1) := by decide +kernel
theorem dX0_init_13 : decode cX0_init 13 = .ok (.bipush 30, 2) := by decide +kernel
theorem dX0_init_15 : decode cX0_init 15 = .ok (.newarray .int, 2) := by decide +kernel
theorem dX0_init_17 : decode cX0_init 17 = .ok (.putfield 15, 3) := by decide +kernel
theorem dX0_init_20 : decode cX0_init 20 = .ok (.aload_n 0, 1) := by decide +kernel
theorem dX0_init_21 : decode cX0_init 21 = .ok (.bipush 30, 2) := by decide +kernel
theorem dX0_init_23 : decode cX0_init 23 = .ok (.newarray .int, 2) := by decide +kernel
theorem dX0_init_25 : decode cX0_init 25 = .ok (.putfield 18, 3) := by decide +kernel
theorem dX0_init_28 : decode cX0_init 28 = .ok (.aload_n 0, 1) := by decide +kernel
theorem dX0_init_29 : decode cX0_init 29 = .ok (.bipush 8, 2) := by decide +kernel
theorem dX0_init_31 : decode cX0_init 31 = .ok (.newarray .int, 2) := by decide +kernel
theorem dX0_init_33 : decode cX0_init 33 = .ok (.putfield 21, 3) := by decide +kernel
theorem dX0_init_36 : decode cX0_init 36 = .ok (.aload_n 0, 1) := by decide +kernel
theorem dX0_init_37 : decode cX0_init 37 = .ok (.bipush 8, 2) := by decide +kernel
theorem dX0_init_39 : decode cX0_init 39 = .ok (.newarray .int, 2) := by decide +kernel
theorem dX0_init_41 : decode cX0_init 41 = .ok (.putfield 24, 3) := by decide +kernel
theorem dX0_init_44 : decode cX0_init 44 = .ok (.aload_n 0, 1) := by decide +kernel
theorem dX0_init_45 : decode cX0_init 45 = .ok (.bipush 96, 2) := by decide +kernel
theorem dX0_init_47 : decode cX0_init 47 = .ok (.newarray .int, 2) := by decide +kernel
theorem dX0_init_49 : decode cX0_init 49 = .ok (.putfield 27, 3) := by decide +kernel
theorem dX0_init_52 : decode cX0_init 52 = .ok (.aload_n 0, 1) := by decide +kernel
theorem dX0_init_53 : decode cX0_init 53 = .ok (.bipush 60, 2) := by decide +kernel
theorem dX0_init_55 : decode cX0_init 55 = .ok (.newarray .int, 2) := by decide +kernel
theorem dX0_init_57 : decode cX0_init 57 = .ok (.putfield 30, 3) := by decide +kernel
theorem dX0_init_60 : decode cX0_init 60 = .ok (.aload_n 0, 1) := by decide +kernel
theorem dX0_init_61 : decode cX0_init 61 = .ok (.bipush 60, 2) := by decide +kernel
theorem dX0_init_63 : decode cX0_init 63 = .ok (.newarray .int, 2) := by decide +kernel
theorem dX0_init_65 : decode cX0_init 65 = .ok (.putfield 33, 3) := by decide +kernel
theorem dX0_init_68 : decode cX0_init 68 = .ok (.aload_n 0, 1) := by decide +kernel
theorem dX0_init_69 : decode cX0_init 69 = .ok (.sipush 720, 3) := by decide +kernel
theorem dX0_init_72 : decode cX0_init 72 = .ok (.newarray .int, 2) := by decide +kernel
theorem dX0_init_74 : decode cX0_init 74 = .ok (.putfield 36, 3) := by decide +kernel
theorem dX0_init_77 : decode cX0_init 77 = .ok (.aload_n 0, 1) := by decide +kernel
theorem dX0_init_78 : decode cX0_init 78 = .ok (.sipush 768, 3) := by decide +kernel
theorem dX0_init_81 : decode cX0_init 81 = .ok (.newarray .int, 2) := by decide +kernel
theorem dX0_init_83 : decode cX0_init 83 = .ok (.putfield 39, 3) := by decide +kernel
theorem dX0_init_86 : decode cX0_init 86 = .ok (.aload_n 0, 1) := by decide +kernel
theorem dX0_init_87 : decode cX0_init 87 = .ok (.bipush 60, 2) := by decide +kernel
theorem dX0_init_89 : decode cX0_init 89 = .ok (.newarray .int, 2) := by decide +kernel
theorem dX0_init_91 : decode cX0_init 91 = .ok (.putfield 42, 3) := by decide +kernel
theorem dX0_init_94 : decode cX0_init 94 = .ok (.aload_n 0, 1) := by decide +kernel
theorem dX0_init_95 : decode cX0_init 95 = .ok (.iconst 4, 1) := by decide +kernel
theorem dX0_init_96 : decode cX0_init 96 = .ok (.newarray .int, 2) := by decide +kernel
theorem dX0_init_98 : decode cX0_init 98 = .ok (.putfield 45, 3) := by decide +kernel
theorem dX0_init_101 : decode cX0_init 101 = .ok (.aload_n 0, 1) := by decide +kernel
theorem dX0_init_102 : decode cX0_init 102 = .ok (.iconst 4, 1) := by decide +kernel
theorem dX0_init_103 : decode cX0_init 103 = .ok (.newarray .int, 2) := by decide +kernel
theorem dX0_init_105 : decode cX0_init 105 = .ok (.putfield 48, 3) := by decide +kernel
theorem dX0_init_108 : decode cX0_init 108 = .ok (.aload_n 0, 1) := by decide +kernel
theorem dX0_init_109 : decode cX0_init 109 = .ok (.getfield 36, 3) := by decide +kernel
theorem dX0_init_112 : decode cX0_init 112 = .ok (.iconst (-1), 1) := by decide +kernel
theorem dX0_init_113 : decode cX0_init 113 = .ok (.invokestatic 51, 3) := by decide +kernel
theorem dX0_init_116 : decode cX0_init 116 = .ok (.aload_n 0, 1) := by decide +kernel
theorem dX0_init_117 : decode cX0_init 117 = .ok (.getfield 39, 3) := by decide +kernel
theorem dX0_init_120 : decode cX0_init 120 = .ok (.iconst (-1), 1) := by decide +kernel
theorem dX0_init_121 : decode cX0_init 121 = .ok (.invokestatic 51, 3) := by decide +kernel
theorem dX0_init_124 : decode cX0_init 124 = .ok (.return_, 1) := by decide +kernel
theorem dX0_question_0 : decode cX0_question 0 = .ok (.iload_n 1, 1) := by decide +kernel
theorem dX0_question_1 : decode cX0_question 1 = .ok (.ifCond .lt 19, 3) := by decide +kernel
theorem dX0_question_4 : decode cX0_question 4 = .ok (.iload_n 1, 1) := by decide +kernel
theorem dX0_question_5 : decode cX0_question 5 = .ok (.iconst 3, 1) := by decide +kernel
theorem dX0_question_6 : decode cX0_question 6 = .ok (.if_icmp .gt 14, 3) := by decide +kernel
theorem dX0_question_9 : decode cX0_question 9 = .ok (.iload_n 2, 1) := by decide +kernel
theorem dX0_question_10 : decode cX0_question 10 = .ok (.iconst 1, 1) := by decide +kernel
theorem dX0_question_11 : decode cX0_question 11 = .ok (.if_icmp .lt 9, 3) := by decide +kernel
theorem dX0_question_14 : decode cX0_question 14 = .ok (.iload_n 2, 1) := by decide +kernel
theorem dX0_question_15 : decode cX0_question 15 = .ok (.bipush 10, 2) := by decide +kernel
theorem dX0_question_17 : decode cX0_question 17 = .ok (.if_icmp .le 6, 3) := by decide +kernel
theorem dX0_question_20 : decode cX0_question 20 = .ok (.bipush (-2), 2) := by decide +kernel
theorem dX0_question_22 : decode cX0_question 22 = .ok (.ireturn, 1) := by decide +kernel
theorem dX0_question_23 : decode cX0_question 23 = .ok (.iload_n 1, 1) := by decide +kernel
theorem dX0_question_24 : decode cX0_question 24 = .ok (.iconst 1, 1) := by decide +kernel
theorem dX0_question_25 : decode cX0_question 25 = .ok (.if_icmp .ne 13, 3) := by decide +kernel
theorem dX0_question_28 : decode cX0_question 28 = .ok (.iload_n 3, 1) := by decide +kernel
theorem dX0_question_29 : decode cX0_question 29 = .ok (.invokestatic 57, 3) := by decide +kernel
theorem dX0_question_32 : decode cX0_question 32 = .ok (.ifCond .ne 13, 3) := by decide +kernel
theorem dX0_question_35 : decode cX0_question 35 = .ok (.goto 7, 3) := by decide +kernel
theorem dX0_question_38 : decode cX0_question 38 = .ok (.iload_n 3, 1) := by decide +kernel
theorem dX0_question_39 : decode cX0_question 39 = .ok (.ifCond .eq 6, 3) := by decide +kernel
theorem dX0_question_42 : decode cX0_question 42 = .ok (.bipush (-2), 2) := by decide +kernel
theorem dX0_question_44 : decode cX0_question 44 = .ok (.ireturn, 1) := by decide +kernel
theorem dX0_question_45 : decode cX0_question 45 = .ok (.aload_n 0, 1) := by decide +kernel
theorem dX0_question_46 : decode cX0_question 46 = .ok (.getfield 61, 3) := by decide +kernel
theorem dX0_question_49 : decode cX0_question 49 = .ok (.bipush 30, 2) := by decide +kernel
theorem dX0_question_51 : decode cX0_question 51 = .ok (.if_icmp .lt 6, 3) := by decide +kernel
theorem dX0_question_54 : decode cX0_question 54 = .ok (.bipush (-4), 2) := by decide +kernel
theorem dX0_question_56 : decode cX0_question 56 = .ok (.ireturn, 1) := by decide +kernel
theorem dX0_question_57 : decode cX0_question 57 = .ok (.aload_n 0, 1) := by decide +kernel
theorem dX0_question_58 : decode cX0_question 58 = .ok (.getfield 61, 3) := by decide +kernel
theorem dX0_question_61 : decode cX0_question 61 = .ok (.istore 4, 2) := by decide +kernel
theorem dX0_question_63 : decode cX0_question 63 = .ok (.aload_n 0, 1) := by decide +kernel
theorem dX0_question_64 : decode cX0_question 64 = .ok (.getfield 11, 3) := by decide +kernel
theorem dX0_question_67 : decode cX0_question 67 = .ok (.iload 4, 2) := by decide +kernel
theorem dX0_question_69 : decode cX0_question 69 = .ok (.iload_n 1, 1) := by decide +kernel
theorem dX0_question_70 : decode cX0_question 70 = .ok (.iastore, 1) := by decide +kernel
theorem dX0_question_71 : decode cX0_question 71 = .ok (.aload_n 0, 1) := by decide +kernel
theorem dX0_question_72 : decode cX0_question 72 = .ok (.getfield 15, 3) := by decide +kernel
theorem dX0_question_75 : decode cX0_question 75 = .ok (.iload 4, 2) := by decide +kernel
theorem dX0_question_77 : decode cX0_question 77 = .ok (.iload_n 2, 1) := by decide +kernel
theorem dX0_question_78 : decode cX0_question 78 = .ok (.iastore, 1) := by decide +kernel
theorem dX0_question_79 : decode cX0_question 79 = .ok (.aload_n 0, 1) := by decide +kernel
theorem dX0_question_80 : decode cX0_question 80 = .ok (.getfield 18, 3) := by decide +kernel
theorem dX0_question_83 : decode cX0_question 83 = .ok (.iload 4, 2) := by decide +kernel
theorem dX0_question_85 : decode cX0_question 85 = .ok (.iload_n 3, 1) := by decide +kernel
theorem dX0_question_86 : decode cX0_question 86 = .ok (.iastore, 1) := by decide +kernel
theorem dX0_question_87 : decode cX0_question 87 = .ok (.iload_n 1, 1) := by decide +kernel
theorem dX0_question_88 : decode cX0_question 88 = .ok (.iconst 3, 1) := by decide +kernel
theorem dX0_question_89 : decode cX0_question 89 = .ok (.if_icmp .ne 16, 3) := by decide +kernel
theorem dX0_question_92 : decode cX0_question 92 = .ok (.aload_n 0, 1) := by decide +kernel
theorem dX0_question_93 : decode cX0_question 93 = .ok (.dup, 1) := by decide +kernel
theorem dX0_question_94 : decode cX0_question 94 = .ok (.getfield 65, 3) := by decide +kernel
theorem dX0_question_97 : decode cX0_question 97 = .ok (.iconst 1, 1) := by decide +kernel
theorem dX0_question_98 : decode cX0_question 98 = .ok (.iload 4, 2) := by decide +kernel
theorem dX0_question_100 : decode cX0_question 100 = .ok (.ishl, 1) := by decide +kernel
theorem dX0_question_101 : decode cX0_question 101 = .ok (.ior, 1) := by decide +kernel
theorem dX0_question_102 : decode cX0_question 102 = .ok (.putfield 65, 3) := by decide +kernel
theorem dX0_question_105 : decode cX0_question 105 = .ok (.aload_n 0, 1) := by decide +kernel
theorem dX0_question_106 : decode cX0_question 106 = .ok (.dup, 1) := by decide +kernel
theorem dX0_question_107 : decode cX0_question 107 = .ok (.getfield 61, 3) := by decide +kernel
theorem dX0_question_110 : decode cX0_question 110 = .ok (.iconst 1, 1) := by decide +kernel
theorem dX0_question_111 : decode cX0_question 111 = .ok (.iadd, 1) := by decide +kernel
theorem dX0_question_112 : decode cX0_question 112 = .ok (.putfield 61, 3) := by decide +kernel
theorem dX0_question_115 : decode cX0_question 115 = .ok (.iload 4, 2) := by decide +kernel
theorem dX0_question_117 : decode cX0_question 117 = .ok (.ireturn, 1) := by decide +kernel
theorem dX0_key_0 : decode cX0_key 0 = .ok (.aload_n 0, 1) := by decide +kernel
theorem dX0_key_1 : decode cX0_key 1 = .ok (.iload_n 1, 1) := by decide +kernel
theorem dX0_key_2 : decode cX0_key 2 = .ok (.invokevirtual 68, 3) := by decide +kernel
theorem dX0_key_5 : decode cX0_key 5 = .ok (.ifCond .ne 5, 3) := by decide +kernel
theorem dX0_key_8 : decode cX0_key 8 = .ok (.iconst (-1), 1) := by decide +kernel
theorem dX0_key_9 : decode cX0_key 9 = .ok (.ireturn, 1) := by decide +kernel
theorem dX0_key_10 : decode cX0_key 10 = .ok (.iload_n 2, 1) := by decide +kernel
theorem dX0_key_11 : decode cX0_key 11 = .ok (.invokestatic 57, 3) := by decide +kernel
theorem dX0_key_14 : decode cX0_key 14 = .ok (.ifCond .ne 6, 3) := by decide +kernel
theorem dX0_key_17 : decode cX0_key 17 = .ok (.bipush (-2), 2) := by decide +kernel
theorem dX0_key_19 : decode cX0_key 19 = .ok (.ireturn, 1) := by decide +kernel
theorem dX0_key_20 : decode cX0_key 20 = .ok (.aload_n 0, 1) := by decide +kernel
theorem dX0_key_21 : decode cX0_key 21 = .ok (.getfield 11, 3) := by decide +kernel
theorem dX0_key_24 : decode cX0_key 24 = .ok (.iload_n 1, 1) := by decide +kernel
theorem dX0_key_25 : decode cX0_key 25 = .ok (.iaload, 1) := by decide +kernel
theorem dX0_key_26 : decode cX0_key 26 = .ok (.iconst 1, 1) := by decide +kernel
theorem dX0_key_27 : decode cX0_key 27 = .ok (.if_icmp .eq 6, 3) := by decide +kernel
theorem dX0_key_30 : decode cX0_key 30 = .ok (.bipush (-3), 2) := by decide +kernel
theorem dX0_key_32 : decode cX0_key 32 = .ok (.ireturn, 1) := by decide +kernel
theorem dX0_key_33 : decode cX0_key 33 = .ok (.aload_n 0, 1) := by decide +kernel
theorem dX0_key_34 : decode cX0_key 34 = .ok (.getfield 18, 3) := by decide +kernel
theorem dX0_key_37 : decode cX0_key 37 = .ok (.iload_n 1, 1) := by decide +kernel
theorem dX0_key_38 : decode cX0_key 38 = .ok (.iaload, 1) := by decide +kernel
theorem dX0_key_39 : decode cX0_key 39 = .ok (.istore_n 3, 1) := by decide +kernel
theorem dX0_key_40 : decode cX0_key 40 = .ok (.aload_n 0, 1) := by decide +kernel
theorem dX0_key_41 : decode cX0_key 41 = .ok (.getfield 18, 3) := by decide +kernel
theorem dX0_key_44 : decode cX0_key 44 = .ok (.iload_n 1, 1) := by decide +kernel
theorem dX0_key_45 : decode cX0_key 45 = .ok (.iload_n 2, 1) := by decide +kernel
theorem dX0_key_46 : decode cX0_key 46 = .ok (.iastore, 1) := by decide +kernel
theorem dX0_key_47 : decode cX0_key 47 = .ok (.iload_n 3, 1) := by decide +kernel
theorem dX0_key_48 : decode cX0_key 48 = .ok (.ireturn, 1) := by decide +kernel
theorem dX0_strike_0 : decode cX0_strike 0 = .ok (.aload_n 0, 1) := by decide +kernel
theorem dX0_strike_1 : decode cX0_strike 1 = .ok (.iload_n 1, 1) := by decide +kernel
theorem dX0_strike_2 : decode cX0_strike 2 = .ok (.invokevirtual 68, 3) := by decide +kernel
theorem dX0_strike_5 : decode cX0_strike 5 = .ok (.ifCond .ne 5, 3) := by decide +kernel
theorem dX0_strike_8 : decode cX0_strike 8 = .ok (.iconst (-1), 1) := by decide +kernel
theorem dX0_strike_9 : decode cX0_strike 9 = .ok (.ireturn, 1) := by decide +kernel
theorem dX0_strike_10 : decode cX0_strike 10 = .ok (.iload_n 2, 1) := by decide +kernel
theorem dX0_strike_11 : decode cX0_strike 11 = .ok (.ifCond .eq 11, 3) := by decide +kernel
theorem dX0_strike_14 : decode cX0_strike 14 = .ok (.iload_n 2, 1) := by decide +kernel
theorem dX0_strike_15 : decode cX0_strike 15 = .ok (.iconst 1, 1) := by decide +kernel
theorem dX0_strike_16 : decode cX0_strike 16 = .ok (.if_icmp .eq 6, 3) := by decide +kernel
theorem dX0_strike_19 : decode cX0_strike 19 = .ok (.bipush (-2), 2) := by decide +kernel
theorem dX0_strike_21 : decode cX0_strike 21 = .ok (.ireturn, 1) := by decide +kernel
theorem dX0_strike_22 : decode cX0_strike 22 = .ok (.aload_n 0, 1) := by decide +kernel
theorem dX0_strike_23 : decode cX0_strike 23 = .ok (.getfield 71, 3) := by decide +kernel
theorem dX0_strike_26 : decode cX0_strike 26 = .ok (.iload_n 1, 1) := by decide +kernel
theorem dX0_strike_27 : decode cX0_strike 27 = .ok (.invokestatic 74, 3) := by decide +kernel
theorem dX0_strike_30 : decode cX0_strike 30 = .ok (.ifCond .eq 7, 3) := by decide +kernel
theorem dX0_strike_33 : decode cX0_strike 33 = .ok (.iconst 1, 1) := by decide +kernel
theorem dX0_strike_34 : decode cX0_strike 34 = .ok (.goto 4, 3) := by decide +kernel
theorem dX0_strike_37 : decode cX0_strike 37 = .ok (.iconst 0, 1) := by decide +kernel
theorem dX0_strike_38 : decode cX0_strike 38 = .ok (.istore_n 3, 1) := by decide +kernel
theorem dX0_strike_39 : decode cX0_strike 39 = .ok (.aload_n 0, 1) := by decide +kernel
theorem dX0_strike_40 : decode cX0_strike 40 = .ok (.aload_n 0, 1) := by decide +kernel
theorem dX0_strike_41 : decode cX0_strike 41 = .ok (.getfield 71, 3) := by decide +kernel
theorem dX0_strike_44 : decode cX0_strike 44 = .ok (.iconst 1, 1) := by decide +kernel
theorem dX0_strike_45 : decode cX0_strike 45 = .ok (.iload_n 1, 1) := by decide +kernel
theorem dX0_strike_46 : decode cX0_strike 46 = .ok (.ishl, 1) := by decide +kernel
theorem dX0_strike_47 : decode cX0_strike 47 = .ok (.iconst (-1), 1) := by decide +kernel
theorem dX0_strike_48 : decode cX0_strike 48 = .ok (.ixor, 1) := by decide +kernel
theorem dX0_strike_49 : decode cX0_strike 49 = .ok (.iand, 1) := by decide +kernel
theorem dX0_strike_50 : decode cX0_strike 50 = .ok (.iload_n 2, 1) := by decide +kernel
theorem dX0_strike_51 : decode cX0_strike 51 = .ok (.iload_n 1, 1) := by decide +kernel
theorem dX0_strike_52 : decode cX0_strike 52 = .ok (.ishl, 1) := by decide +kernel
theorem dX0_strike_53 : decode cX0_strike 53 = .ok (.ior, 1) := by decide +kernel
theorem dX0_strike_54 : decode cX0_strike 54 = .ok (.putfield 71, 3) := by decide +kernel
theorem dX0_strike_57 : decode cX0_strike 57 = .ok (.iload_n 3, 1) := by decide +kernel
theorem dX0_strike_58 : decode cX0_strike 58 = .ok (.ireturn, 1) := by decide +kernel
theorem dX0_paper_0 : decode cX0_paper 0 = .ok (.aload_n 0, 1) := by decide +kernel
theorem dX0_paper_1 : decode cX0_paper 1 = .ok (.getfield 78, 3) := by decide +kernel
theorem dX0_paper_4 : decode cX0_paper 4 = .ok (.bipush 8, 2) := by decide +kernel
theorem dX0_paper_6 : decode cX0_paper 6 = .ok (.if_icmp .lt 6, 3) := by decide +kernel
theorem dX0_paper_9 : decode cX0_paper 9 = .ok (.bipush (-4), 2) := by decide +kernel
theorem dX0_paper_11 : decode cX0_paper 11 = .ok (.ireturn, 1) := by decide +kernel
theorem dX0_paper_12 : decode cX0_paper 12 = .ok (.aload_n 0, 1) := by decide +kernel
theorem dX0_paper_13 : decode cX0_paper 13 = .ok (.getfield 78, 3) := by decide +kernel
theorem dX0_paper_16 : decode cX0_paper 16 = .ok (.istore_n 1, 1) := by decide +kernel
theorem dX0_paper_17 : decode cX0_paper 17 = .ok (.aload_n 0, 1) := by decide +kernel
theorem dX0_paper_18 : decode cX0_paper 18 = .ok (.dup, 1) := by decide +kernel
theorem dX0_paper_19 : decode cX0_paper 19 = .ok (.getfield 78, 3) := by decide +kernel
theorem dX0_paper_22 : decode cX0_paper 22 = .ok (.iconst 1, 1) := by decide +kernel
theorem dX0_paper_23 : decode cX0_paper 23 = .ok (.iadd, 1) := by decide +kernel
theorem dX0_paper_24 : decode cX0_paper 24 = .ok (.putfield 78, 3) := by decide +kernel
theorem dX0_paper_27 : decode cX0_paper 27 = .ok (.iload_n 1, 1) := by decide +kernel
theorem dX0_paper_28 : decode cX0_paper 28 = .ok (.ireturn, 1) := by decide +kernel
theorem dX0_put_0 : decode cX0_put 0 = .ok (.aload_n 0, 1) := by decide +kernel
theorem dX0_put_1 : decode cX0_put 1 = .ok (.iload_n 1, 1) := by decide +kernel
theorem dX0_put_2 : decode cX0_put 2 = .ok (.invokevirtual 81, 3) := by decide +kernel
theorem dX0_put_5 : decode cX0_put 5 = .ok (.ifCond .eq 11, 3) := by decide +kernel
theorem dX0_put_8 : decode cX0_put 8 = .ok (.aload_n 0, 1) := by decide +kernel
theorem dX0_put_9 : decode cX0_put 9 = .ok (.iload_n 2, 1) := by decide +kernel
theorem dX0_put_10 : decode cX0_put 10 = .ok (.invokevirtual 68, 3) := by decide +kernel
theorem dX0_put_13 : decode cX0_put 13 = .ok (.ifCond .ne 5, 3) := by decide +kernel
theorem dX0_put_16 : decode cX0_put 16 = .ok (.iconst (-1), 1) := by decide +kernel
theorem dX0_put_17 : decode cX0_put 17 = .ok (.ireturn, 1) := by decide +kernel
theorem dX0_put_18 : decode cX0_put 18 = .ok (.aload_n 0, 1) := by decide +kernel
theorem dX0_put_19 : decode cX0_put 19 = .ok (.getfield 24, 3) := by decide +kernel
theorem dX0_put_22 : decode cX0_put 22 = .ok (.iload_n 1, 1) := by decide +kernel
theorem dX0_put_23 : decode cX0_put 23 = .ok (.iaload, 1) := by decide +kernel
theorem dX0_put_24 : decode cX0_put 24 = .ok (.iload_n 2, 1) := by decide +kernel
theorem dX0_put_25 : decode cX0_put 25 = .ok (.invokestatic 74, 3) := by decide +kernel
theorem dX0_put_28 : decode cX0_put 28 = .ok (.ifCond .ne 11, 3) := by decide +kernel
theorem dX0_put_31 : decode cX0_put 31 = .ok (.aload_n 0, 1) := by decide +kernel
theorem dX0_put_32 : decode cX0_put 32 = .ok (.iload_n 1, 1) := by decide +kernel
theorem dX0_put_33 : decode cX0_put 33 = .ok (.invokevirtual 84, 3) := by decide +kernel
theorem dX0_put_36 : decode cX0_put 36 = .ok (.ifCond .eq 6, 3) := by decide +kernel
theorem dX0_put_39 : decode cX0_put 39 = .ok (.bipush (-3), 2) := by decide +kernel
theorem dX0_put_41 : decode cX0_put 41 = .ok (.ireturn, 1) := by decide +kernel
theorem dX0_put_42 : decode cX0_put 42 = .ok (.aload_n 0, 1) := by decide +kernel
theorem dX0_put_43 : decode cX0_put 43 = .ok (.getfield 21, 3) := by decide +kernel
theorem dX0_put_46 : decode cX0_put 46 = .ok (.iload_n 1, 1) := by decide +kernel
theorem dX0_put_47 : decode cX0_put 47 = .ok (.iaload, 1) := by decide +kernel
theorem dX0_put_48 : decode cX0_put 48 = .ok (.istore_n 3, 1) := by decide +kernel
theorem dX0_put_49 : decode cX0_put 49 = .ok (.iload_n 3, 1) := by decide +kernel
theorem dX0_put_50 : decode cX0_put 50 = .ok (.bipush 12, 2) := by decide +kernel
theorem dX0_put_52 : decode cX0_put 52 = .ok (.if_icmp .lt 6, 3) := by decide +kernel
theorem dX0_put_55 : decode cX0_put 55 = .ok (.bipush (-4), 2) := by decide +kernel
theorem dX0_put_57 : decode cX0_put 57 = .ok (.ireturn, 1) := by decide +kernel
theorem dX0_put_58 : decode cX0_put 58 = .ok (.aload_n 0, 1) := by decide +kernel
theorem dX0_put_59 : decode cX0_put 59 = .ok (.getfield 27, 3) := by decide +kernel
theorem dX0_put_62 : decode cX0_put 62 = .ok (.iload_n 1, 1) := by decide +kernel
theorem dX0_put_63 : decode cX0_put 63 = .ok (.bipush 12, 2) := by decide +kernel
theorem dX0_put_65 : decode cX0_put 65 = .ok (.imul, 1) := by decide +kernel
theorem dX0_put_66 : decode cX0_put 66 = .ok (.iload_n 3, 1) := by decide +kernel
theorem dX0_put_67 : decode cX0_put 67 = .ok (.iadd, 1) := by decide +kernel
theorem dX0_put_68 : decode cX0_put 68 = .ok (.iload_n 2, 1) := by decide +kernel
theorem dX0_put_69 : decode cX0_put 69 = .ok (.iastore, 1) := by decide +kernel
theorem dX0_put_70 : decode cX0_put 70 = .ok (.aload_n 0, 1) := by decide +kernel
theorem dX0_put_71 : decode cX0_put 71 = .ok (.getfield 24, 3) := by decide +kernel
theorem dX0_put_74 : decode cX0_put 74 = .ok (.iload_n 1, 1) := by decide +kernel
theorem dX0_put_75 : decode cX0_put 75 = .ok (.dup2, 1) := by decide +kernel
theorem dX0_put_76 : decode cX0_put 76 = .ok (.iaload, 1) := by decide +kernel
theorem dX0_put_77 : decode cX0_put 77 = .ok (.iconst 1, 1) := by decide +kernel
theorem dX0_put_78 : decode cX0_put 78 = .ok (.iload_n 2, 1) := by decide +kernel
theorem dX0_put_79 : decode cX0_put 79 = .ok (.ishl, 1) := by decide +kernel
theorem dX0_put_80 : decode cX0_put 80 = .ok (.ior, 1) := by decide +kernel
theorem dX0_put_81 : decode cX0_put 81 = .ok (.iastore, 1) := by decide +kernel
theorem dX0_put_82 : decode cX0_put 82 = .ok (.aload_n 0, 1) := by decide +kernel
theorem dX0_put_83 : decode cX0_put 83 = .ok (.getfield 21, 3) := by decide +kernel
theorem dX0_put_86 : decode cX0_put 86 = .ok (.iload_n 1, 1) := by decide +kernel
theorem dX0_put_87 : decode cX0_put 87 = .ok (.dup2, 1) := by decide +kernel
theorem dX0_put_88 : decode cX0_put 88 = .ok (.iaload, 1) := by decide +kernel
theorem dX0_put_89 : decode cX0_put 89 = .ok (.iconst 1, 1) := by decide +kernel
theorem dX0_put_90 : decode cX0_put 90 = .ok (.iadd, 1) := by decide +kernel
theorem dX0_put_91 : decode cX0_put 91 = .ok (.iastore, 1) := by decide +kernel
theorem dX0_put_92 : decode cX0_put 92 = .ok (.iload_n 3, 1) := by decide +kernel
theorem dX0_put_93 : decode cX0_put 93 = .ok (.ireturn, 1) := by decide +kernel
theorem dX0_at_0 : decode cX0_at 0 = .ok (.aload_n 0, 1) := by decide +kernel
theorem dX0_at_1 : decode cX0_at 1 = .ok (.iload_n 1, 1) := by decide +kernel
theorem dX0_at_2 : decode cX0_at 2 = .ok (.invokevirtual 81, 3) := by decide +kernel
theorem dX0_at_5 : decode cX0_at 5 = .ok (.ifCond .eq 17, 3) := by decide +kernel
theorem dX0_at_8 : decode cX0_at 8 = .ok (.iload_n 2, 1) := by decide +kernel
theorem dX0_at_9 : decode cX0_at 9 = .ok (.ifCond .lt 13, 3) := by decide +kernel
theorem dX0_at_12 : decode cX0_at 12 = .ok (.iload_n 2, 1) := by decide +kernel
theorem dX0_at_13 : decode cX0_at 13 = .ok (.aload_n 0, 1) := by decide +kernel
theorem dX0_at_14 : decode cX0_at 14 = .ok (.getfield 21, 3) := by decide +kernel
theorem dX0_at_17 : decode cX0_at 17 = .ok (.iload_n 1, 1) := by decide +kernel
theorem dX0_at_18 : decode cX0_at 18 = .ok (.iaload, 1) := by decide +kernel
theorem dX0_at_19 : decode cX0_at 19 = .ok (.if_icmp .lt 5, 3) := by decide +kernel
theorem dX0_at_22 : decode cX0_at 22 = .ok (.iconst (-1), 1) := by decide +kernel
theorem dX0_at_23 : decode cX0_at 23 = .ok (.ireturn, 1) := by decide +kernel
theorem dX0_at_24 : decode cX0_at 24 = .ok (.aload_n 0, 1) := by decide +kernel
theorem dX0_at_25 : decode cX0_at 25 = .ok (.getfield 27, 3) := by decide +kernel
theorem dX0_at_28 : decode cX0_at 28 = .ok (.iload_n 1, 1) := by decide +kernel
theorem dX0_at_29 : decode cX0_at 29 = .ok (.bipush 12, 2) := by decide +kernel
theorem dX0_at_31 : decode cX0_at 31 = .ok (.imul, 1) := by decide +kernel
theorem dX0_at_32 : decode cX0_at 32 = .ok (.iload_n 2, 1) := by decide +kernel
theorem dX0_at_33 : decode cX0_at 33 = .ok (.iadd, 1) := by decide +kernel
theorem dX0_at_34 : decode cX0_at 34 = .ok (.iaload, 1) := by decide +kernel
theorem dX0_at_35 : decode cX0_at 35 = .ok (.ireturn, 1) := by decide +kernel
theorem dX0_pupil_0 : decode cX0_pupil 0 = .ok (.aload_n 0, 1) := by decide +kernel
theorem dX0_pupil_1 : decode cX0_pupil 1 = .ok (.iload_n 1, 1) := by decide +kernel
theorem dX0_pupil_2 : decode cX0_pupil 2 = .ok (.invokevirtual 81, 3) := by decide +kernel
theorem dX0_pupil_5 : decode cX0_pupil 5 = .ok (.ifCond .eq 10, 3) := by decide +kernel
theorem dX0_pupil_8 : decode cX0_pupil 8 = .ok (.iload_n 2, 1) := by decide +kernel
theorem dX0_pupil_9 : decode cX0_pupil 9 = .ok (.invokestatic 87, 3) := by decide +kernel
theorem dX0_pupil_12 : decode cX0_pupil 12 = .ok (.ifCond .ne 5, 3) := by decide +kernel
theorem dX0_pupil_15 : decode cX0_pupil 15 = .ok (.iconst (-1), 1) := by decide +kernel
theorem dX0_pupil_16 : decode cX0_pupil 16 = .ok (.ireturn, 1) := by decide +kernel
theorem dX0_pupil_17 : decode cX0_pupil 17 = .ok (.aload_n 0, 1) := by decide +kernel
theorem dX0_pupil_18 : decode cX0_pupil 18 = .ok (.getfield 90, 3) := by decide +kernel
theorem dX0_pupil_21 : decode cX0_pupil 21 = .ok (.bipush 60, 2) := by decide +kernel
theorem dX0_pupil_23 : decode cX0_pupil 23 = .ok (.if_icmp .lt 6, 3) := by decide +kernel
theorem dX0_pupil_26 : decode cX0_pupil 26 = .ok (.bipush (-4), 2) := by decide +kernel
theorem dX0_pupil_28 : decode cX0_pupil 28 = .ok (.ireturn, 1) := by decide +kernel
theorem dX0_pupil_29 : decode cX0_pupil 29 = .ok (.aload_n 0, 1) := by decide +kernel
theorem dX0_pupil_30 : decode cX0_pupil 30 = .ok (.getfield 90, 3) := by decide +kernel
theorem dX0_pupil_33 : decode cX0_pupil 33 = .ok (.istore_n 3, 1) := by decide +kernel
theorem dX0_pupil_34 : decode cX0_pupil 34 = .ok (.aload_n 0, 1) := by decide +kernel
theorem dX0_pupil_35 : decode cX0_pupil 35 = .ok (.getfield 30, 3) := by decide +kernel
theorem dX0_pupil_38 : decode cX0_pupil 38 = .ok (.iload_n 3, 1) := by decide +kernel
theorem dX0_pupil_39 : decode cX0_pupil 39 = .ok (.iload_n 1, 1) := by decide +kernel
theorem dX0_pupil_40 : decode cX0_pupil 40 = .ok (.iastore, 1) := by decide +kernel
theorem dX0_pupil_41 : decode cX0_pupil 41 = .ok (.aload_n 0, 1) := by decide +kernel
theorem dX0_pupil_42 : decode cX0_pupil 42 = .ok (.getfield 33, 3) := by decide +kernel
theorem dX0_pupil_45 : decode cX0_pupil 45 = .ok (.iload_n 3, 1) := by decide +kernel
theorem dX0_pupil_46 : decode cX0_pupil 46 = .ok (.iload_n 2, 1) := by decide +kernel
theorem dX0_pupil_47 : decode cX0_pupil 47 = .ok (.iastore, 1) := by decide +kernel
theorem dX0_pupil_48 : decode cX0_pupil 48 = .ok (.aload_n 0, 1) := by decide +kernel
theorem dX0_pupil_49 : decode cX0_pupil 49 = .ok (.dup, 1) := by decide +kernel
theorem dX0_pupil_50 : decode cX0_pupil 50 = .ok (.getfield 90, 3) := by decide +kernel
theorem dX0_pupil_53 : decode cX0_pupil 53 = .ok (.iconst 1, 1) := by decide +kernel
theorem dX0_pupil_54 : decode cX0_pupil 54 = .ok (.iadd, 1) := by decide +kernel
theorem dX0_pupil_55 : decode cX0_pupil 55 = .ok (.putfield 90, 3) := by decide +kernel
theorem dX0_pupil_58 : decode cX0_pupil 58 = .ok (.iload_n 3, 1) := by decide +kernel
theorem dX0_pupil_59 : decode cX0_pupil 59 = .ok (.ireturn, 1) := by decide +kernel
theorem dX0_answer_0 : decode cX0_answer 0 = .ok (.aload_n 0, 1) := by decide +kernel
theorem dX0_answer_1 : decode cX0_answer 1 = .ok (.iload_n 1, 1) := by decide +kernel
theorem dX0_answer_2 : decode cX0_answer 2 = .ok (.iload_n 2, 1) := by decide +kernel
theorem dX0_answer_3 : decode cX0_answer 3 = .ok (.invokevirtual 93, 3) := by decide +kernel
theorem dX0_answer_6 : decode cX0_answer 6 = .ok (.istore 4, 2) := by decide +kernel
theorem dX0_answer_8 : decode cX0_answer 8 = .ok (.iload 4, 2) := by decide +kernel
theorem dX0_answer_10 : decode cX0_answer 10 = .ok (.iconst (-1), 1) := by decide +kernel
theorem dX0_answer_11 : decode cX0_answer 11 = .ok (.if_icmp .ne 5, 3) := by decide +kernel
theorem dX0_answer_14 : decode cX0_answer 14 = .ok (.iconst (-1), 1) := by decide +kernel
theorem dX0_answer_15 : decode cX0_answer 15 = .ok (.ireturn, 1) := by decide +kernel
theorem dX0_answer_16 : decode cX0_answer 16 = .ok (.aload_n 0, 1) := by decide +kernel
theorem dX0_answer_17 : decode cX0_answer 17 = .ok (.iload_n 2, 1) := by decide +kernel
theorem dX0_answer_18 : decode cX0_answer 18 = .ok (.iload_n 3, 1) := by decide +kernel
theorem dX0_answer_19 : decode cX0_answer 19 = .ok (.invokevirtual 97, 3) := by decide +kernel
theorem dX0_answer_22 : decode cX0_answer 22 = .ok (.ifCond .ne 6, 3) := by decide +kernel
theorem dX0_answer_25 : decode cX0_answer 25 = .ok (.bipush (-2), 2) := by decide +kernel
theorem dX0_answer_27 : decode cX0_answer 27 = .ok (.ireturn, 1) := by decide +kernel
theorem dX0_answer_28 : decode cX0_answer 28 = .ok (.aload_n 0, 1) := by decide +kernel
theorem dX0_answer_29 : decode cX0_answer 29 = .ok (.getfield 36, 3) := by decide +kernel
theorem dX0_answer_32 : decode cX0_answer 32 = .ok (.iload_n 1, 1) := by decide +kernel
theorem dX0_answer_33 : decode cX0_answer 33 = .ok (.bipush 12, 2) := by decide +kernel
theorem dX0_answer_35 : decode cX0_answer 35 = .ok (.imul, 1) := by decide +kernel
theorem dX0_answer_36 : decode cX0_answer 36 = .ok (.iload 4, 2) := by decide +kernel
theorem dX0_answer_38 : decode cX0_answer 38 = .ok (.iadd, 1) := by decide +kernel
theorem dX0_answer_39 : decode cX0_answer 39 = .ok (.iload_n 3, 1) := by decide +kernel
theorem dX0_answer_40 : decode cX0_answer 40 = .ok (.iastore, 1) := by decide +kernel
theorem dX0_answer_41 : decode cX0_answer 41 = .ok (.aload_n 0, 1) := by decide +kernel
theorem dX0_answer_42 : decode cX0_answer 42 = .ok (.iload_n 2, 1) := by decide +kernel
theorem dX0_answer_43 : decode cX0_answer 43 = .ok (.iload_n 3, 1) := by decide +kernel
theorem dX0_answer_44 : decode cX0_answer 44 = .ok (.invokevirtual 100, 3) := by decide +kernel
theorem dX0_answer_47 : decode cX0_answer 47 = .ok (.ireturn, 1) := by decide +kernel
theorem dX0_gap_0 : decode cX0_gap 0 = .ok (.aload_n 0, 1) := by decide +kernel
theorem dX0_gap_1 : decode cX0_gap 1 = .ok (.iload_n 1, 1) := by decide +kernel
theorem dX0_gap_2 : decode cX0_gap 2 = .ok (.iload_n 2, 1) := by decide +kernel
theorem dX0_gap_3 : decode cX0_gap 3 = .ok (.invokevirtual 93, 3) := by decide +kernel
theorem dX0_gap_6 : decode cX0_gap 6 = .ok (.istore_n 3, 1) := by decide +kernel
theorem dX0_gap_7 : decode cX0_gap 7 = .ok (.iload_n 3, 1) := by decide +kernel
theorem dX0_gap_8 : decode cX0_gap 8 = .ok (.iconst (-1), 1) := by decide +kernel
theorem dX0_gap_9 : decode cX0_gap 9 = .ok (.if_icmp .ne 5, 3) := by decide +kernel
theorem dX0_gap_12 : decode cX0_gap 12 = .ok (.iconst (-1), 1) := by decide +kernel
theorem dX0_gap_13 : decode cX0_gap 13 = .ok (.ireturn, 1) := by decide +kernel
theorem dX0_gap_14 : decode cX0_gap 14 = .ok (.aload_n 0, 1) := by decide +kernel
theorem dX0_gap_15 : decode cX0_gap 15 = .ok (.getfield 36, 3) := by decide +kernel
theorem dX0_gap_18 : decode cX0_gap 18 = .ok (.iload_n 1, 1) := by decide +kernel
theorem dX0_gap_19 : decode cX0_gap 19 = .ok (.bipush 12, 2) := by decide +kernel
theorem dX0_gap_21 : decode cX0_gap 21 = .ok (.imul, 1) := by decide +kernel
theorem dX0_gap_22 : decode cX0_gap 22 = .ok (.iload_n 3, 1) := by decide +kernel
theorem dX0_gap_23 : decode cX0_gap 23 = .ok (.iadd, 1) := by decide +kernel
theorem dX0_gap_24 : decode cX0_gap 24 = .ok (.iaload, 1) := by decide +kernel
theorem dX0_gap_25 : decode cX0_gap 25 = .ok (.istore 4, 2) := by decide +kernel
theorem dX0_gap_27 : decode cX0_gap 27 = .ok (.aload_n 0, 1) := by decide +kernel
theorem dX0_gap_28 : decode cX0_gap 28 = .ok (.getfield 36, 3) := by decide +kernel
theorem dX0_gap_31 : decode cX0_gap 31 = .ok (.iload_n 1, 1) := by decide +kernel
theorem dX0_gap_32 : decode cX0_gap 32 = .ok (.bipush 12, 2) := by decide +kernel
theorem dX0_gap_34 : decode cX0_gap 34 = .ok (.imul, 1) := by decide +kernel
theorem dX0_gap_35 : decode cX0_gap 35 = .ok (.iload_n 3, 1) := by decide +kernel
theorem dX0_gap_36 : decode cX0_gap 36 = .ok (.iadd, 1) := by decide +kernel
theorem dX0_gap_37 : decode cX0_gap 37 = .ok (.iconst (-1), 1) := by decide +kernel
theorem dX0_gap_38 : decode cX0_gap 38 = .ok (.iastore, 1) := by decide +kernel
theorem dX0_gap_39 : decode cX0_gap 39 = .ok (.iload 4, 2) := by decide +kernel
theorem dX0_gap_41 : decode cX0_gap 41 = .ok (.ireturn, 1) := by decide +kernel
theorem dX0_row_0 : decode cX0_row 0 = .ok (.aload_n 0, 1) := by decide +kernel
theorem dX0_row_1 : decode cX0_row 1 = .ok (.iload_n 1, 1) := by decide +kernel
theorem dX0_row_2 : decode cX0_row 2 = .ok (.invokevirtual 103, 3) := by decide +kernel
theorem dX0_row_5 : decode cX0_row 5 = .ok (.ifCond .ne 5, 3) := by decide +kernel
theorem dX0_row_8 : decode cX0_row 8 = .ok (.iconst (-1), 1) := by decide +kernel
theorem dX0_row_9 : decode cX0_row 9 = .ok (.ireturn, 1) := by decide +kernel
theorem dX0_row_10 : decode cX0_row 10 = .ok (.aload_n 0, 1) := by decide +kernel
theorem dX0_row_11 : decode cX0_row 11 = .ok (.getfield 30, 3) := by decide +kernel
theorem dX0_row_14 : decode cX0_row 14 = .ok (.iload_n 1, 1) := by decide +kernel
theorem dX0_row_15 : decode cX0_row 15 = .ok (.iaload, 1) := by decide +kernel
theorem dX0_row_16 : decode cX0_row 16 = .ok (.istore 4, 2) := by decide +kernel
theorem dX0_row_18 : decode cX0_row 18 = .ok (.bipush 8, 2) := by decide +kernel
theorem dX0_row_20 : decode cX0_row 20 = .ok (.aload_n 0, 1) := by decide +kernel
theorem dX0_row_21 : decode cX0_row 21 = .ok (.getfield 21, 3) := by decide +kernel
theorem dX0_row_24 : decode cX0_row 24 = .ok (.iload 4, 2) := by decide +kernel
theorem dX0_row_26 : decode cX0_row 26 = .ok (.iaload, 1) := by decide +kernel
theorem dX0_row_27 : decode cX0_row 27 = .ok (.invokestatic 106, 3) := by decide +kernel
theorem dX0_row_30 : decode cX0_row 30 = .ok (.istore 5, 2) := by decide +kernel
theorem dX0_row_32 : decode cX0_row 32 = .ok (.iconst 0, 1) := by decide +kernel
theorem dX0_row_33 : decode cX0_row 33 = .ok (.istore 6, 2) := by decide +kernel
theorem dX0_row_35 : decode cX0_row 35 = .ok (.iload 6, 2) := by decide +kernel
theorem dX0_row_37 : decode cX0_row 37 = .ok (.iload 5, 2) := by decide +kernel
theorem dX0_row_39 : decode cX0_row 39 = .ok (.if_icmp .ge 102, 3) := by decide +kernel
theorem dX0_row_42 : decode cX0_row 42 = .ok (.lload_n 2, 1) := by decide +kernel
theorem dX0_row_43 : decode cX0_row 43 = .ok (.bipush 8, 2) := by decide +kernel
theorem dX0_row_45 : decode cX0_row 45 = .ok (.bipush 7, 2) := by decide +kernel
theorem dX0_row_47 : decode cX0_row 47 = .ok (.iload 6, 2) := by decide +kernel
theorem dX0_row_49 : decode cX0_row 49 = .ok (.isub, 1) := by decide +kernel
theorem dX0_row_50 : decode cX0_row 50 = .ok (.imul, 1) := by decide +kernel
theorem dX0_row_51 : decode cX0_row 51 = .ok (.lushr, 1) := by decide +kernel
theorem dX0_row_52 : decode cX0_row 52 = .ok (.l2i, 1) := by decide +kernel
theorem dX0_row_53 : decode cX0_row 53 = .ok (.sipush 255, 3) := by decide +kernel
theorem dX0_row_56 : decode cX0_row 56 = .ok (.iand, 1) := by decide +kernel
theorem dX0_row_57 : decode cX0_row 57 = .ok (.istore 7, 2) := by decide +kernel
theorem dX0_row_59 : decode cX0_row 59 = .ok (.iload 7, 2) := by decide +kernel
theorem dX0_row_61 : decode cX0_row 61 = .ok (.sipush 255, 3) := by decide +kernel
theorem dX0_row_64 : decode cX0_row 64 = .ok (.if_icmp .ne 7, 3) := by decide +kernel
theorem dX0_row_67 : decode cX0_row 67 = .ok (.iconst 1, 1) := by decide +kernel
theorem dX0_row_68 : decode cX0_row 68 = .ok (.goto 4, 3) := by decide +kernel
theorem dX0_row_71 : decode cX0_row 71 = .ok (.iconst 0, 1) := by decide +kernel
theorem dX0_row_72 : decode cX0_row 72 = .ok (.istore 8, 2) := by decide +kernel
theorem dX0_row_74 : decode cX0_row 74 = .ok (.iload 7, 2) := by decide +kernel
theorem dX0_row_76 : decode cX0_row 76 = .ok (.sipush 254, 3) := by decide +kernel
theorem dX0_row_79 : decode cX0_row 79 = .ok (.if_icmp .eq 30, 3) := by decide +kernel
theorem dX0_row_82 : decode cX0_row 82 = .ok (.iload 8, 2) := by decide +kernel
theorem dX0_row_84 : decode cX0_row 84 = .ok (.ifCond .ne 28, 3) := by decide +kernel
theorem dX0_row_87 : decode cX0_row 87 = .ok (.aload_n 0, 1) := by decide +kernel
theorem dX0_row_88 : decode cX0_row 88 = .ok (.aload_n 0, 1) := by decide +kernel
theorem dX0_row_89 : decode cX0_row 89 = .ok (.getfield 27, 3) := by decide +kernel
theorem dX0_row_92 : decode cX0_row 92 = .ok (.iload 4, 2) := by decide +kernel
theorem dX0_row_94 : decode cX0_row 94 = .ok (.bipush 12, 2) := by decide +kernel
theorem dX0_row_96 : decode cX0_row 96 = .ok (.imul, 1) := by decide +kernel
theorem dX0_row_97 : decode cX0_row 97 = .ok (.iload 6, 2) := by decide +kernel
theorem dX0_row_99 : decode cX0_row 99 = .ok (.iadd, 1) := by decide +kernel
theorem dX0_row_100 : decode cX0_row 100 = .ok (.iaload, 1) := by decide +kernel
theorem dX0_row_101 : decode cX0_row 101 = .ok (.iload 7, 2) := by decide +kernel
theorem dX0_row_103 : decode cX0_row 103 = .ok (.invokevirtual 97, 3) := by decide +kernel
theorem dX0_row_106 : decode cX0_row 106 = .ok (.ifCond .ne 6, 3) := by decide +kernel
theorem dX0_row_109 : decode cX0_row 109 = .ok (.iload 6, 2) := by decide +kernel
theorem dX0_row_111 : decode cX0_row 111 = .ok (.ireturn, 1) := by decide +kernel
theorem dX0_row_112 : decode cX0_row 112 = .ok (.aload_n 0, 1) := by decide +kernel
theorem dX0_row_113 : decode cX0_row 113 = .ok (.getfield 36, 3) := by decide +kernel
theorem dX0_row_116 : decode cX0_row 116 = .ok (.iload_n 1, 1) := by decide +kernel
theorem dX0_row_117 : decode cX0_row 117 = .ok (.bipush 12, 2) := by decide +kernel
theorem dX0_row_119 : decode cX0_row 119 = .ok (.imul, 1) := by decide +kernel
theorem dX0_row_120 : decode cX0_row 120 = .ok (.iload 6, 2) := by decide +kernel
theorem dX0_row_122 : decode cX0_row 122 = .ok (.iadd, 1) := by decide +kernel
theorem dX0_row_123 : decode cX0_row 123 = .ok (.iload 8, 2) := by decide +kernel
theorem dX0_row_125 : decode cX0_row 125 = .ok (.ifCond .eq 7, 3) := by decide +kernel
theorem dX0_row_128 : decode cX0_row 128 = .ok (.iconst (-1), 1) := by decide +kernel
theorem dX0_row_129 : decode cX0_row 129 = .ok (.goto 5, 3) := by decide +kernel
theorem dX0_row_132 : decode cX0_row 132 = .ok (.iload 7, 2) := by decide +kernel
theorem dX0_row_134 : decode cX0_row 134 = .ok (.iastore, 1) := by decide +kernel
theorem dX0_row_135 : decode cX0_row 135 = .ok (.iinc 6 1, 3) := by decide +kernel
theorem dX0_row_138 : decode cX0_row 138 = .ok (.goto (-103), 3) := by decide +kernel
theorem dX0_row_141 : decode cX0_row 141 = .ok (.iload 5, 2) := by decide +kernel
theorem dX0_row_143 : decode cX0_row 143 = .ok (.ireturn, 1) := by decide +kernel
theorem dX0_mark_0 : decode cX0_mark 0 = .ok (.aload_n 0, 1) := by decide +kernel
theorem dX0_mark_1 : decode cX0_mark 1 = .ok (.iload_n 1, 1) := by decide +kernel
theorem dX0_mark_2 : decode cX0_mark 2 = .ok (.iload_n 2, 1) := by decide +kernel
theorem dX0_mark_3 : decode cX0_mark 3 = .ok (.invokevirtual 93, 3) := by decide +kernel
theorem dX0_mark_6 : decode cX0_mark 6 = .ok (.istore_n 3, 1) := by decide +kernel
theorem dX0_mark_7 : decode cX0_mark 7 = .ok (.iload_n 3, 1) := by decide +kernel
theorem dX0_mark_8 : decode cX0_mark 8 = .ok (.iconst (-1), 1) := by decide +kernel
theorem dX0_mark_9 : decode cX0_mark 9 = .ok (.if_icmp .ne 7, 3) := by decide +kernel
theorem dX0_mark_12 : decode cX0_mark 12 = .ok (.iconst (-1), 1) := by decide +kernel
theorem dX0_mark_13 : decode cX0_mark 13 = .ok (.goto 9, 3) := by decide +kernel
theorem dX0_mark_16 : decode cX0_mark 16 = .ok (.aload_n 0, 1) := by decide +kernel
theorem dX0_mark_17 : decode cX0_mark 17 = .ok (.iload_n 1, 1) := by decide +kernel
theorem dX0_mark_18 : decode cX0_mark 18 = .ok (.iload_n 3, 1) := by decide +kernel
theorem dX0_mark_19 : decode cX0_mark 19 = .ok (.invokevirtual 111, 3) := by decide +kernel
theorem dX0_mark_22 : decode cX0_mark 22 = .ok (.ireturn, 1) := by decide +kernel
theorem dX0_come_0 : decode cX0_come 0 = .ok (.aload_n 0, 1) := by decide +kernel
theorem dX0_come_1 : decode cX0_come 1 = .ok (.iload_n 1, 1) := by decide +kernel
theorem dX0_come_2 : decode cX0_come 2 = .ok (.iload_n 2, 1) := by decide +kernel
theorem dX0_come_3 : decode cX0_come 3 = .ok (.invokevirtual 93, 3) := by decide +kernel
theorem dX0_come_6 : decode cX0_come 6 = .ok (.istore_n 3, 1) := by decide +kernel
theorem dX0_come_7 : decode cX0_come 7 = .ok (.iload_n 3, 1) := by decide +kernel
theorem dX0_come_8 : decode cX0_come 8 = .ok (.iconst (-1), 1) := by decide +kernel
theorem dX0_come_9 : decode cX0_come 9 = .ok (.if_icmp .ne 5, 3) := by decide +kernel
theorem dX0_come_12 : decode cX0_come 12 = .ok (.iconst (-1), 1) := by decide +kernel
theorem dX0_come_13 : decode cX0_come 13 = .ok (.ireturn, 1) := by decide +kernel
theorem dX0_come_14 : decode cX0_come 14 = .ok (.aload_n 0, 1) := by decide +kernel
theorem dX0_come_15 : decode cX0_come 15 = .ok (.iload_n 1, 1) := by decide +kernel
theorem dX0_come_16 : decode cX0_come 16 = .ok (.iload_n 3, 1) := by decide +kernel
theorem dX0_come_17 : decode cX0_come 17 = .ok (.invokevirtual 114, 3) := by decide +kernel
theorem dX0_come_20 : decode cX0_come 20 = .ok (.ifCond .eq 7, 3) := by decide +kernel
theorem dX0_come_23 : decode cX0_come 23 = .ok (.iconst 1, 1) := by decide +kernel
theorem dX0_come_24 : decode cX0_come 24 = .ok (.goto 4, 3) := by decide +kernel
theorem dX0_come_27 : decode cX0_come 27 = .ok (.iconst 0, 1) := by decide +kernel
theorem dX0_come_28 : decode cX0_come 28 = .ok (.ireturn, 1) := by decide +kernel
theorem dX0_total_0 : decode cX0_total 0 = .ok (.aload_n 0, 1) := by decide +kernel
theorem dX0_total_1 : decode cX0_total 1 = .ok (.iload_n 1, 1) := by decide +kernel
theorem dX0_total_2 : decode cX0_total 2 = .ok (.invokevirtual 103, 3) := by decide +kernel
theorem dX0_total_5 : decode cX0_total 5 = .ok (.ifCond .eq 15, 3) := by decide +kernel
theorem dX0_total_8 : decode cX0_total 8 = .ok (.aload_n 0, 1) := by decide +kernel
theorem dX0_total_9 : decode cX0_total 9 = .ok (.iload_n 1, 1) := by decide +kernel
theorem dX0_total_10 : decode cX0_total 10 = .ok (.aload_n 0, 1) := by decide +kernel
theorem dX0_total_11 : decode cX0_total 11 = .ok (.invokevirtual 117, 3) := by decide +kernel
theorem dX0_total_14 : decode cX0_total 14 = .ok (.invokevirtual 121, 3) := by decide +kernel
theorem dX0_total_17 : decode cX0_total 17 = .ok (.goto 4, 3) := by decide +kernel
theorem dX0_total_20 : decode cX0_total 20 = .ok (.iconst (-1), 1) := by decide +kernel
theorem dX0_total_21 : decode cX0_total 21 = .ok (.ireturn, 1) := by decide +kernel
theorem dX0_easy_0 : decode cX0_easy 0 = .ok (.aload_n 0, 1) := by decide +kernel
theorem dX0_easy_1 : decode cX0_easy 1 = .ok (.iload_n 1, 1) := by decide +kernel
theorem dX0_easy_2 : decode cX0_easy 2 = .ok (.invokevirtual 68, 3) := by decide +kernel
theorem dX0_easy_5 : decode cX0_easy 5 = .ok (.ifCond .eq 10, 3) := by decide +kernel
theorem dX0_easy_8 : decode cX0_easy 8 = .ok (.iload_n 2, 1) := by decide +kernel
theorem dX0_easy_9 : decode cX0_easy 9 = .ok (.invokestatic 124, 3) := by decide +kernel
theorem dX0_easy_12 : decode cX0_easy 12 = .ok (.ifCond .ne 7, 3) := by decide +kernel
theorem dX0_easy_15 : decode cX0_easy 15 = .ok (.ldc2_w 127, 3) := by decide +kernel
theorem dX0_easy_18 : decode cX0_easy 18 = .ok (.lreturn, 1) := by decide +kernel
theorem dX0_easy_19 : decode cX0_easy 19 = .ok (.lconst 0, 1) := by decide +kernel
theorem dX0_easy_20 : decode cX0_easy 20 = .ok (.lstore_n 3, 1) := by decide +kernel
theorem dX0_easy_21 : decode cX0_easy 21 = .ok (.lconst 0, 1) := by decide +kernel
theorem dX0_easy_22 : decode cX0_easy 22 = .ok (.lstore 5, 2) := by decide +kernel
theorem dX0_easy_24 : decode cX0_easy 24 = .ok (.iconst 0, 1) := by decide +kernel
theorem dX0_easy_25 : decode cX0_easy 25 = .ok (.istore 7, 2) := by decide +kernel
theorem dX0_easy_27 : decode cX0_easy 27 = .ok (.iload 7, 2) := by decide +kernel
theorem dX0_easy_29 : decode cX0_easy 29 = .ok (.aload_n 0, 1) := by decide +kernel
theorem dX0_easy_30 : decode cX0_easy 30 = .ok (.getfield 90, 3) := by decide +kernel
theorem dX0_easy_33 : decode cX0_easy 33 = .ok (.if_icmp .ge 42, 3) := by decide +kernel
theorem dX0_easy_36 : decode cX0_easy 36 = .ok (.aload_n 0, 1) := by decide +kernel
theorem dX0_easy_37 : decode cX0_easy 37 = .ok (.iload 7, 2) := by decide +kernel
theorem dX0_easy_39 : decode cX0_easy 39 = .ok (.iload_n 1, 1) := by decide +kernel
theorem dX0_easy_40 : decode cX0_easy 40 = .ok (.invokevirtual 129, 3) := by decide +kernel
theorem dX0_easy_43 : decode cX0_easy 43 = .ok (.istore 8, 2) := by decide +kernel
theorem dX0_easy_45 : decode cX0_easy 45 = .ok (.iload 8, 2) := by decide +kernel
theorem dX0_easy_47 : decode cX0_easy 47 = .ok (.iconst (-1), 1) := by decide +kernel
theorem dX0_easy_48 : decode cX0_easy 48 = .ok (.if_icmp .eq 21, 3) := by decide +kernel
theorem dX0_easy_51 : decode cX0_easy 51 = .ok (.lload_n 3, 1) := by decide +kernel
theorem dX0_easy_52 : decode cX0_easy 52 = .ok (.lconst 1, 1) := by decide +kernel
theorem dX0_easy_53 : decode cX0_easy 53 = .ok (.ladd, 1) := by decide +kernel
theorem dX0_easy_54 : decode cX0_easy 54 = .ok (.lstore_n 3, 1) := by decide +kernel
theorem dX0_easy_55 : decode cX0_easy 55 = .ok (.lload 5, 2) := by decide +kernel
theorem dX0_easy_57 : decode cX0_easy 57 = .ok (.aload_n 0, 1) := by decide +kernel
theorem dX0_easy_58 : decode cX0_easy 58 = .ok (.iload 7, 2) := by decide +kernel
theorem dX0_easy_60 : decode cX0_easy 60 = .ok (.iload 8, 2) := by decide +kernel
theorem dX0_easy_62 : decode cX0_easy 62 = .ok (.invokevirtual 111, 3) := by decide +kernel
theorem dX0_easy_65 : decode cX0_easy 65 = .ok (.i2l, 1) := by decide +kernel
theorem dX0_easy_66 : decode cX0_easy 66 = .ok (.ladd, 1) := by decide +kernel
theorem dX0_easy_67 : decode cX0_easy 67 = .ok (.lstore 5, 2) := by decide +kernel
theorem dX0_easy_69 : decode cX0_easy 69 = .ok (.iinc 7 1, 3) := by decide +kernel
theorem dX0_easy_72 : decode cX0_easy 72 = .ok (.goto (-45), 3) := by decide +kernel
theorem dX0_easy_75 : decode cX0_easy 75 = .ok (.lload_n 3, 1) := by decide +kernel
theorem dX0_easy_76 : decode cX0_easy 76 = .ok (.lconst 0, 1) := by decide +kernel
theorem dX0_easy_77 : decode cX0_easy 77 = .ok (.lcmp, 1) := by decide +kernel
theorem dX0_easy_78 : decode cX0_easy 78 = .ok (.ifCond .ne 12, 3) := by decide +kernel
theorem dX0_easy_81 : decode cX0_easy 81 = .ok (.lconst 0, 1) := by decide +kernel
theorem dX0_easy_82 : decode cX0_easy 82 = .ok (.lconst 1, 1) := by decide +kernel
theorem dX0_easy_83 : decode cX0_easy 83 = .ok (.iload_n 2, 1) := by decide +kernel
theorem dX0_easy_84 : decode cX0_easy 84 = .ok (.invokestatic 132, 3) := by decide +kernel
theorem dX0_easy_87 : decode cX0_easy 87 = .ok (.goto 18, 3) := by decide +kernel
theorem dX0_easy_90 : decode cX0_easy 90 = .ok (.lload 5, 2) := by decide +kernel
theorem dX0_easy_92 : decode cX0_easy 92 = .ok (.aload_n 0, 1) := by decide +kernel
theorem dX0_easy_93 : decode cX0_easy 93 = .ok (.getfield 15, 3) := by decide +kernel
theorem dX0_easy_96 : decode cX0_easy 96 = .ok (.iload_n 1, 1) := by decide +kernel
theorem dX0_easy_97 : decode cX0_easy 97 = .ok (.iaload, 1) := by decide +kernel
theorem dX0_easy_98 : decode cX0_easy 98 = .ok (.i2l, 1) := by decide +kernel
theorem dX0_easy_99 : decode cX0_easy 99 = .ok (.lload_n 3, 1) := by decide +kernel
theorem dX0_easy_100 : decode cX0_easy 100 = .ok (.lmul, 1) := by decide +kernel
theorem dX0_easy_101 : decode cX0_easy 101 = .ok (.iload_n 2, 1) := by decide +kernel
theorem dX0_easy_102 : decode cX0_easy 102 = .ok (.invokestatic 132, 3) := by decide +kernel
theorem dX0_easy_105 : decode cX0_easy 105 = .ok (.lreturn, 1) := by decide +kernel
theorem dX0_sharp_0 : decode cX0_sharp 0 = .ok (.aload_n 0, 1) := by decide +kernel
theorem dX0_sharp_1 : decode cX0_sharp 1 = .ok (.iload_n 1, 1) := by decide +kernel
theorem dX0_sharp_2 : decode cX0_sharp 2 = .ok (.invokevirtual 68, 3) := by decide +kernel
theorem dX0_sharp_5 : decode cX0_sharp 5 = .ok (.ifCond .ne 7, 3) := by decide +kernel
theorem dX0_sharp_8 : decode cX0_sharp 8 = .ok (.ldc2_w 127, 3) := by decide +kernel
theorem dX0_sharp_11 : decode cX0_sharp 11 = .ok (.lreturn, 1) := by decide +kernel
theorem dX0_sharp_12 : decode cX0_sharp 12 = .ok (.aload_n 0, 1) := by decide +kernel
theorem dX0_sharp_13 : decode cX0_sharp 13 = .ok (.invokevirtual 117, 3) := by decide +kernel
theorem dX0_sharp_16 : decode cX0_sharp 16 = .ok (.iconst 1, 1) := by decide +kernel
theorem dX0_sharp_17 : decode cX0_sharp 17 = .ok (.iload_n 1, 1) := by decide +kernel
theorem dX0_sharp_18 : decode cX0_sharp 18 = .ok (.ishl, 1) := by decide +kernel
theorem dX0_sharp_19 : decode cX0_sharp 19 = .ok (.iconst (-1), 1) := by decide +kernel
theorem dX0_sharp_20 : decode cX0_sharp 20 = .ok (.ixor, 1) := by decide +kernel
theorem dX0_sharp_21 : decode cX0_sharp 21 = .ok (.iand, 1) := by decide +kernel
theorem dX0_sharp_22 : decode cX0_sharp 22 = .ok (.istore_n 2, 1) := by decide +kernel
theorem dX0_sharp_23 : decode cX0_sharp 23 = .ok (.lconst 0, 1) := by decide +kernel
theorem dX0_sharp_24 : decode cX0_sharp 24 = .ok (.lstore_n 3, 1) := by decide +kernel
theorem dX0_sharp_25 : decode cX0_sharp 25 = .ok (.lconst 0, 1) := by decide +kernel
theorem dX0_sharp_26 : decode cX0_sharp 26 = .ok (.lstore 5, 2) := by decide +kernel
theorem dX0_sharp_28 : decode cX0_sharp 28 = .ok (.lconst 0, 1) := by decide +kernel
theorem dX0_sharp_29 : decode cX0_sharp 29 = .ok (.lstore 7, 2) := by decide +kernel
theorem dX0_sharp_31 : decode cX0_sharp 31 = .ok (.lconst 0, 1) := by decide +kernel
theorem dX0_sharp_32 : decode cX0_sharp 32 = .ok (.lstore 9, 2) := by decide +kernel
theorem dX0_sharp_34 : decode cX0_sharp 34 = .ok (.iconst 0, 1) := by decide +kernel
theorem dX0_sharp_35 : decode cX0_sharp 35 = .ok (.istore 11, 2) := by decide +kernel
theorem dX0_sharp_37 : decode cX0_sharp 37 = .ok (.iload 11, 2) := by decide +kernel
theorem dX0_sharp_39 : decode cX0_sharp 39 = .ok (.aload_n 0, 1) := by decide +kernel
theorem dX0_sharp_40 : decode cX0_sharp 40 = .ok (.getfield 90, 3) := by decide +kernel
theorem dX0_sharp_43 : decode cX0_sharp 43 = .ok (.if_icmp .ge 73, 3) := by decide +kernel
theorem dX0_sharp_46 : decode cX0_sharp 46 = .ok (.aload_n 0, 1) := by decide +kernel
theorem dX0_sharp_47 : decode cX0_sharp 47 = .ok (.iload 11, 2) := by decide +kernel
theorem dX0_sharp_49 : decode cX0_sharp 49 = .ok (.iload_n 1, 1) := by decide +kernel
theorem dX0_sharp_50 : decode cX0_sharp 50 = .ok (.invokevirtual 129, 3) := by decide +kernel
theorem dX0_sharp_53 : decode cX0_sharp 53 = .ok (.istore 12, 2) := by decide +kernel
theorem dX0_sharp_55 : decode cX0_sharp 55 = .ok (.iload 12, 2) := by decide +kernel
theorem dX0_sharp_57 : decode cX0_sharp 57 = .ok (.iconst (-1), 1) := by decide +kernel
theorem dX0_sharp_58 : decode cX0_sharp 58 = .ok (.if_icmp .eq 52, 3) := by decide +kernel
theorem dX0_sharp_61 : decode cX0_sharp 61 = .ok (.aload_n 0, 1) := by decide +kernel
theorem dX0_sharp_62 : decode cX0_sharp 62 = .ok (.iload 11, 2) := by decide +kernel
theorem dX0_sharp_64 : decode cX0_sharp 64 = .ok (.iload 12, 2) := by decide +kernel
theorem dX0_sharp_66 : decode cX0_sharp 66 = .ok (.invokevirtual 111, 3) := by decide +kernel
theorem dX0_sharp_69 : decode cX0_sharp 69 = .ok (.i2l, 1) := by decide +kernel
theorem dX0_sharp_70 : decode cX0_sharp 70 = .ok (.lstore 13, 2) := by decide +kernel
theorem dX0_sharp_72 : decode cX0_sharp 72 = .ok (.aload_n 0, 1) := by decide +kernel
theorem dX0_sharp_73 : decode cX0_sharp 73 = .ok (.iload 11, 2) := by decide +kernel
theorem dX0_sharp_75 : decode cX0_sharp 75 = .ok (.iload_n 2, 1) := by decide +kernel
theorem dX0_sharp_76 : decode cX0_sharp 76 = .ok (.invokevirtual 121, 3) := by decide +kernel
theorem dX0_sharp_79 : decode cX0_sharp 79 = .ok (.i2l, 1) := by decide +kernel
theorem dX0_sharp_80 : decode cX0_sharp 80 = .ok (.lstore 15, 2) := by decide +kernel
theorem dX0_sharp_82 : decode cX0_sharp 82 = .ok (.lload_n 3, 1) := by decide +kernel
theorem dX0_sharp_83 : decode cX0_sharp 83 = .ok (.lconst 1, 1) := by decide +kernel
theorem dX0_sharp_84 : decode cX0_sharp 84 = .ok (.ladd, 1) := by decide +kernel
theorem dX0_sharp_85 : decode cX0_sharp 85 = .ok (.lstore_n 3, 1) := by decide +kernel
theorem dX0_sharp_86 : decode cX0_sharp 86 = .ok (.lload 5, 2) := by decide +kernel
theorem dX0_sharp_88 : decode cX0_sharp 88 = .ok (.lload 13, 2) := by decide +kernel
theorem dX0_sharp_90 : decode cX0_sharp 90 = .ok (.ladd, 1) := by decide +kernel
theorem dX0_sharp_91 : decode cX0_sharp 91 = .ok (.lstore 5, 2) := by decide +kernel
theorem dX0_sharp_93 : decode cX0_sharp 93 = .ok (.lload 7, 2) := by decide +kernel
theorem dX0_sharp_95 : decode cX0_sharp 95 = .ok (.lload 15, 2) := by decide +kernel
theorem dX0_sharp_97 : decode cX0_sharp 97 = .ok (.ladd, 1) := by decide +kernel
theorem dX0_sharp_98 : decode cX0_sharp 98 = .ok (.lstore 7, 2) := by decide +kernel
theorem dX0_sharp_100 : decode cX0_sharp 100 = .ok (.lload 9, 2) := by decide +kernel
theorem dX0_sharp_102 : decode cX0_sharp 102 = .ok (.lload 13, 2) := by decide +kernel
theorem dX0_sharp_104 : decode cX0_sharp 104 = .ok (.lload 15, 2) := by decide +kernel
theorem dX0_sharp_106 : decode cX0_sharp 106 = .ok (.lmul, 1) := by decide +kernel
theorem dX0_sharp_107 : decode cX0_sharp 107 = .ok (.ladd, 1) := by decide +kernel
theorem dX0_sharp_108 : decode cX0_sharp 108 = .ok (.lstore 9, 2) := by decide +kernel
theorem dX0_sharp_110 : decode cX0_sharp 110 = .ok (.iinc 11 1, 3) := by decide +kernel
theorem dX0_sharp_113 : decode cX0_sharp 113 = .ok (.goto (-76), 3) := by decide +kernel
theorem dX0_sharp_116 : decode cX0_sharp 116 = .ok (.lload_n 3, 1) := by decide +kernel
theorem dX0_sharp_117 : decode cX0_sharp 117 = .ok (.lload 9, 2) := by decide +kernel
theorem dX0_sharp_119 : decode cX0_sharp 119 = .ok (.lmul, 1) := by decide +kernel
theorem dX0_sharp_120 : decode cX0_sharp 120 = .ok (.lload 5, 2) := by decide +kernel
theorem dX0_sharp_122 : decode cX0_sharp 122 = .ok (.lload 7, 2) := by decide +kernel
theorem dX0_sharp_124 : decode cX0_sharp 124 = .ok (.lmul, 1) := by decide +kernel
theorem dX0_sharp_125 : decode cX0_sharp 125 = .ok (.lsub, 1) := by decide +kernel
theorem dX0_sharp_126 : decode cX0_sharp 126 = .ok (.lreturn, 1) := by decide +kernel
theorem dX0_leaky_0 : decode cX0_leaky 0 = .ok (.aload_n 0, 1) := by decide +kernel
theorem dX0_leaky_1 : decode cX0_leaky 1 = .ok (.iload_n 1, 1) := by decide +kernel
theorem dX0_leaky_2 : decode cX0_leaky 2 = .ok (.invokevirtual 68, 3) := by decide +kernel
theorem dX0_leaky_5 : decode cX0_leaky 5 = .ok (.ifCond .eq 10, 3) := by decide +kernel
theorem dX0_leaky_8 : decode cX0_leaky 8 = .ok (.iload_n 2, 1) := by decide +kernel
theorem dX0_leaky_9 : decode cX0_leaky 9 = .ok (.invokestatic 87, 3) := by decide +kernel
theorem dX0_leaky_12 : decode cX0_leaky 12 = .ok (.ifCond .ne 5, 3) := by decide +kernel
theorem dX0_leaky_15 : decode cX0_leaky 15 = .ok (.iconst (-1), 1) := by decide +kernel
theorem dX0_leaky_16 : decode cX0_leaky 16 = .ok (.ireturn, 1) := by decide +kernel
theorem dX0_leaky_17 : decode cX0_leaky 17 = .ok (.iload_n 3, 1) := by decide +kernel
theorem dX0_leaky_18 : decode cX0_leaky 18 = .ok (.invokestatic 136, 3) := by decide +kernel
theorem dX0_leaky_21 : decode cX0_leaky 21 = .ok (.ifCond .ne 6, 3) := by decide +kernel
theorem dX0_leaky_24 : decode cX0_leaky 24 = .ok (.bipush (-2), 2) := by decide +kernel
theorem dX0_leaky_26 : decode cX0_leaky 26 = .ok (.ireturn, 1) := by decide +kernel
theorem dX0_leaky_27 : decode cX0_leaky 27 = .ok (.aload_n 0, 1) := by decide +kernel
theorem dX0_leaky_28 : decode cX0_leaky 28 = .ok (.iload_n 1, 1) := by decide +kernel
theorem dX0_leaky_29 : decode cX0_leaky 29 = .ok (.invokevirtual 139, 3) := by decide +kernel
theorem dX0_leaky_32 : decode cX0_leaky 32 = .ok (.aload_n 0, 1) := by decide +kernel
theorem dX0_leaky_33 : decode cX0_leaky 33 = .ok (.iload_n 2, 1) := by decide +kernel
theorem dX0_leaky_34 : decode cX0_leaky 34 = .ok (.iload_n 3, 1) := by decide +kernel
theorem dX0_leaky_35 : decode cX0_leaky 35 = .ok (.invokevirtual 143, 3) := by decide +kernel
theorem dX0_leaky_38 : decode cX0_leaky 38 = .ok (.ifCond .eq 7, 3) := by decide +kernel
theorem dX0_leaky_41 : decode cX0_leaky 41 = .ok (.iconst 1, 1) := by decide +kernel
theorem dX0_leaky_42 : decode cX0_leaky 42 = .ok (.goto 4, 3) := by decide +kernel
theorem dX0_leaky_45 : decode cX0_leaky 45 = .ok (.iconst 0, 1) := by decide +kernel
theorem dX0_leaky_46 : decode cX0_leaky 46 = .ok (.ireturn, 1) := by decide +kernel
theorem dX0_leak_0 : decode cX0_leak 0 = .ok (.iload_n 2, 1) := by decide +kernel
theorem dX0_leak_1 : decode cX0_leak 1 = .ok (.ifCond .ge 5, 3) := by decide +kernel
theorem dX0_leak_4 : decode cX0_leak 4 = .ok (.iconst (-1), 1) := by decide +kernel
theorem dX0_leak_5 : decode cX0_leak 5 = .ok (.ireturn, 1) := by decide +kernel
theorem dX0_leak_6 : decode cX0_leak 6 = .ok (.iload_n 1, 1) := by decide +kernel
theorem dX0_leak_7 : decode cX0_leak 7 = .ok (.invokestatic 136, 3) := by decide +kernel
theorem dX0_leak_10 : decode cX0_leak 10 = .ok (.ifCond .ne 6, 3) := by decide +kernel
theorem dX0_leak_13 : decode cX0_leak 13 = .ok (.bipush (-2), 2) := by decide +kernel
theorem dX0_leak_15 : decode cX0_leak 15 = .ok (.ireturn, 1) := by decide +kernel
theorem dX0_leak_16 : decode cX0_leak 16 = .ok (.iconst 0, 1) := by decide +kernel
theorem dX0_leak_17 : decode cX0_leak 17 = .ok (.istore_n 3, 1) := by decide +kernel
theorem dX0_leak_18 : decode cX0_leak 18 = .ok (.iconst 0, 1) := by decide +kernel
theorem dX0_leak_19 : decode cX0_leak 19 = .ok (.istore 4, 2) := by decide +kernel
theorem dX0_leak_21 : decode cX0_leak 21 = .ok (.iload 4, 2) := by decide +kernel
theorem dX0_leak_23 : decode cX0_leak 23 = .ok (.aload_n 0, 1) := by decide +kernel
theorem dX0_leak_24 : decode cX0_leak 24 = .ok (.getfield 61, 3) := by decide +kernel
theorem dX0_leak_27 : decode cX0_leak 27 = .ok (.if_icmp .ge 56, 3) := by decide +kernel
theorem dX0_leak_30 : decode cX0_leak 30 = .ok (.aload_n 0, 1) := by decide +kernel
theorem dX0_leak_31 : decode cX0_leak 31 = .ok (.iload 4, 2) := by decide +kernel
theorem dX0_leak_33 : decode cX0_leak 33 = .ok (.invokevirtual 139, 3) := by decide +kernel
theorem dX0_leak_36 : decode cX0_leak 36 = .ok (.iconst 0, 1) := by decide +kernel
theorem dX0_leak_37 : decode cX0_leak 37 = .ok (.istore 5, 2) := by decide +kernel
theorem dX0_leak_39 : decode cX0_leak 39 = .ok (.iload 5, 2) := by decide +kernel
theorem dX0_leak_41 : decode cX0_leak 41 = .ok (.iconst 4, 1) := by decide +kernel
theorem dX0_leak_42 : decode cX0_leak 42 = .ok (.if_icmp .ge 35, 3) := by decide +kernel
theorem dX0_leak_45 : decode cX0_leak 45 = .ok (.aload_n 0, 1) := by decide +kernel
theorem dX0_leak_46 : decode cX0_leak 46 = .ok (.iload 5, 2) := by decide +kernel
theorem dX0_leak_48 : decode cX0_leak 48 = .ok (.iload_n 1, 1) := by decide +kernel
theorem dX0_leak_49 : decode cX0_leak 49 = .ok (.invokevirtual 143, 3) := by decide +kernel
theorem dX0_leak_52 : decode cX0_leak 52 = .ok (.ifCond .eq 19, 3) := by decide +kernel
theorem dX0_leak_55 : decode cX0_leak 55 = .ok (.iload_n 3, 1) := by decide +kernel
theorem dX0_leak_56 : decode cX0_leak 56 = .ok (.iload_n 2, 1) := by decide +kernel
theorem dX0_leak_57 : decode cX0_leak 57 = .ok (.if_icmp .ne 11, 3) := by decide +kernel
theorem dX0_leak_60 : decode cX0_leak 60 = .ok (.iconst 4, 1) := by decide +kernel
theorem dX0_leak_61 : decode cX0_leak 61 = .ok (.iload 4, 2) := by decide +kernel
theorem dX0_leak_63 : decode cX0_leak 63 = .ok (.imul, 1) := by decide +kernel
theorem dX0_leak_64 : decode cX0_leak 64 = .ok (.iload 5, 2) := by decide +kernel
theorem dX0_leak_66 : decode cX0_leak 66 = .ok (.iadd, 1) := by decide +kernel
theorem dX0_leak_67 : decode cX0_leak 67 = .ok (.ireturn, 1) := by decide +kernel
theorem dX0_leak_68 : decode cX0_leak 68 = .ok (.iinc 3 1, 3) := by decide +kernel
theorem dX0_leak_71 : decode cX0_leak 71 = .ok (.iinc 5 1, 3) := by decide +kernel
theorem dX0_leak_74 : decode cX0_leak 74 = .ok (.goto (-35), 3) := by decide +kernel
theorem dX0_leak_77 : decode cX0_leak 77 = .ok (.iinc 4 1, 3) := by decide +kernel
theorem dX0_leak_80 : decode cX0_leak 80 = .ok (.goto (-59), 3) := by decide +kernel
theorem dX0_leak_83 : decode cX0_leak 83 = .ok (.iconst (-1), 1) := by decide +kernel
theorem dX0_leak_84 : decode cX0_leak 84 = .ok (.ireturn, 1) := by decide +kernel
theorem dX0_shared_0 : decode cX0_shared 0 = .ok (.aload_n 0, 1) := by decide +kernel
theorem dX0_shared_1 : decode cX0_shared 1 = .ok (.iload_n 1, 1) := by decide +kernel
theorem dX0_shared_2 : decode cX0_shared 2 = .ok (.invokevirtual 81, 3) := by decide +kernel
theorem dX0_shared_5 : decode cX0_shared 5 = .ok (.ifCond .eq 11, 3) := by decide +kernel
theorem dX0_shared_8 : decode cX0_shared 8 = .ok (.aload_n 0, 1) := by decide +kernel
theorem dX0_shared_9 : decode cX0_shared 9 = .ok (.iload_n 2, 1) := by decide +kernel
theorem dX0_shared_10 : decode cX0_shared 10 = .ok (.invokevirtual 81, 3) := by decide +kernel
theorem dX0_shared_13 : decode cX0_shared 13 = .ok (.ifCond .ne 5, 3) := by decide +kernel
theorem dX0_shared_16 : decode cX0_shared 16 = .ok (.iconst (-1), 1) := by decide +kernel
theorem dX0_shared_17 : decode cX0_shared 17 = .ok (.ireturn, 1) := by decide +kernel
theorem dX0_shared_18 : decode cX0_shared 18 = .ok (.iload_n 1, 1) := by decide +kernel
theorem dX0_shared_19 : decode cX0_shared 19 = .ok (.iload_n 2, 1) := by decide +kernel
theorem dX0_shared_20 : decode cX0_shared 20 = .ok (.if_icmp .ne 8, 3) := by decide +kernel
theorem dX0_shared_23 : decode cX0_shared 23 = .ok (.bipush (-2), 2) := by decide +kernel
theorem dX0_shared_25 : decode cX0_shared 25 = .ok (.goto 12, 3) := by decide +kernel
theorem dX0_shared_28 : decode cX0_shared 28 = .ok (.aload_n 0, 1) := by decide +kernel
theorem dX0_shared_29 : decode cX0_shared 29 = .ok (.iload_n 1, 1) := by decide +kernel
theorem dX0_shared_30 : decode cX0_shared 30 = .ok (.iload_n 2, 1) := by decide +kernel
theorem dX0_shared_31 : decode cX0_shared 31 = .ok (.invokevirtual 146, 3) := by decide +kernel
theorem dX0_shared_34 : decode cX0_shared 34 = .ok (.invokestatic 149, 3) := by decide +kernel
theorem dX0_shared_37 : decode cX0_shared 37 = .ok (.ireturn, 1) := by decide +kernel
theorem dX0_sum_0 : decode cX0_sum 0 = .ok (.aload_n 0, 1) := by decide +kernel
theorem dX0_sum_1 : decode cX0_sum 1 = .ok (.iload_n 1, 1) := by decide +kernel
theorem dX0_sum_2 : decode cX0_sum 2 = .ok (.invokevirtual 103, 3) := by decide +kernel
theorem dX0_sum_5 : decode cX0_sum 5 = .ok (.ifCond .eq 11, 3) := by decide +kernel
theorem dX0_sum_8 : decode cX0_sum 8 = .ok (.aload_n 0, 1) := by decide +kernel
theorem dX0_sum_9 : decode cX0_sum 9 = .ok (.iload_n 2, 1) := by decide +kernel
theorem dX0_sum_10 : decode cX0_sum 10 = .ok (.invokevirtual 81, 3) := by decide +kernel
theorem dX0_sum_13 : decode cX0_sum 13 = .ok (.ifCond .ne 5, 3) := by decide +kernel
theorem dX0_sum_16 : decode cX0_sum 16 = .ok (.iconst (-1), 1) := by decide +kernel
theorem dX0_sum_17 : decode cX0_sum 17 = .ok (.ireturn, 1) := by decide +kernel
theorem dX0_sum_18 : decode cX0_sum 18 = .ok (.aload_n 0, 1) := by decide +kernel
theorem dX0_sum_19 : decode cX0_sum 19 = .ok (.getfield 30, 3) := by decide +kernel
theorem dX0_sum_22 : decode cX0_sum 22 = .ok (.iload_n 1, 1) := by decide +kernel
theorem dX0_sum_23 : decode cX0_sum 23 = .ok (.iaload, 1) := by decide +kernel
theorem dX0_sum_24 : decode cX0_sum 24 = .ok (.istore_n 3, 1) := by decide +kernel
theorem dX0_sum_25 : decode cX0_sum 25 = .ok (.iload_n 3, 1) := by decide +kernel
theorem dX0_sum_26 : decode cX0_sum 26 = .ok (.iload_n 2, 1) := by decide +kernel
theorem dX0_sum_27 : decode cX0_sum 27 = .ok (.if_icmp .ne 8, 3) := by decide +kernel
theorem dX0_sum_30 : decode cX0_sum 30 = .ok (.bipush (-2), 2) := by decide +kernel
theorem dX0_sum_32 : decode cX0_sum 32 = .ok (.goto 14, 3) := by decide +kernel
theorem dX0_sum_35 : decode cX0_sum 35 = .ok (.aload_n 0, 1) := by decide +kernel
theorem dX0_sum_36 : decode cX0_sum 36 = .ok (.iload_n 1, 1) := by decide +kernel
theorem dX0_sum_37 : decode cX0_sum 37 = .ok (.aload_n 0, 1) := by decide +kernel
theorem dX0_sum_38 : decode cX0_sum 38 = .ok (.iload_n 3, 1) := by decide +kernel
theorem dX0_sum_39 : decode cX0_sum 39 = .ok (.iload_n 2, 1) := by decide +kernel
theorem dX0_sum_40 : decode cX0_sum 40 = .ok (.invokevirtual 146, 3) := by decide +kernel
theorem dX0_sum_43 : decode cX0_sum 43 = .ok (.invokevirtual 121, 3) := by decide +kernel
theorem dX0_sum_46 : decode cX0_sum 46 = .ok (.ireturn, 1) := by decide +kernel
theorem dX0_group_0 : decode cX0_group 0 = .ok (.aload_n 0, 1) := by decide +kernel
theorem dX0_group_1 : decode cX0_group 1 = .ok (.iload_n 1, 1) := by decide +kernel
theorem dX0_group_2 : decode cX0_group 2 = .ok (.invokevirtual 81, 3) := by decide +kernel
theorem dX0_group_5 : decode cX0_group 5 = .ok (.ifCond .eq 11, 3) := by decide +kernel
theorem dX0_group_8 : decode cX0_group 8 = .ok (.aload_n 0, 1) := by decide +kernel
theorem dX0_group_9 : decode cX0_group 9 = .ok (.iload_n 2, 1) := by decide +kernel
theorem dX0_group_10 : decode cX0_group 10 = .ok (.invokevirtual 81, 3) := by decide +kernel
theorem dX0_group_13 : decode cX0_group 13 = .ok (.ifCond .ne 7, 3) := by decide +kernel
theorem dX0_group_16 : decode cX0_group 16 = .ok (.ldc2_w 127, 3) := by decide +kernel
theorem dX0_group_19 : decode cX0_group 19 = .ok (.lreturn, 1) := by decide +kernel
theorem dX0_group_20 : decode cX0_group 20 = .ok (.aload_n 0, 1) := by decide +kernel
theorem dX0_group_21 : decode cX0_group 21 = .ok (.iload_n 1, 1) := by decide +kernel
theorem dX0_group_22 : decode cX0_group 22 = .ok (.aload_n 0, 1) := by decide +kernel
theorem dX0_group_23 : decode cX0_group 23 = .ok (.iload_n 1, 1) := by decide +kernel
theorem dX0_group_24 : decode cX0_group 24 = .ok (.iload_n 2, 1) := by decide +kernel
theorem dX0_group_25 : decode cX0_group 25 = .ok (.invokevirtual 146, 3) := by decide +kernel
theorem dX0_group_28 : decode cX0_group 28 = .ok (.invokevirtual 155, 3) := by decide +kernel
theorem dX0_group_31 : decode cX0_group 31 = .ok (.istore 4, 2) := by decide +kernel
theorem dX0_group_33 : decode cX0_group 33 = .ok (.iload_n 3, 1) := by decide +kernel
theorem dX0_group_34 : decode cX0_group 34 = .ok (.tableswitch 44 0 2 #[26, 30, 37], 26) := by decide +kernel
theorem dX0_group_60 : decode cX0_group 60 = .ok (.iload 4, 2) := by decide +kernel
theorem dX0_group_62 : decode cX0_group 62 = .ok (.i2l, 1) := by decide +kernel
theorem dX0_group_63 : decode cX0_group 63 = .ok (.lreturn, 1) := by decide +kernel
theorem dX0_group_64 : decode cX0_group 64 = .ok (.aload_n 0, 1) := by decide +kernel
theorem dX0_group_65 : decode cX0_group 65 = .ok (.iload 4, 2) := by decide +kernel
theorem dX0_group_67 : decode cX0_group 67 = .ok (.invokevirtual 158, 3) := by decide +kernel
theorem dX0_group_70 : decode cX0_group 70 = .ok (.lreturn, 1) := by decide +kernel
theorem dX0_group_71 : decode cX0_group 71 = .ok (.aload_n 0, 1) := by decide +kernel
theorem dX0_group_72 : decode cX0_group 72 = .ok (.iload 4, 2) := by decide +kernel
theorem dX0_group_74 : decode cX0_group 74 = .ok (.invokevirtual 162, 3) := by decide +kernel
theorem dX0_group_77 : decode cX0_group 77 = .ok (.lreturn, 1) := by decide +kernel
theorem dX0_group_78 : decode cX0_group 78 = .ok (.ldc2_w 127, 3) := by decide +kernel
theorem dX0_group_81 : decode cX0_group 81 = .ok (.lreturn, 1) := by decide +kernel
theorem dX0_scale_0 : decode cX0_scale 0 = .ok (.aload_n 0, 1) := by decide +kernel
theorem dX0_scale_1 : decode cX0_scale 1 = .ok (.iload_n 1, 1) := by decide +kernel
theorem dX0_scale_2 : decode cX0_scale 2 = .ok (.invokevirtual 81, 3) := by decide +kernel
theorem dX0_scale_5 : decode cX0_scale 5 = .ok (.ifCond .eq 31, 3) := by decide +kernel
theorem dX0_scale_8 : decode cX0_scale 8 = .ok (.aload_n 0, 1) := by decide +kernel
theorem dX0_scale_9 : decode cX0_scale 9 = .ok (.iload_n 2, 1) := by decide +kernel
theorem dX0_scale_10 : decode cX0_scale 10 = .ok (.invokevirtual 81, 3) := by decide +kernel
theorem dX0_scale_13 : decode cX0_scale 13 = .ok (.ifCond .eq 23, 3) := by decide +kernel
theorem dX0_scale_16 : decode cX0_scale 16 = .ok (.iload_n 1, 1) := by decide +kernel
theorem dX0_scale_17 : decode cX0_scale 17 = .ok (.iload_n 2, 1) := by decide +kernel
theorem dX0_scale_18 : decode cX0_scale 18 = .ok (.if_icmp .eq 18, 3) := by decide +kernel
theorem dX0_scale_21 : decode cX0_scale 21 = .ok (.iload_n 3, 1) := by decide +kernel
theorem dX0_scale_22 : decode cX0_scale 22 = .ok (.invokestatic 165, 3) := by decide +kernel
theorem dX0_scale_25 : decode cX0_scale 25 = .ok (.ifCond .eq 11, 3) := by decide +kernel
theorem dX0_scale_28 : decode cX0_scale 28 = .ok (.iload 4, 2) := by decide +kernel
theorem dX0_scale_30 : decode cX0_scale 30 = .ok (.invokestatic 124, 3) := by decide +kernel
theorem dX0_scale_33 : decode cX0_scale 33 = .ok (.ifCond .ne 7, 3) := by decide +kernel
theorem dX0_scale_36 : decode cX0_scale 36 = .ok (.ldc2_w 127, 3) := by decide +kernel
theorem dX0_scale_39 : decode cX0_scale 39 = .ok (.lreturn, 1) := by decide +kernel
theorem dX0_scale_40 : decode cX0_scale 40 = .ok (.aload_n 0, 1) := by decide +kernel
theorem dX0_scale_41 : decode cX0_scale 41 = .ok (.iload_n 1, 1) := by decide +kernel
theorem dX0_scale_42 : decode cX0_scale 42 = .ok (.iload_n 1, 1) := by decide +kernel
theorem dX0_scale_43 : decode cX0_scale 43 = .ok (.iconst 0, 1) := by decide +kernel
theorem dX0_scale_44 : decode cX0_scale 44 = .ok (.invokevirtual 168, 3) := by decide +kernel
theorem dX0_scale_47 : decode cX0_scale 47 = .ok (.lstore 5, 2) := by decide +kernel
theorem dX0_scale_49 : decode cX0_scale 49 = .ok (.aload_n 0, 1) := by decide +kernel
theorem dX0_scale_50 : decode cX0_scale 50 = .ok (.iload_n 1, 1) := by decide +kernel
theorem dX0_scale_51 : decode cX0_scale 51 = .ok (.iload_n 1, 1) := by decide +kernel
theorem dX0_scale_52 : decode cX0_scale 52 = .ok (.iconst 2, 1) := by decide +kernel
theorem dX0_scale_53 : decode cX0_scale 53 = .ok (.invokevirtual 168, 3) := by decide +kernel
theorem dX0_scale_56 : decode cX0_scale 56 = .ok (.lstore 7, 2) := by decide +kernel
theorem dX0_scale_58 : decode cX0_scale 58 = .ok (.aload_n 0, 1) := by decide +kernel
theorem dX0_scale_59 : decode cX0_scale 59 = .ok (.iload_n 2, 1) := by decide +kernel
theorem dX0_scale_60 : decode cX0_scale 60 = .ok (.iload_n 2, 1) := by decide +kernel
theorem dX0_scale_61 : decode cX0_scale 61 = .ok (.iconst 0, 1) := by decide +kernel
theorem dX0_scale_62 : decode cX0_scale 62 = .ok (.invokevirtual 168, 3) := by decide +kernel
theorem dX0_scale_65 : decode cX0_scale 65 = .ok (.lstore 9, 2) := by decide +kernel
theorem dX0_scale_67 : decode cX0_scale 67 = .ok (.aload_n 0, 1) := by decide +kernel
theorem dX0_scale_68 : decode cX0_scale 68 = .ok (.iload_n 2, 1) := by decide +kernel
theorem dX0_scale_69 : decode cX0_scale 69 = .ok (.iload_n 1, 1) := by decide +kernel
theorem dX0_scale_70 : decode cX0_scale 70 = .ok (.iconst 2, 1) := by decide +kernel
theorem dX0_scale_71 : decode cX0_scale 71 = .ok (.invokevirtual 168, 3) := by decide +kernel
theorem dX0_scale_74 : decode cX0_scale 74 = .ok (.lstore 11, 2) := by decide +kernel
theorem dX0_scale_76 : decode cX0_scale 76 = .ok (.lload 5, 2) := by decide +kernel
theorem dX0_scale_78 : decode cX0_scale 78 = .ok (.lconst 0, 1) := by decide +kernel
theorem dX0_scale_79 : decode cX0_scale 79 = .ok (.lcmp, 1) := by decide +kernel
theorem dX0_scale_80 : decode cX0_scale 80 = .ok (.ifCond .eq 33, 3) := by decide +kernel
theorem dX0_scale_83 : decode cX0_scale 83 = .ok (.lload 9, 2) := by decide +kernel
theorem dX0_scale_85 : decode cX0_scale 85 = .ok (.lconst 0, 1) := by decide +kernel
theorem dX0_scale_86 : decode cX0_scale 86 = .ok (.lcmp, 1) := by decide +kernel
theorem dX0_scale_87 : decode cX0_scale 87 = .ok (.ifCond .eq 26, 3) := by decide +kernel
theorem dX0_scale_90 : decode cX0_scale 90 = .ok (.aload_n 0, 1) := by decide +kernel
theorem dX0_scale_91 : decode cX0_scale 91 = .ok (.iload_n 1, 1) := by decide +kernel
theorem dX0_scale_92 : decode cX0_scale 92 = .ok (.iload_n 2, 1) := by decide +kernel
theorem dX0_scale_93 : decode cX0_scale 93 = .ok (.invokevirtual 146, 3) := by decide +kernel
theorem dX0_scale_96 : decode cX0_scale 96 = .ok (.ifCond .eq 17, 3) := by decide +kernel
theorem dX0_scale_99 : decode cX0_scale 99 = .ok (.lload 7, 2) := by decide +kernel
theorem dX0_scale_101 : decode cX0_scale 101 = .ok (.lconst 0, 1) := by decide +kernel
theorem dX0_scale_102 : decode cX0_scale 102 = .ok (.lcmp, 1) := by decide +kernel
theorem dX0_scale_103 : decode cX0_scale 103 = .ok (.ifCond .eq 10, 3) := by decide +kernel
theorem dX0_scale_106 : decode cX0_scale 106 = .ok (.lload 11, 2) := by decide +kernel
theorem dX0_scale_108 : decode cX0_scale 108 = .ok (.lconst 0, 1) := by decide +kernel
theorem dX0_scale_109 : decode cX0_scale 109 = .ok (.lcmp, 1) := by decide +kernel
theorem dX0_scale_110 : decode cX0_scale 110 = .ok (.ifCond .ne 7, 3) := by decide +kernel
theorem dX0_scale_113 : decode cX0_scale 113 = .ok (.ldc2_w 127, 3) := by decide +kernel
theorem dX0_scale_116 : decode cX0_scale 116 = .ok (.lreturn, 1) := by decide +kernel
theorem dX0_scale_117 : decode cX0_scale 117 = .ok (.lload 5, 2) := by decide +kernel
theorem dX0_scale_119 : decode cX0_scale 119 = .ok (.lload 7, 2) := by decide +kernel
theorem dX0_scale_121 : decode cX0_scale 121 = .ok (.lmul, 1) := by decide +kernel
theorem dX0_scale_122 : decode cX0_scale 122 = .ok (.lstore 13, 2) := by decide +kernel
theorem dX0_scale_124 : decode cX0_scale 124 = .ok (.aload_n 0, 1) := by decide +kernel
theorem dX0_scale_125 : decode cX0_scale 125 = .ok (.iload_n 1, 1) := by decide +kernel
theorem dX0_scale_126 : decode cX0_scale 126 = .ok (.iload_n 2, 1) := by decide +kernel
theorem dX0_scale_127 : decode cX0_scale 127 = .ok (.iconst 1, 1) := by decide +kernel
theorem dX0_scale_128 : decode cX0_scale 128 = .ok (.invokevirtual 168, 3) := by decide +kernel
theorem dX0_scale_131 : decode cX0_scale 131 = .ok (.lload 7, 2) := by decide +kernel
theorem dX0_scale_133 : decode cX0_scale 133 = .ok (.lmul, 1) := by decide +kernel
theorem dX0_scale_134 : decode cX0_scale 134 = .ok (.iload_n 3, 1) := by decide +kernel
theorem dX0_scale_135 : decode cX0_scale 135 = .ok (.i2l, 1) := by decide +kernel
theorem dX0_scale_136 : decode cX0_scale 136 = .ok (.lload 5, 2) := by decide +kernel
theorem dX0_scale_138 : decode cX0_scale 138 = .ok (.lmul, 1) := by decide +kernel
theorem dX0_scale_139 : decode cX0_scale 139 = .ok (.aload_n 0, 1) := by decide +kernel
theorem dX0_scale_140 : decode cX0_scale 140 = .ok (.iload_n 1, 1) := by decide +kernel
theorem dX0_scale_141 : decode cX0_scale 141 = .ok (.iload_n 1, 1) := by decide +kernel
theorem dX0_scale_142 : decode cX0_scale 142 = .ok (.iconst 1, 1) := by decide +kernel
theorem dX0_scale_143 : decode cX0_scale 143 = .ok (.invokevirtual 168, 3) := by decide +kernel
theorem dX0_scale_146 : decode cX0_scale 146 = .ok (.lsub, 1) := by decide +kernel
theorem dX0_scale_147 : decode cX0_scale 147 = .ok (.aload_n 0, 1) := by decide +kernel
theorem dX0_scale_148 : decode cX0_scale 148 = .ok (.iload_n 1, 1) := by decide +kernel
theorem dX0_scale_149 : decode cX0_scale 149 = .ok (.iload_n 2, 1) := by decide +kernel
theorem dX0_scale_150 : decode cX0_scale 150 = .ok (.iconst 2, 1) := by decide +kernel
theorem dX0_scale_151 : decode cX0_scale 151 = .ok (.invokevirtual 168, 3) := by decide +kernel
theorem dX0_scale_154 : decode cX0_scale 154 = .ok (.lmul, 1) := by decide +kernel
theorem dX0_scale_155 : decode cX0_scale 155 = .ok (.ladd, 1) := by decide +kernel
theorem dX0_scale_156 : decode cX0_scale 156 = .ok (.lstore 15, 2) := by decide +kernel
theorem dX0_scale_158 : decode cX0_scale 158 = .ok (.lload 15, 2) := by decide +kernel
theorem dX0_scale_160 : decode cX0_scale 160 = .ok (.lload 9, 2) := by decide +kernel
theorem dX0_scale_162 : decode cX0_scale 162 = .ok (.lmul, 1) := by decide +kernel
theorem dX0_scale_163 : decode cX0_scale 163 = .ok (.aload_n 0, 1) := by decide +kernel
theorem dX0_scale_164 : decode cX0_scale 164 = .ok (.iload_n 2, 1) := by decide +kernel
theorem dX0_scale_165 : decode cX0_scale 165 = .ok (.iload_n 1, 1) := by decide +kernel
theorem dX0_scale_166 : decode cX0_scale 166 = .ok (.iconst 1, 1) := by decide +kernel
theorem dX0_scale_167 : decode cX0_scale 167 = .ok (.invokevirtual 168, 3) := by decide +kernel
theorem dX0_scale_170 : decode cX0_scale 170 = .ok (.lload 13, 2) := by decide +kernel
theorem dX0_scale_172 : decode cX0_scale 172 = .ok (.lmul, 1) := by decide +kernel
theorem dX0_scale_173 : decode cX0_scale 173 = .ok (.lsub, 1) := by decide +kernel
theorem dX0_scale_174 : decode cX0_scale 174 = .ok (.lstore 17, 2) := by decide +kernel
theorem dX0_scale_176 : decode cX0_scale 176 = .ok (.aload_n 0, 1) := by decide +kernel
theorem dX0_scale_177 : decode cX0_scale 177 = .ok (.iload_n 2, 1) := by decide +kernel
theorem dX0_scale_178 : decode cX0_scale 178 = .ok (.iload_n 2, 1) := by decide +kernel
theorem dX0_scale_179 : decode cX0_scale 179 = .ok (.iconst 1, 1) := by decide +kernel
theorem dX0_scale_180 : decode cX0_scale 180 = .ok (.invokevirtual 168, 3) := by decide +kernel
theorem dX0_scale_183 : decode cX0_scale 183 = .ok (.lload 11, 2) := by decide +kernel
theorem dX0_scale_185 : decode cX0_scale 185 = .ok (.lmul, 1) := by decide +kernel
theorem dX0_scale_186 : decode cX0_scale 186 = .ok (.lload 13, 2) := by decide +kernel
theorem dX0_scale_188 : decode cX0_scale 188 = .ok (.lmul, 1) := by decide +kernel
theorem dX0_scale_189 : decode cX0_scale 189 = .ok (.lload 17, 2) := by decide +kernel
theorem dX0_scale_191 : decode cX0_scale 191 = .ok (.aload_n 0, 1) := by decide +kernel
theorem dX0_scale_192 : decode cX0_scale 192 = .ok (.iload_n 2, 1) := by decide +kernel
theorem dX0_scale_193 : decode cX0_scale 193 = .ok (.iload_n 2, 1) := by decide +kernel
theorem dX0_scale_194 : decode cX0_scale 194 = .ok (.iconst 2, 1) := by decide +kernel
theorem dX0_scale_195 : decode cX0_scale 195 = .ok (.invokevirtual 168, 3) := by decide +kernel
theorem dX0_scale_198 : decode cX0_scale 198 = .ok (.lmul, 1) := by decide +kernel
theorem dX0_scale_199 : decode cX0_scale 199 = .ok (.ladd, 1) := by decide +kernel
theorem dX0_scale_200 : decode cX0_scale 200 = .ok (.lstore 19, 2) := by decide +kernel
theorem dX0_scale_202 : decode cX0_scale 202 = .ok (.lload 19, 2) := by decide +kernel
theorem dX0_scale_204 : decode cX0_scale 204 = .ok (.lload 9, 2) := by decide +kernel
theorem dX0_scale_206 : decode cX0_scale 206 = .ok (.lload 11, 2) := by decide +kernel
theorem dX0_scale_208 : decode cX0_scale 208 = .ok (.lmul, 1) := by decide +kernel
theorem dX0_scale_209 : decode cX0_scale 209 = .ok (.lload 13, 2) := by decide +kernel
theorem dX0_scale_211 : decode cX0_scale 211 = .ok (.lmul, 1) := by decide +kernel
theorem dX0_scale_212 : decode cX0_scale 212 = .ok (.iload 4, 2) := by decide +kernel
theorem dX0_scale_214 : decode cX0_scale 214 = .ok (.invokestatic 132, 3) := by decide +kernel
theorem dX0_scale_217 : decode cX0_scale 217 = .ok (.lreturn, 1) := by decide +kernel
theorem dX0_rank_0 : decode cX0_rank 0 = .ok (.aload_n 0, 1) := by decide +kernel
theorem dX0_rank_1 : decode cX0_rank 1 = .ok (.iload_n 1, 1) := by decide +kernel
theorem dX0_rank_2 : decode cX0_rank 2 = .ok (.invokevirtual 81, 3) := by decide +kernel
theorem dX0_rank_5 : decode cX0_rank 5 = .ok (.ifCond .eq 11, 3) := by decide +kernel
theorem dX0_rank_8 : decode cX0_rank 8 = .ok (.aload_n 0, 1) := by decide +kernel
theorem dX0_rank_9 : decode cX0_rank 9 = .ok (.iload_n 1, 1) := by decide +kernel
theorem dX0_rank_10 : decode cX0_rank 10 = .ok (.invokevirtual 84, 3) := by decide +kernel
theorem dX0_rank_13 : decode cX0_rank 13 = .ok (.ifCond .ne 5, 3) := by decide +kernel
theorem dX0_rank_16 : decode cX0_rank 16 = .ok (.iconst (-1), 1) := by decide +kernel
theorem dX0_rank_17 : decode cX0_rank 17 = .ok (.ireturn, 1) := by decide +kernel
theorem dX0_rank_18 : decode cX0_rank 18 = .ok (.aload_n 0, 1) := by decide +kernel
theorem dX0_rank_19 : decode cX0_rank 19 = .ok (.aload_n 0, 1) := by decide +kernel
theorem dX0_rank_20 : decode cX0_rank 20 = .ok (.iload_n 1, 1) := by decide +kernel
theorem dX0_rank_21 : decode cX0_rank 21 = .ok (.aload_n 0, 1) := by decide +kernel
theorem dX0_rank_22 : decode cX0_rank 22 = .ok (.invokevirtual 117, 3) := by decide +kernel
theorem dX0_rank_25 : decode cX0_rank 25 = .ok (.invokevirtual 155, 3) := by decide +kernel
theorem dX0_rank_28 : decode cX0_rank 28 = .ok (.iload_n 2, 1) := by decide +kernel
theorem dX0_rank_29 : decode cX0_rank 29 = .ok (.invokevirtual 172, 3) := by decide +kernel
theorem dX0_rank_32 : decode cX0_rank 32 = .ok (.ireturn, 1) := by decide +kernel
theorem dX0_like_0 : decode cX0_like 0 = .ok (.aload_n 0, 1) := by decide +kernel
theorem dX0_like_1 : decode cX0_like 1 = .ok (.iload_n 1, 1) := by decide +kernel
theorem dX0_like_2 : decode cX0_like 2 = .ok (.invokevirtual 81, 3) := by decide +kernel
theorem dX0_like_5 : decode cX0_like 5 = .ok (.ifCond .eq 34, 3) := by decide +kernel
theorem dX0_like_8 : decode cX0_like 8 = .ok (.aload_n 0, 1) := by decide +kernel
theorem dX0_like_9 : decode cX0_like 9 = .ok (.iload_n 2, 1) := by decide +kernel
theorem dX0_like_10 : decode cX0_like 10 = .ok (.invokevirtual 81, 3) := by decide +kernel
theorem dX0_like_13 : decode cX0_like 13 = .ok (.ifCond .eq 26, 3) := by decide +kernel
theorem dX0_like_16 : decode cX0_like 16 = .ok (.iload_n 3, 1) := by decide +kernel
theorem dX0_like_17 : decode cX0_like 17 = .ok (.invokestatic 165, 3) := by decide +kernel
theorem dX0_like_20 : decode cX0_like 20 = .ok (.ifCond .eq 19, 3) := by decide +kernel
theorem dX0_like_23 : decode cX0_like 23 = .ok (.aload_n 0, 1) := by decide +kernel
theorem dX0_like_24 : decode cX0_like 24 = .ok (.iload_n 1, 1) := by decide +kernel
theorem dX0_like_25 : decode cX0_like 25 = .ok (.invokevirtual 84, 3) := by decide +kernel
theorem dX0_like_28 : decode cX0_like 28 = .ok (.ifCond .eq 11, 3) := by decide +kernel
theorem dX0_like_31 : decode cX0_like 31 = .ok (.aload_n 0, 1) := by decide +kernel
theorem dX0_like_32 : decode cX0_like 32 = .ok (.iload_n 2, 1) := by decide +kernel
theorem dX0_like_33 : decode cX0_like 33 = .ok (.invokevirtual 84, 3) := by decide +kernel
theorem dX0_like_36 : decode cX0_like 36 = .ok (.ifCond .ne 5, 3) := by decide +kernel
theorem dX0_like_39 : decode cX0_like 39 = .ok (.iconst (-1), 1) := by decide +kernel
theorem dX0_like_40 : decode cX0_like 40 = .ok (.ireturn, 1) := by decide +kernel
theorem dX0_like_41 : decode cX0_like 41 = .ok (.aload_n 0, 1) := by decide +kernel
theorem dX0_like_42 : decode cX0_like 42 = .ok (.iload_n 1, 1) := by decide +kernel
theorem dX0_like_43 : decode cX0_like 43 = .ok (.aload_n 0, 1) := by decide +kernel
theorem dX0_like_44 : decode cX0_like 44 = .ok (.invokevirtual 117, 3) := by decide +kernel
theorem dX0_like_47 : decode cX0_like 47 = .ok (.invokevirtual 155, 3) := by decide +kernel
theorem dX0_like_50 : decode cX0_like 50 = .ok (.istore 4, 2) := by decide +kernel
theorem dX0_like_52 : decode cX0_like 52 = .ok (.aload_n 0, 1) := by decide +kernel
theorem dX0_like_53 : decode cX0_like 53 = .ok (.iload 4, 2) := by decide +kernel
theorem dX0_like_55 : decode cX0_like 55 = .ok (.iload_n 3, 1) := by decide +kernel
theorem dX0_like_56 : decode cX0_like 56 = .ok (.invokevirtual 172, 3) := by decide +kernel
theorem dX0_like_59 : decode cX0_like 59 = .ok (.istore 5, 2) := by decide +kernel
theorem dX0_like_61 : decode cX0_like 61 = .ok (.aload_n 0, 1) := by decide +kernel
theorem dX0_like_62 : decode cX0_like 62 = .ok (.iload_n 2, 1) := by decide +kernel
theorem dX0_like_63 : decode cX0_like 63 = .ok (.aload_n 0, 1) := by decide +kernel
theorem dX0_like_64 : decode cX0_like 64 = .ok (.invokevirtual 117, 3) := by decide +kernel
theorem dX0_like_67 : decode cX0_like 67 = .ok (.invokevirtual 155, 3) := by decide +kernel
theorem dX0_like_70 : decode cX0_like 70 = .ok (.istore 6, 2) := by decide +kernel
theorem dX0_like_72 : decode cX0_like 72 = .ok (.bipush 121, 2) := by decide +kernel
theorem dX0_like_74 : decode cX0_like 74 = .ok (.istore 7, 2) := by decide +kernel
theorem dX0_like_76 : decode cX0_like 76 = .ok (.iconst 0, 1) := by decide +kernel
theorem dX0_like_77 : decode cX0_like 77 = .ok (.istore 8, 2) := by decide +kernel
theorem dX0_like_79 : decode cX0_like 79 = .ok (.iconst 0, 1) := by decide +kernel
theorem dX0_like_80 : decode cX0_like 80 = .ok (.istore 9, 2) := by decide +kernel
theorem dX0_like_82 : decode cX0_like 82 = .ok (.iload 9, 2) := by decide +kernel
theorem dX0_like_84 : decode cX0_like 84 = .ok (.iload 6, 2) := by decide +kernel
theorem dX0_like_86 : decode cX0_like 86 = .ok (.if_icmp .ge 61, 3) := by decide +kernel
theorem dX0_like_89 : decode cX0_like 89 = .ok (.iload 8, 2) := by decide +kernel
theorem dX0_like_91 : decode cX0_like 91 = .ok (.aload_n 0, 1) := by decide +kernel
theorem dX0_like_92 : decode cX0_like 92 = .ok (.getfield 42, 3) := by decide +kernel
theorem dX0_like_95 : decode cX0_like 95 = .ok (.iload 9, 2) := by decide +kernel
theorem dX0_like_97 : decode cX0_like 97 = .ok (.iaload, 1) := by decide +kernel
theorem dX0_like_98 : decode cX0_like 98 = .ok (.invokestatic 175, 3) := by decide +kernel
theorem dX0_like_101 : decode cX0_like 101 = .ok (.istore 8, 2) := by decide +kernel
theorem dX0_like_103 : decode cX0_like 103 = .ok (.aload_n 0, 1) := by decide +kernel
theorem dX0_like_104 : decode cX0_like 104 = .ok (.iload 6, 2) := by decide +kernel
theorem dX0_like_106 : decode cX0_like 106 = .ok (.aload_n 0, 1) := by decide +kernel
theorem dX0_like_107 : decode cX0_like 107 = .ok (.getfield 42, 3) := by decide +kernel
theorem dX0_like_110 : decode cX0_like 110 = .ok (.iload 9, 2) := by decide +kernel
theorem dX0_like_112 : decode cX0_like 112 = .ok (.iaload, 1) := by decide +kernel
theorem dX0_like_113 : decode cX0_like 113 = .ok (.invokevirtual 172, 3) := by decide +kernel
theorem dX0_like_116 : decode cX0_like 116 = .ok (.iload 4, 2) := by decide +kernel
theorem dX0_like_118 : decode cX0_like 118 = .ok (.imul, 1) := by decide +kernel
theorem dX0_like_119 : decode cX0_like 119 = .ok (.iload 5, 2) := by decide +kernel
theorem dX0_like_121 : decode cX0_like 121 = .ok (.iload 6, 2) := by decide +kernel
theorem dX0_like_123 : decode cX0_like 123 = .ok (.imul, 1) := by decide +kernel
theorem dX0_like_124 : decode cX0_like 124 = .ok (.if_icmp .lt 17, 3) := by decide +kernel
theorem dX0_like_127 : decode cX0_like 127 = .ok (.iload 7, 2) := by decide +kernel
theorem dX0_like_129 : decode cX0_like 129 = .ok (.aload_n 0, 1) := by decide +kernel
theorem dX0_like_130 : decode cX0_like 130 = .ok (.getfield 42, 3) := by decide +kernel
theorem dX0_like_133 : decode cX0_like 133 = .ok (.iload 9, 2) := by decide +kernel
theorem dX0_like_135 : decode cX0_like 135 = .ok (.iaload, 1) := by decide +kernel
theorem dX0_like_136 : decode cX0_like 136 = .ok (.invokestatic 106, 3) := by decide +kernel
theorem dX0_like_139 : decode cX0_like 139 = .ok (.istore 7, 2) := by decide +kernel
theorem dX0_like_141 : decode cX0_like 141 = .ok (.iinc 9 1, 3) := by decide +kernel
theorem dX0_like_144 : decode cX0_like 144 = .ok (.goto (-62), 3) := by decide +kernel
theorem dX0_like_147 : decode cX0_like 147 = .ok (.iload 7, 2) := by decide +kernel
theorem dX0_like_149 : decode cX0_like 149 = .ok (.iload 8, 2) := by decide +kernel
theorem dX0_like_151 : decode cX0_like 151 = .ok (.invokestatic 106, 3) := by decide +kernel
theorem dX0_like_154 : decode cX0_like 154 = .ok (.ireturn, 1) := by decide +kernel
theorem dX0_judge_0 : decode cX0_judge 0 = .ok (.iload_n 1, 1) := by decide +kernel
theorem dX0_judge_1 : decode cX0_judge 1 = .ok (.ifCond .lt 25, 3) := by decide +kernel
theorem dX0_judge_4 : decode cX0_judge 4 = .ok (.iload_n 1, 1) := by decide +kernel
theorem dX0_judge_5 : decode cX0_judge 5 = .ok (.bipush 8, 2) := by decide +kernel
theorem dX0_judge_7 : decode cX0_judge 7 = .ok (.if_icmp .ge 19, 3) := by decide +kernel
theorem dX0_judge_10 : decode cX0_judge 10 = .ok (.aload_n 0, 1) := by decide +kernel
theorem dX0_judge_11 : decode cX0_judge 11 = .ok (.iload_n 2, 1) := by decide +kernel
theorem dX0_judge_12 : decode cX0_judge 12 = .ok (.invokevirtual 81, 3) := by decide +kernel
theorem dX0_judge_15 : decode cX0_judge 15 = .ok (.ifCond .eq 11, 3) := by decide +kernel
theorem dX0_judge_18 : decode cX0_judge 18 = .ok (.aload_n 0, 1) := by decide +kernel
theorem dX0_judge_19 : decode cX0_judge 19 = .ok (.iload_n 3, 1) := by decide +kernel
theorem dX0_judge_20 : decode cX0_judge 20 = .ok (.invokevirtual 68, 3) := by decide +kernel
theorem dX0_judge_23 : decode cX0_judge 23 = .ok (.ifCond .ne 5, 3) := by decide +kernel
theorem dX0_judge_26 : decode cX0_judge 26 = .ok (.iconst (-1), 1) := by decide +kernel
theorem dX0_judge_27 : decode cX0_judge 27 = .ok (.ireturn, 1) := by decide +kernel
theorem dX0_judge_28 : decode cX0_judge 28 = .ok (.aload_n 0, 1) := by decide +kernel
theorem dX0_judge_29 : decode cX0_judge 29 = .ok (.iload_n 2, 1) := by decide +kernel
theorem dX0_judge_30 : decode cX0_judge 30 = .ok (.iload_n 3, 1) := by decide +kernel
theorem dX0_judge_31 : decode cX0_judge 31 = .ok (.invokevirtual 178, 3) := by decide +kernel
theorem dX0_judge_34 : decode cX0_judge 34 = .ok (.istore 5, 2) := by decide +kernel
theorem dX0_judge_36 : decode cX0_judge 36 = .ok (.iload 5, 2) := by decide +kernel
theorem dX0_judge_38 : decode cX0_judge 38 = .ok (.iconst (-1), 1) := by decide +kernel
theorem dX0_judge_39 : decode cX0_judge 39 = .ok (.if_icmp .ne 5, 3) := by decide +kernel
theorem dX0_judge_42 : decode cX0_judge 42 = .ok (.iconst (-1), 1) := by decide +kernel
theorem dX0_judge_43 : decode cX0_judge 43 = .ok (.ireturn, 1) := by decide +kernel
theorem dX0_judge_44 : decode cX0_judge 44 = .ok (.iload 4, 2) := by decide +kernel
theorem dX0_judge_46 : decode cX0_judge 46 = .ok (.iconst (-1), 1) := by decide +kernel
theorem dX0_judge_47 : decode cX0_judge 47 = .ok (.if_icmp .lt 14, 3) := by decide +kernel
theorem dX0_judge_50 : decode cX0_judge 50 = .ok (.iload 4, 2) := by decide +kernel
theorem dX0_judge_52 : decode cX0_judge 52 = .ok (.aload_n 0, 1) := by decide +kernel
theorem dX0_judge_53 : decode cX0_judge 53 = .ok (.getfield 15, 3) := by decide +kernel
theorem dX0_judge_56 : decode cX0_judge 56 = .ok (.iload_n 3, 1) := by decide +kernel
theorem dX0_judge_57 : decode cX0_judge 57 = .ok (.iaload, 1) := by decide +kernel
theorem dX0_judge_58 : decode cX0_judge 58 = .ok (.if_icmp .le 6, 3) := by decide +kernel
theorem dX0_judge_61 : decode cX0_judge 61 = .ok (.bipush (-2), 2) := by decide +kernel
theorem dX0_judge_63 : decode cX0_judge 63 = .ok (.ireturn, 1) := by decide +kernel
theorem dX0_judge_64 : decode cX0_judge 64 = .ok (.iload_n 2, 1) := by decide +kernel
theorem dX0_judge_65 : decode cX0_judge 65 = .ok (.bipush 12, 2) := by decide +kernel
theorem dX0_judge_67 : decode cX0_judge 67 = .ok (.imul, 1) := by decide +kernel
theorem dX0_judge_68 : decode cX0_judge 68 = .ok (.iload 5, 2) := by decide +kernel
theorem dX0_judge_70 : decode cX0_judge 70 = .ok (.iadd, 1) := by decide +kernel
theorem dX0_judge_71 : decode cX0_judge 71 = .ok (.bipush 8, 2) := by decide +kernel
theorem dX0_judge_73 : decode cX0_judge 73 = .ok (.imul, 1) := by decide +kernel
theorem dX0_judge_74 : decode cX0_judge 74 = .ok (.iload_n 1, 1) := by decide +kernel
theorem dX0_judge_75 : decode cX0_judge 75 = .ok (.iadd, 1) := by decide +kernel
theorem dX0_judge_76 : decode cX0_judge 76 = .ok (.istore 6, 2) := by decide +kernel
theorem dX0_judge_78 : decode cX0_judge 78 = .ok (.aload_n 0, 1) := by decide +kernel
theorem dX0_judge_79 : decode cX0_judge 79 = .ok (.getfield 39, 3) := by decide +kernel
theorem dX0_judge_82 : decode cX0_judge 82 = .ok (.iload 6, 2) := by decide +kernel
theorem dX0_judge_84 : decode cX0_judge 84 = .ok (.iaload, 1) := by decide +kernel
theorem dX0_judge_85 : decode cX0_judge 85 = .ok (.istore 7, 2) := by decide +kernel
theorem dX0_judge_87 : decode cX0_judge 87 = .ok (.aload_n 0, 1) := by decide +kernel
theorem dX0_judge_88 : decode cX0_judge 88 = .ok (.getfield 39, 3) := by decide +kernel
theorem dX0_judge_91 : decode cX0_judge 91 = .ok (.iload 6, 2) := by decide +kernel
theorem dX0_judge_93 : decode cX0_judge 93 = .ok (.iload 4, 2) := by decide +kernel
theorem dX0_judge_95 : decode cX0_judge 95 = .ok (.iastore, 1) := by decide +kernel
theorem dX0_judge_96 : decode cX0_judge 96 = .ok (.iload 7, 2) := by decide +kernel
theorem dX0_judge_98 : decode cX0_judge 98 = .ok (.ireturn, 1) := by decide +kernel
theorem dX0_cut_0 : decode cX0_cut 0 = .ok (.aload_n 0, 1) := by decide +kernel
theorem dX0_cut_1 : decode cX0_cut 1 = .ok (.iload_n 1, 1) := by decide +kernel
theorem dX0_cut_2 : decode cX0_cut 2 = .ok (.invokevirtual 81, 3) := by decide +kernel
theorem dX0_cut_5 : decode cX0_cut 5 = .ok (.ifCond .eq 10, 3) := by decide +kernel
theorem dX0_cut_8 : decode cX0_cut 8 = .ok (.iload_n 2, 1) := by decide +kernel
theorem dX0_cut_9 : decode cX0_cut 9 = .ok (.invokestatic 124, 3) := by decide +kernel
theorem dX0_cut_12 : decode cX0_cut 12 = .ok (.ifCond .ne 7, 3) := by decide +kernel
theorem dX0_cut_15 : decode cX0_cut 15 = .ok (.ldc2_w 127, 3) := by decide +kernel
theorem dX0_cut_18 : decode cX0_cut 18 = .ok (.lreturn, 1) := by decide +kernel
theorem dX0_cut_19 : decode cX0_cut 19 = .ok (.aload_n 0, 1) := by decide +kernel
theorem dX0_cut_20 : decode cX0_cut 20 = .ok (.iload_n 1, 1) := by decide +kernel
theorem dX0_cut_21 : decode cX0_cut 21 = .ok (.invokevirtual 181, 3) := by decide +kernel
theorem dX0_cut_24 : decode cX0_cut 24 = .ok (.i2l, 1) := by decide +kernel
theorem dX0_cut_25 : decode cX0_cut 25 = .ok (.ldc2_w 184, 3) := by decide +kernel
theorem dX0_cut_28 : decode cX0_cut 28 = .ok (.iload_n 2, 1) := by decide +kernel
theorem dX0_cut_29 : decode cX0_cut 29 = .ok (.invokestatic 132, 3) := by decide +kernel
theorem dX0_cut_32 : decode cX0_cut 32 = .ok (.lreturn, 1) := by decide +kernel
theorem dX0_passes_0 : decode cX0_passes 0 = .ok (.aload_n 0, 1) := by decide +kernel
theorem dX0_passes_1 : decode cX0_passes 1 = .ok (.iload_n 1, 1) := by decide +kernel
theorem dX0_passes_2 : decode cX0_passes 2 = .ok (.invokevirtual 103, 3) := by decide +kernel
theorem dX0_passes_5 : decode cX0_passes 5 = .ok (.ifCond .ne 5, 3) := by decide +kernel
theorem dX0_passes_8 : decode cX0_passes 8 = .ok (.iconst (-1), 1) := by decide +kernel
theorem dX0_passes_9 : decode cX0_passes 9 = .ok (.ireturn, 1) := by decide +kernel
theorem dX0_passes_10 : decode cX0_passes 10 = .ok (.aload_n 0, 1) := by decide +kernel
theorem dX0_passes_11 : decode cX0_passes 11 = .ok (.iload_n 1, 1) := by decide +kernel
theorem dX0_passes_12 : decode cX0_passes 12 = .ok (.invokevirtual 186, 3) := by decide +kernel
theorem dX0_passes_15 : decode cX0_passes 15 = .ok (.ifCond .eq 7, 3) := by decide +kernel
theorem dX0_passes_18 : decode cX0_passes 18 = .ok (.iconst 1, 1) := by decide +kernel
theorem dX0_passes_19 : decode cX0_passes 19 = .ok (.goto 4, 3) := by decide +kernel
theorem dX0_passes_22 : decode cX0_passes 22 = .ok (.iconst 0, 1) := by decide +kernel
theorem dX0_passes_23 : decode cX0_passes 23 = .ok (.ireturn, 1) := by decide +kernel
theorem dX0_border_0 : decode cX0_border 0 = .ok (.aload_n 0, 1) := by decide +kernel
theorem dX0_border_1 : decode cX0_border 1 = .ok (.iload_n 1, 1) := by decide +kernel
theorem dX0_border_2 : decode cX0_border 2 = .ok (.invokevirtual 81, 3) := by decide +kernel
theorem dX0_border_5 : decode cX0_border 5 = .ok (.ifCond .ne 5, 3) := by decide +kernel
theorem dX0_border_8 : decode cX0_border 8 = .ok (.iconst (-1), 1) := by decide +kernel
theorem dX0_border_9 : decode cX0_border 9 = .ok (.ireturn, 1) := by decide +kernel
theorem dX0_border_10 : decode cX0_border 10 = .ok (.iload_n 2, 1) := by decide +kernel
theorem dX0_border_11 : decode cX0_border 11 = .ok (.ifCond .ge 6, 3) := by decide +kernel
theorem dX0_border_14 : decode cX0_border 14 = .ok (.bipush (-2), 2) := by decide +kernel
theorem dX0_border_16 : decode cX0_border 16 = .ok (.ireturn, 1) := by decide +kernel
theorem dX0_border_17 : decode cX0_border 17 = .ok (.aload_n 0, 1) := by decide +kernel
theorem dX0_border_18 : decode cX0_border 18 = .ok (.iload_n 1, 1) := by decide +kernel
theorem dX0_border_19 : decode cX0_border 19 = .ok (.invokevirtual 181, 3) := by decide +kernel
theorem dX0_border_22 : decode cX0_border 22 = .ok (.i2l, 1) := by decide +kernel
theorem dX0_border_23 : decode cX0_border 23 = .ok (.lstore_n 3, 1) := by decide +kernel
theorem dX0_border_24 : decode cX0_border 24 = .ok (.iload_n 2, 1) := by decide +kernel
theorem dX0_border_25 : decode cX0_border 25 = .ok (.i2l, 1) := by decide +kernel
theorem dX0_border_26 : decode cX0_border 26 = .ok (.ldc2_w 184, 3) := by decide +kernel
theorem dX0_border_29 : decode cX0_border 29 = .ok (.lmul, 1) := by decide +kernel
theorem dX0_border_30 : decode cX0_border 30 = .ok (.lstore 5, 2) := by decide +kernel
theorem dX0_border_32 : decode cX0_border 32 = .ok (.aload_n 0, 1) := by decide +kernel
theorem dX0_border_33 : decode cX0_border 33 = .ok (.iload_n 1, 1) := by decide +kernel
theorem dX0_border_34 : decode cX0_border 34 = .ok (.aload_n 0, 1) := by decide +kernel
theorem dX0_border_35 : decode cX0_border 35 = .ok (.invokevirtual 117, 3) := by decide +kernel
theorem dX0_border_38 : decode cX0_border 38 = .ok (.invokevirtual 155, 3) := by decide +kernel
theorem dX0_border_41 : decode cX0_border 41 = .ok (.istore 7, 2) := by decide +kernel
theorem dX0_border_43 : decode cX0_border 43 = .ok (.iconst 0, 1) := by decide +kernel
theorem dX0_border_44 : decode cX0_border 44 = .ok (.istore 8, 2) := by decide +kernel
theorem dX0_border_46 : decode cX0_border 46 = .ok (.iconst 0, 1) := by decide +kernel
theorem dX0_border_47 : decode cX0_border 47 = .ok (.istore 9, 2) := by decide +kernel
theorem dX0_border_49 : decode cX0_border 49 = .ok (.iload 9, 2) := by decide +kernel
theorem dX0_border_51 : decode cX0_border 51 = .ok (.iload 7, 2) := by decide +kernel
theorem dX0_border_53 : decode cX0_border 53 = .ok (.if_icmp .ge 35, 3) := by decide +kernel
theorem dX0_border_56 : decode cX0_border 56 = .ok (.aload_n 0, 1) := by decide +kernel
theorem dX0_border_57 : decode cX0_border 57 = .ok (.getfield 42, 3) := by decide +kernel
theorem dX0_border_60 : decode cX0_border 60 = .ok (.iload 9, 2) := by decide +kernel
theorem dX0_border_62 : decode cX0_border 62 = .ok (.iaload, 1) := by decide +kernel
theorem dX0_border_63 : decode cX0_border 63 = .ok (.sipush 840, 3) := by decide +kernel
theorem dX0_border_66 : decode cX0_border 66 = .ok (.imul, 1) := by decide +kernel
theorem dX0_border_67 : decode cX0_border 67 = .ok (.i2l, 1) := by decide +kernel
theorem dX0_border_68 : decode cX0_border 68 = .ok (.lload_n 3, 1) := by decide +kernel
theorem dX0_border_69 : decode cX0_border 69 = .ok (.lsub, 1) := by decide +kernel
theorem dX0_border_70 : decode cX0_border 70 = .ok (.invokestatic 189, 3) := by decide +kernel
theorem dX0_border_73 : decode cX0_border 73 = .ok (.lload 5, 2) := by decide +kernel
theorem dX0_border_75 : decode cX0_border 75 = .ok (.lcmp, 1) := by decide +kernel
theorem dX0_border_76 : decode cX0_border 76 = .ok (.ifCond .gt 6, 3) := by decide +kernel
theorem dX0_border_79 : decode cX0_border 79 = .ok (.iinc 8 1, 3) := by decide +kernel
theorem dX0_border_82 : decode cX0_border 82 = .ok (.iinc 9 1, 3) := by decide +kernel
theorem dX0_border_85 : decode cX0_border 85 = .ok (.goto (-36), 3) := by decide +kernel
theorem dX0_border_88 : decode cX0_border 88 = .ok (.iload 8, 2) := by decide +kernel
theorem dX0_border_90 : decode cX0_border 90 = .ok (.ireturn, 1) := by decide +kernel
theorem dX0_alike_0 : decode cX0_alike 0 = .ok (.aload_n 0, 1) := by decide +kernel
theorem dX0_alike_1 : decode cX0_alike 1 = .ok (.iload_n 1, 1) := by decide +kernel
theorem dX0_alike_2 : decode cX0_alike 2 = .ok (.invokevirtual 103, 3) := by decide +kernel
theorem dX0_alike_5 : decode cX0_alike 5 = .ok (.ifCond .eq 11, 3) := by decide +kernel
theorem dX0_alike_8 : decode cX0_alike 8 = .ok (.aload_n 0, 1) := by decide +kernel
theorem dX0_alike_9 : decode cX0_alike 9 = .ok (.iload_n 2, 1) := by decide +kernel
theorem dX0_alike_10 : decode cX0_alike 10 = .ok (.invokevirtual 103, 3) := by decide +kernel
theorem dX0_alike_13 : decode cX0_alike 13 = .ok (.ifCond .ne 5, 3) := by decide +kernel
theorem dX0_alike_16 : decode cX0_alike 16 = .ok (.iconst (-1), 1) := by decide +kernel
theorem dX0_alike_17 : decode cX0_alike 17 = .ok (.ireturn, 1) := by decide +kernel
theorem dX0_alike_18 : decode cX0_alike 18 = .ok (.iload_n 1, 1) := by decide +kernel
theorem dX0_alike_19 : decode cX0_alike 19 = .ok (.iload_n 2, 1) := by decide +kernel
theorem dX0_alike_20 : decode cX0_alike 20 = .ok (.if_icmp .eq 18, 3) := by decide +kernel
theorem dX0_alike_23 : decode cX0_alike 23 = .ok (.aload_n 0, 1) := by decide +kernel
theorem dX0_alike_24 : decode cX0_alike 24 = .ok (.getfield 30, 3) := by decide +kernel
theorem dX0_alike_27 : decode cX0_alike 27 = .ok (.iload_n 1, 1) := by decide +kernel
theorem dX0_alike_28 : decode cX0_alike 28 = .ok (.iaload, 1) := by decide +kernel
theorem dX0_alike_29 : decode cX0_alike 29 = .ok (.aload_n 0, 1) := by decide +kernel
theorem dX0_alike_30 : decode cX0_alike 30 = .ok (.getfield 30, 3) := by decide +kernel
theorem dX0_alike_33 : decode cX0_alike 33 = .ok (.iload_n 2, 1) := by decide +kernel
theorem dX0_alike_34 : decode cX0_alike 34 = .ok (.iaload, 1) := by decide +kernel
theorem dX0_alike_35 : decode cX0_alike 35 = .ok (.if_icmp .eq 6, 3) := by decide +kernel
theorem dX0_alike_38 : decode cX0_alike 38 = .ok (.bipush (-2), 2) := by decide +kernel
theorem dX0_alike_40 : decode cX0_alike 40 = .ok (.ireturn, 1) := by decide +kernel
theorem dX0_alike_41 : decode cX0_alike 41 = .ok (.aload_n 0, 1) := by decide +kernel
theorem dX0_alike_42 : decode cX0_alike 42 = .ok (.iload_n 1, 1) := by decide +kernel
theorem dX0_alike_43 : decode cX0_alike 43 = .ok (.iload_n 2, 1) := by decide +kernel
theorem dX0_alike_44 : decode cX0_alike 44 = .ok (.invokevirtual 193, 3) := by decide +kernel
theorem dX0_alike_47 : decode cX0_alike 47 = .ok (.ireturn, 1) := by decide +kernel
theorem dX0_pair_0 : decode cX0_pair 0 = .ok (.aload_n 0, 1) := by decide +kernel
theorem dX0_pair_1 : decode cX0_pair 1 = .ok (.iload_n 1, 1) := by decide +kernel
theorem dX0_pair_2 : decode cX0_pair 2 = .ok (.invokevirtual 81, 3) := by decide +kernel
theorem dX0_pair_5 : decode cX0_pair 5 = .ok (.ifCond .eq 7, 3) := by decide +kernel
theorem dX0_pair_8 : decode cX0_pair 8 = .ok (.iload_n 3, 1) := by decide +kernel
theorem dX0_pair_9 : decode cX0_pair 9 = .ok (.ifCond .ge 5, 3) := by decide +kernel
theorem dX0_pair_12 : decode cX0_pair 12 = .ok (.iconst (-1), 1) := by decide +kernel
theorem dX0_pair_13 : decode cX0_pair 13 = .ok (.ireturn, 1) := by decide +kernel
theorem dX0_pair_14 : decode cX0_pair 14 = .ok (.iload_n 2, 1) := by decide +kernel
theorem dX0_pair_15 : decode cX0_pair 15 = .ok (.iconst 1, 1) := by decide +kernel
theorem dX0_pair_16 : decode cX0_pair 16 = .ok (.if_icmp .ge 6, 3) := by decide +kernel
theorem dX0_pair_19 : decode cX0_pair 19 = .ok (.bipush (-2), 2) := by decide +kernel
theorem dX0_pair_21 : decode cX0_pair 21 = .ok (.ireturn, 1) := by decide +kernel
theorem dX0_pair_22 : decode cX0_pair 22 = .ok (.iconst 0, 1) := by decide +kernel
theorem dX0_pair_23 : decode cX0_pair 23 = .ok (.istore 4, 2) := by decide +kernel
theorem dX0_pair_25 : decode cX0_pair 25 = .ok (.iconst 0, 1) := by decide +kernel
theorem dX0_pair_26 : decode cX0_pair 26 = .ok (.istore 5, 2) := by decide +kernel
theorem dX0_pair_28 : decode cX0_pair 28 = .ok (.iload 5, 2) := by decide +kernel
theorem dX0_pair_30 : decode cX0_pair 30 = .ok (.aload_n 0, 1) := by decide +kernel
theorem dX0_pair_31 : decode cX0_pair 31 = .ok (.getfield 90, 3) := by decide +kernel
theorem dX0_pair_34 : decode cX0_pair 34 = .ok (.if_icmp .ge 61, 3) := by decide +kernel
theorem dX0_pair_37 : decode cX0_pair 37 = .ok (.iload 5, 2) := by decide +kernel
theorem dX0_pair_39 : decode cX0_pair 39 = .ok (.iconst 1, 1) := by decide +kernel
theorem dX0_pair_40 : decode cX0_pair 40 = .ok (.iadd, 1) := by decide +kernel
theorem dX0_pair_41 : decode cX0_pair 41 = .ok (.istore 6, 2) := by decide +kernel
theorem dX0_pair_43 : decode cX0_pair 43 = .ok (.iload 6, 2) := by decide +kernel
theorem dX0_pair_45 : decode cX0_pair 45 = .ok (.aload_n 0, 1) := by decide +kernel
theorem dX0_pair_46 : decode cX0_pair 46 = .ok (.getfield 90, 3) := by decide +kernel
theorem dX0_pair_49 : decode cX0_pair 49 = .ok (.if_icmp .ge 40, 3) := by decide +kernel
theorem dX0_pair_52 : decode cX0_pair 52 = .ok (.aload_n 0, 1) := by decide +kernel
theorem dX0_pair_53 : decode cX0_pair 53 = .ok (.iload_n 1, 1) := by decide +kernel
theorem dX0_pair_54 : decode cX0_pair 54 = .ok (.iload 5, 2) := by decide +kernel
theorem dX0_pair_56 : decode cX0_pair 56 = .ok (.iload 6, 2) := by decide +kernel
theorem dX0_pair_58 : decode cX0_pair 58 = .ok (.iload_n 2, 1) := by decide +kernel
theorem dX0_pair_59 : decode cX0_pair 59 = .ok (.invokevirtual 196, 3) := by decide +kernel
theorem dX0_pair_62 : decode cX0_pair 62 = .ok (.ifCond .eq 21, 3) := by decide +kernel
theorem dX0_pair_65 : decode cX0_pair 65 = .ok (.iload 4, 2) := by decide +kernel
theorem dX0_pair_67 : decode cX0_pair 67 = .ok (.iload_n 3, 1) := by decide +kernel
theorem dX0_pair_68 : decode cX0_pair 68 = .ok (.if_icmp .ne 12, 3) := by decide +kernel
theorem dX0_pair_71 : decode cX0_pair 71 = .ok (.bipush 64, 2) := by decide +kernel
theorem dX0_pair_73 : decode cX0_pair 73 = .ok (.iload 5, 2) := by decide +kernel
theorem dX0_pair_75 : decode cX0_pair 75 = .ok (.imul, 1) := by decide +kernel
theorem dX0_pair_76 : decode cX0_pair 76 = .ok (.iload 6, 2) := by decide +kernel
theorem dX0_pair_78 : decode cX0_pair 78 = .ok (.iadd, 1) := by decide +kernel
theorem dX0_pair_79 : decode cX0_pair 79 = .ok (.ireturn, 1) := by decide +kernel
theorem dX0_pair_80 : decode cX0_pair 80 = .ok (.iinc 4 1, 3) := by decide +kernel
theorem dX0_pair_83 : decode cX0_pair 83 = .ok (.iinc 6 1, 3) := by decide +kernel
theorem dX0_pair_86 : decode cX0_pair 86 = .ok (.goto (-43), 3) := by decide +kernel
theorem dX0_pair_89 : decode cX0_pair 89 = .ok (.iinc 5 1, 3) := by decide +kernel
theorem dX0_pair_92 : decode cX0_pair 92 = .ok (.goto (-64), 3) := by decide +kernel
theorem dX0_pair_95 : decode cX0_pair 95 = .ok (.iconst (-1), 1) := by decide +kernel
theorem dX0_pair_96 : decode cX0_pair 96 = .ok (.ireturn, 1) := by decide +kernel
theorem dX0_count_0 : decode cX0_count 0 = .ok (.iload_n 1, 1) := by decide +kernel
theorem dX0_count_1 : decode cX0_count 1 = .ok (.tableswitch 72 0 5 #[39, 44, 49, 54, 59, 67], 39) := by decide +kernel
theorem dX0_count_40 : decode cX0_count 40 = .ok (.aload_n 0, 1) := by decide +kernel
theorem dX0_count_41 : decode cX0_count 41 = .ok (.getfield 61, 3) := by decide +kernel
theorem dX0_count_44 : decode cX0_count 44 = .ok (.ireturn, 1) := by decide +kernel
theorem dX0_count_45 : decode cX0_count 45 = .ok (.aload_n 0, 1) := by decide +kernel
theorem dX0_count_46 : decode cX0_count 46 = .ok (.getfield 78, 3) := by decide +kernel
theorem dX0_count_49 : decode cX0_count 49 = .ok (.ireturn, 1) := by decide +kernel
theorem dX0_count_50 : decode cX0_count 50 = .ok (.aload_n 0, 1) := by decide +kernel
theorem dX0_count_51 : decode cX0_count 51 = .ok (.getfield 90, 3) := by decide +kernel
theorem dX0_count_54 : decode cX0_count 54 = .ok (.ireturn, 1) := by decide +kernel
theorem dX0_count_55 : decode cX0_count 55 = .ok (.aload_n 0, 1) := by decide +kernel
theorem dX0_count_56 : decode cX0_count 56 = .ok (.invokevirtual 200, 3) := by decide +kernel
theorem dX0_count_59 : decode cX0_count 59 = .ok (.ireturn, 1) := by decide +kernel
theorem dX0_count_60 : decode cX0_count 60 = .ok (.aload_n 0, 1) := by decide +kernel
theorem dX0_count_61 : decode cX0_count 61 = .ok (.getfield 71, 3) := by decide +kernel
theorem dX0_count_64 : decode cX0_count 64 = .ok (.invokestatic 149, 3) := by decide +kernel
theorem dX0_count_67 : decode cX0_count 67 = .ok (.ireturn, 1) := by decide +kernel
theorem dX0_count_68 : decode cX0_count 68 = .ok (.aload_n 0, 1) := by decide +kernel
theorem dX0_count_69 : decode cX0_count 69 = .ok (.invokevirtual 203, 3) := by decide +kernel
theorem dX0_count_72 : decode cX0_count 72 = .ok (.ireturn, 1) := by decide +kernel
theorem dX0_count_73 : decode cX0_count 73 = .ok (.iconst (-1), 1) := by decide +kernel
theorem dX0_count_74 : decode cX0_count 74 = .ok (.ireturn, 1) := by decide +kernel
theorem dX0_isQuestion_0 : decode cX0_isQuestion 0 = .ok (.iload_n 1, 1) := by decide +kernel
theorem dX0_isQuestion_1 : decode cX0_isQuestion 1 = .ok (.ifCond .lt 15, 3) := by decide +kernel
theorem dX0_isQuestion_4 : decode cX0_isQuestion 4 = .ok (.iload_n 1, 1) := by decide +kernel
theorem dX0_isQuestion_5 : decode cX0_isQuestion 5 = .ok (.aload_n 0, 1) := by decide +kernel
theorem dX0_isQuestion_6 : decode cX0_isQuestion 6 = .ok (.getfield 61, 3) := by decide +kernel
theorem dX0_isQuestion_9 : decode cX0_isQuestion 9 = .ok (.if_icmp .ge 7, 3) := by decide +kernel
theorem dX0_isQuestion_12 : decode cX0_isQuestion 12 = .ok (.iconst 1, 1) := by decide +kernel
theorem dX0_isQuestion_13 : decode cX0_isQuestion 13 = .ok (.goto 4, 3) := by decide +kernel
theorem dX0_isQuestion_16 : decode cX0_isQuestion 16 = .ok (.iconst 0, 1) := by decide +kernel
theorem dX0_isQuestion_17 : decode cX0_isQuestion 17 = .ok (.ireturn, 1) := by decide +kernel
theorem dX0_isPaper_0 : decode cX0_isPaper 0 = .ok (.iload_n 1, 1) := by decide +kernel
theorem dX0_isPaper_1 : decode cX0_isPaper 1 = .ok (.ifCond .lt 15, 3) := by decide +kernel
theorem dX0_isPaper_4 : decode cX0_isPaper 4 = .ok (.iload_n 1, 1) := by decide +kernel
theorem dX0_isPaper_5 : decode cX0_isPaper 5 = .ok (.aload_n 0, 1) := by decide +kernel
theorem dX0_isPaper_6 : decode cX0_isPaper 6 = .ok (.getfield 78, 3) := by decide +kernel
theorem dX0_isPaper_9 : decode cX0_isPaper 9 = .ok (.if_icmp .ge 7, 3) := by decide +kernel
theorem dX0_isPaper_12 : decode cX0_isPaper 12 = .ok (.iconst 1, 1) := by decide +kernel
theorem dX0_isPaper_13 : decode cX0_isPaper 13 = .ok (.goto 4, 3) := by decide +kernel
theorem dX0_isPaper_16 : decode cX0_isPaper 16 = .ok (.iconst 0, 1) := by decide +kernel
theorem dX0_isPaper_17 : decode cX0_isPaper 17 = .ok (.ireturn, 1) := by decide +kernel
theorem dX0_isPupil_0 : decode cX0_isPupil 0 = .ok (.iload_n 1, 1) := by decide +kernel
theorem dX0_isPupil_1 : decode cX0_isPupil 1 = .ok (.ifCond .lt 15, 3) := by decide +kernel
theorem dX0_isPupil_4 : decode cX0_isPupil 4 = .ok (.iload_n 1, 1) := by decide +kernel
theorem dX0_isPupil_5 : decode cX0_isPupil 5 = .ok (.aload_n 0, 1) := by decide +kernel
theorem dX0_isPupil_6 : decode cX0_isPupil 6 = .ok (.getfield 90, 3) := by decide +kernel
theorem dX0_isPupil_9 : decode cX0_isPupil 9 = .ok (.if_icmp .ge 7, 3) := by decide +kernel
theorem dX0_isPupil_12 : decode cX0_isPupil 12 = .ok (.iconst 1, 1) := by decide +kernel
theorem dX0_isPupil_13 : decode cX0_isPupil 13 = .ok (.goto 4, 3) := by decide +kernel
theorem dX0_isPupil_16 : decode cX0_isPupil 16 = .ok (.iconst 0, 1) := by decide +kernel
theorem dX0_isPupil_17 : decode cX0_isPupil 17 = .ok (.ireturn, 1) := by decide +kernel
theorem dX0_isPlace_0 : decode cX0_isPlace 0 = .ok (.iload_n 0, 1) := by decide +kernel
theorem dX0_isPlace_1 : decode cX0_isPlace 1 = .ok (.ifCond .lt 12, 3) := by decide +kernel
theorem dX0_isPlace_4 : decode cX0_isPlace 4 = .ok (.iload_n 0, 1) := by decide +kernel
theorem dX0_isPlace_5 : decode cX0_isPlace 5 = .ok (.iconst 4, 1) := by decide +kernel
theorem dX0_isPlace_6 : decode cX0_isPlace 6 = .ok (.if_icmp .ge 7, 3) := by decide +kernel
theorem dX0_isPlace_9 : decode cX0_isPlace 9 = .ok (.iconst 1, 1) := by decide +kernel
theorem dX0_isPlace_10 : decode cX0_isPlace 10 = .ok (.goto 4, 3) := by decide +kernel
theorem dX0_isPlace_13 : decode cX0_isPlace 13 = .ok (.iconst 0, 1) := by decide +kernel
theorem dX0_isPlace_14 : decode cX0_isPlace 14 = .ok (.ireturn, 1) := by decide +kernel
theorem dX0_isKey_0 : decode cX0_isKey 0 = .ok (.iload_n 0, 1) := by decide +kernel
theorem dX0_isKey_1 : decode cX0_isKey 1 = .ok (.iconst 1, 1) := by decide +kernel
theorem dX0_isKey_2 : decode cX0_isKey 2 = .ok (.if_icmp .lt 14, 3) := by decide +kernel
theorem dX0_isKey_5 : decode cX0_isKey 5 = .ok (.iload_n 0, 1) := by decide +kernel
theorem dX0_isKey_6 : decode cX0_isKey 6 = .ok (.sipush 255, 3) := by decide +kernel
theorem dX0_isKey_9 : decode cX0_isKey 9 = .ok (.if_icmp .gt 7, 3) := by decide +kernel
theorem dX0_isKey_12 : decode cX0_isKey 12 = .ok (.iconst 1, 1) := by decide +kernel
theorem dX0_isKey_13 : decode cX0_isKey 13 = .ok (.goto 4, 3) := by decide +kernel
theorem dX0_isKey_16 : decode cX0_isKey 16 = .ok (.iconst 0, 1) := by decide +kernel
theorem dX0_isKey_17 : decode cX0_isKey 17 = .ok (.ireturn, 1) := by decide +kernel
theorem dX0_isBar_0 : decode cX0_isBar 0 = .ok (.iload_n 0, 1) := by decide +kernel
theorem dX0_isBar_1 : decode cX0_isBar 1 = .ok (.iconst 1, 1) := by decide +kernel
theorem dX0_isBar_2 : decode cX0_isBar 2 = .ok (.if_icmp .lt 13, 3) := by decide +kernel
theorem dX0_isBar_5 : decode cX0_isBar 5 = .ok (.iload_n 0, 1) := by decide +kernel
theorem dX0_isBar_6 : decode cX0_isBar 6 = .ok (.bipush 100, 2) := by decide +kernel
theorem dX0_isBar_8 : decode cX0_isBar 8 = .ok (.if_icmp .gt 7, 3) := by decide +kernel
theorem dX0_isBar_11 : decode cX0_isBar 11 = .ok (.iconst 1, 1) := by decide +kernel
theorem dX0_isBar_12 : decode cX0_isBar 12 = .ok (.goto 4, 3) := by decide +kernel
theorem dX0_isBar_15 : decode cX0_isBar 15 = .ok (.iconst 0, 1) := by decide +kernel
theorem dX0_isBar_16 : decode cX0_isBar 16 = .ok (.ireturn, 1) := by decide +kernel
theorem dX0_isTotal_0 : decode cX0_isTotal 0 = .ok (.iload_n 0, 1) := by decide +kernel
theorem dX0_isTotal_1 : decode cX0_isTotal 1 = .ok (.ifCond .lt 13, 3) := by decide +kernel
theorem dX0_isTotal_4 : decode cX0_isTotal 4 = .ok (.iload_n 0, 1) := by decide +kernel
theorem dX0_isTotal_5 : decode cX0_isTotal 5 = .ok (.bipush 120, 2) := by decide +kernel
theorem dX0_isTotal_7 : decode cX0_isTotal 7 = .ok (.if_icmp .gt 7, 3) := by decide +kernel
theorem dX0_isTotal_10 : decode cX0_isTotal 10 = .ok (.iconst 1, 1) := by decide +kernel
theorem dX0_isTotal_11 : decode cX0_isTotal 11 = .ok (.goto 4, 3) := by decide +kernel
theorem dX0_isTotal_14 : decode cX0_isTotal 14 = .ok (.iconst 0, 1) := by decide +kernel
theorem dX0_isTotal_15 : decode cX0_isTotal 15 = .ok (.ireturn, 1) := by decide +kernel
theorem dX0_isPart_0 : decode cX0_isPart 0 = .ok (.iload_n 0, 1) := by decide +kernel
theorem dX0_isPart_1 : decode cX0_isPart 1 = .ok (.ifCond .eq 8, 3) := by decide +kernel
theorem dX0_isPart_4 : decode cX0_isPart 4 = .ok (.iload_n 0, 1) := by decide +kernel
theorem dX0_isPart_5 : decode cX0_isPart 5 = .ok (.iconst 1, 1) := by decide +kernel
theorem dX0_isPart_6 : decode cX0_isPart 6 = .ok (.if_icmp .ne 7, 3) := by decide +kernel
theorem dX0_isPart_9 : decode cX0_isPart 9 = .ok (.iconst 1, 1) := by decide +kernel
theorem dX0_isPart_10 : decode cX0_isPart 10 = .ok (.goto 4, 3) := by decide +kernel
theorem dX0_isPart_13 : decode cX0_isPart 13 = .ok (.iconst 0, 1) := by decide +kernel
theorem dX0_isPart_14 : decode cX0_isPart 14 = .ok (.ireturn, 1) := by decide +kernel
theorem dX0_isAnswer_0 : decode cX0_isAnswer 0 = .ok (.aload_n 0, 1) := by decide +kernel
theorem dX0_isAnswer_1 : decode cX0_isAnswer 1 = .ok (.getfield 15, 3) := by decide +kernel
theorem dX0_isAnswer_4 : decode cX0_isAnswer 4 = .ok (.iload_n 1, 1) := by decide +kernel
theorem dX0_isAnswer_5 : decode cX0_isAnswer 5 = .ok (.iaload, 1) := by decide +kernel
theorem dX0_isAnswer_6 : decode cX0_isAnswer 6 = .ok (.istore_n 3, 1) := by decide +kernel
theorem dX0_isAnswer_7 : decode cX0_isAnswer 7 = .ok (.aload_n 0, 1) := by decide +kernel
theorem dX0_isAnswer_8 : decode cX0_isAnswer 8 = .ok (.getfield 11, 3) := by decide +kernel
theorem dX0_isAnswer_11 : decode cX0_isAnswer 11 = .ok (.iload_n 1, 1) := by decide +kernel
theorem dX0_isAnswer_12 : decode cX0_isAnswer 12 = .ok (.iaload, 1) := by decide +kernel
theorem dX0_isAnswer_13 : decode cX0_isAnswer 13 = .ok (.iconst 1, 1) := by decide +kernel
theorem dX0_isAnswer_14 : decode cX0_isAnswer 14 = .ok (.if_icmp .ne 9, 3) := by decide +kernel
theorem dX0_isAnswer_17 : decode cX0_isAnswer 17 = .ok (.bipush 7, 2) := by decide +kernel
theorem dX0_isAnswer_19 : decode cX0_isAnswer 19 = .ok (.istore_n 3, 1) := by decide +kernel
theorem dX0_isAnswer_20 : decode cX0_isAnswer 20 = .ok (.goto 24, 3) := by decide +kernel
theorem dX0_isAnswer_23 : decode cX0_isAnswer 23 = .ok (.aload_n 0, 1) := by decide +kernel
theorem dX0_isAnswer_24 : decode cX0_isAnswer 24 = .ok (.getfield 11, 3) := by decide +kernel
theorem dX0_isAnswer_27 : decode cX0_isAnswer 27 = .ok (.iload_n 1, 1) := by decide +kernel
theorem dX0_isAnswer_28 : decode cX0_isAnswer 28 = .ok (.iaload, 1) := by decide +kernel
theorem dX0_isAnswer_29 : decode cX0_isAnswer 29 = .ok (.iconst 2, 1) := by decide +kernel
theorem dX0_isAnswer_30 : decode cX0_isAnswer 30 = .ok (.if_icmp .ne 14, 3) := by decide +kernel
theorem dX0_isAnswer_33 : decode cX0_isAnswer 33 = .ok (.iconst 1, 1) := by decide +kernel
theorem dX0_isAnswer_34 : decode cX0_isAnswer 34 = .ok (.aload_n 0, 1) := by decide +kernel
theorem dX0_isAnswer_35 : decode cX0_isAnswer 35 = .ok (.getfield 15, 3) := by decide +kernel
theorem dX0_isAnswer_38 : decode cX0_isAnswer 38 = .ok (.iload_n 1, 1) := by decide +kernel
theorem dX0_isAnswer_39 : decode cX0_isAnswer 39 = .ok (.iaload, 1) := by decide +kernel
theorem dX0_isAnswer_40 : decode cX0_isAnswer 40 = .ok (.ishl, 1) := by decide +kernel
theorem dX0_isAnswer_41 : decode cX0_isAnswer 41 = .ok (.iconst 1, 1) := by decide +kernel
theorem dX0_isAnswer_42 : decode cX0_isAnswer 42 = .ok (.isub, 1) := by decide +kernel
theorem dX0_isAnswer_43 : decode cX0_isAnswer 43 = .ok (.istore_n 3, 1) := by decide +kernel
theorem dX0_isAnswer_44 : decode cX0_isAnswer 44 = .ok (.iload_n 2, 1) := by decide +kernel
theorem dX0_isAnswer_45 : decode cX0_isAnswer 45 = .ok (.ifCond .lt 12, 3) := by decide +kernel
theorem dX0_isAnswer_48 : decode cX0_isAnswer 48 = .ok (.iload_n 2, 1) := by decide +kernel
theorem dX0_isAnswer_49 : decode cX0_isAnswer 49 = .ok (.iload_n 3, 1) := by decide +kernel
theorem dX0_isAnswer_50 : decode cX0_isAnswer 50 = .ok (.if_icmp .gt 7, 3) := by decide +kernel
theorem dX0_isAnswer_53 : decode cX0_isAnswer 53 = .ok (.iconst 1, 1) := by decide +kernel
theorem dX0_isAnswer_54 : decode cX0_isAnswer 54 = .ok (.goto 4, 3) := by decide +kernel
theorem dX0_isAnswer_57 : decode cX0_isAnswer 57 = .ok (.iconst 0, 1) := by decide +kernel
theorem dX0_isAnswer_58 : decode cX0_isAnswer 58 = .ok (.ireturn, 1) := by decide +kernel
theorem dX0_hasPupil_0 : decode cX0_hasPupil 0 = .ok (.iconst 0, 1) := by decide +kernel
theorem dX0_hasPupil_1 : decode cX0_hasPupil 1 = .ok (.istore_n 2, 1) := by decide +kernel
theorem dX0_hasPupil_2 : decode cX0_hasPupil 2 = .ok (.iload_n 2, 1) := by decide +kernel
theorem dX0_hasPupil_3 : decode cX0_hasPupil 3 = .ok (.aload_n 0, 1) := by decide +kernel
theorem dX0_hasPupil_4 : decode cX0_hasPupil 4 = .ok (.getfield 90, 3) := by decide +kernel
theorem dX0_hasPupil_7 : decode cX0_hasPupil 7 = .ok (.if_icmp .ge 21, 3) := by decide +kernel
theorem dX0_hasPupil_10 : decode cX0_hasPupil 10 = .ok (.aload_n 0, 1) := by decide +kernel
theorem dX0_hasPupil_11 : decode cX0_hasPupil 11 = .ok (.getfield 30, 3) := by decide +kernel
theorem dX0_hasPupil_14 : decode cX0_hasPupil 14 = .ok (.iload_n 2, 1) := by decide +kernel
theorem dX0_hasPupil_15 : decode cX0_hasPupil 15 = .ok (.iaload, 1) := by decide +kernel
theorem dX0_hasPupil_16 : decode cX0_hasPupil 16 = .ok (.iload_n 1, 1) := by decide +kernel
theorem dX0_hasPupil_17 : decode cX0_hasPupil 17 = .ok (.if_icmp .ne 5, 3) := by decide +kernel
theorem dX0_hasPupil_20 : decode cX0_hasPupil 20 = .ok (.iconst 1, 1) := by decide +kernel
theorem dX0_hasPupil_21 : decode cX0_hasPupil 21 = .ok (.ireturn, 1) := by decide +kernel
theorem dX0_hasPupil_22 : decode cX0_hasPupil 22 = .ok (.iinc 2 1, 3) := by decide +kernel
theorem dX0_hasPupil_25 : decode cX0_hasPupil 25 = .ok (.goto (-23), 3) := by decide +kernel
theorem dX0_hasPupil_28 : decode cX0_hasPupil 28 = .ok (.iconst 0, 1) := by decide +kernel
theorem dX0_hasPupil_29 : decode cX0_hasPupil 29 = .ok (.ireturn, 1) := by decide +kernel
theorem dX0_isIn_0 : decode cX0_isIn 0 = .ok (.iload_n 0, 1) := by decide +kernel
theorem dX0_isIn_1 : decode cX0_isIn 1 = .ok (.iload_n 1, 1) := by decide +kernel
theorem dX0_isIn_2 : decode cX0_isIn 2 = .ok (.ishr, 1) := by decide +kernel
theorem dX0_isIn_3 : decode cX0_isIn 3 = .ok (.iconst 1, 1) := by decide +kernel
theorem dX0_isIn_4 : decode cX0_isIn 4 = .ok (.iand, 1) := by decide +kernel
theorem dX0_isIn_5 : decode cX0_isIn 5 = .ok (.iconst 1, 1) := by decide +kernel
theorem dX0_isIn_6 : decode cX0_isIn 6 = .ok (.if_icmp .ne 7, 3) := by decide +kernel
theorem dX0_isIn_9 : decode cX0_isIn 9 = .ok (.iconst 1, 1) := by decide +kernel
theorem dX0_isIn_10 : decode cX0_isIn 10 = .ok (.goto 4, 3) := by decide +kernel
theorem dX0_isIn_13 : decode cX0_isIn 13 = .ok (.iconst 0, 1) := by decide +kernel
theorem dX0_isIn_14 : decode cX0_isIn 14 = .ok (.ireturn, 1) := by decide +kernel
theorem dX0_countingSet_0 : decode cX0_countingSet 0 = .ok (.aload_n 0, 1) := by decide +kernel
theorem dX0_countingSet_1 : decode cX0_countingSet 1 = .ok (.getfield 71, 3) := by decide +kernel
theorem dX0_countingSet_4 : decode cX0_countingSet 4 = .ok (.aload_n 0, 1) := by decide +kernel
theorem dX0_countingSet_5 : decode cX0_countingSet 5 = .ok (.getfield 65, 3) := by decide +kernel
theorem dX0_countingSet_8 : decode cX0_countingSet 8 = .ok (.ior, 1) := by decide +kernel
theorem dX0_countingSet_9 : decode cX0_countingSet 9 = .ok (.iconst (-1), 1) := by decide +kernel
theorem dX0_countingSet_10 : decode cX0_countingSet 10 = .ok (.ixor, 1) := by decide +kernel
theorem dX0_countingSet_11 : decode cX0_countingSet 11 = .ok (.ireturn, 1) := by decide +kernel
theorem dX0_sharedSet_0 : decode cX0_sharedSet 0 = .ok (.aload_n 0, 1) := by decide +kernel
theorem dX0_sharedSet_1 : decode cX0_sharedSet 1 = .ok (.getfield 24, 3) := by decide +kernel
theorem dX0_sharedSet_4 : decode cX0_sharedSet 4 = .ok (.iload_n 1, 1) := by decide +kernel
theorem dX0_sharedSet_5 : decode cX0_sharedSet 5 = .ok (.iaload, 1) := by decide +kernel
theorem dX0_sharedSet_6 : decode cX0_sharedSet 6 = .ok (.aload_n 0, 1) := by decide +kernel
theorem dX0_sharedSet_7 : decode cX0_sharedSet 7 = .ok (.getfield 24, 3) := by decide +kernel
theorem dX0_sharedSet_10 : decode cX0_sharedSet 10 = .ok (.iload_n 2, 1) := by decide +kernel
theorem dX0_sharedSet_11 : decode cX0_sharedSet 11 = .ok (.iaload, 1) := by decide +kernel
theorem dX0_sharedSet_12 : decode cX0_sharedSet 12 = .ok (.iand, 1) := by decide +kernel
theorem dX0_sharedSet_13 : decode cX0_sharedSet 13 = .ok (.aload_n 0, 1) := by decide +kernel
theorem dX0_sharedSet_14 : decode cX0_sharedSet 14 = .ok (.invokevirtual 117, 3) := by decide +kernel
theorem dX0_sharedSet_17 : decode cX0_sharedSet 17 = .ok (.iand, 1) := by decide +kernel
theorem dX0_sharedSet_18 : decode cX0_sharedSet 18 = .ok (.ireturn, 1) := by decide +kernel
theorem dX0_spotOf_0 : decode cX0_spotOf 0 = .ok (.aload_n 0, 1) := by decide +kernel
theorem dX0_spotOf_1 : decode cX0_spotOf 1 = .ok (.getfield 24, 3) := by decide +kernel
theorem dX0_spotOf_4 : decode cX0_spotOf 4 = .ok (.iload_n 1, 1) := by decide +kernel
theorem dX0_spotOf_5 : decode cX0_spotOf 5 = .ok (.iaload, 1) := by decide +kernel
theorem dX0_spotOf_6 : decode cX0_spotOf 6 = .ok (.iload_n 2, 1) := by decide +kernel
theorem dX0_spotOf_7 : decode cX0_spotOf 7 = .ok (.invokestatic 74, 3) := by decide +kernel
theorem dX0_spotOf_10 : decode cX0_spotOf 10 = .ok (.ifCond .ne 5, 3) := by decide +kernel
theorem dX0_spotOf_13 : decode cX0_spotOf 13 = .ok (.iconst (-1), 1) := by decide +kernel
theorem dX0_spotOf_14 : decode cX0_spotOf 14 = .ok (.ireturn, 1) := by decide +kernel
theorem dX0_spotOf_15 : decode cX0_spotOf 15 = .ok (.iconst 0, 1) := by decide +kernel
theorem dX0_spotOf_16 : decode cX0_spotOf 16 = .ok (.istore_n 3, 1) := by decide +kernel
theorem dX0_spotOf_17 : decode cX0_spotOf 17 = .ok (.iload_n 3, 1) := by decide +kernel
theorem dX0_spotOf_18 : decode cX0_spotOf 18 = .ok (.aload_n 0, 1) := by decide +kernel
theorem dX0_spotOf_19 : decode cX0_spotOf 19 = .ok (.getfield 21, 3) := by decide +kernel
theorem dX0_spotOf_22 : decode cX0_spotOf 22 = .ok (.iload_n 1, 1) := by decide +kernel
theorem dX0_spotOf_23 : decode cX0_spotOf 23 = .ok (.iaload, 1) := by decide +kernel
theorem dX0_spotOf_24 : decode cX0_spotOf 24 = .ok (.if_icmp .ge 26, 3) := by decide +kernel
theorem dX0_spotOf_27 : decode cX0_spotOf 27 = .ok (.aload_n 0, 1) := by decide +kernel
theorem dX0_spotOf_28 : decode cX0_spotOf 28 = .ok (.getfield 27, 3) := by decide +kernel
theorem dX0_spotOf_31 : decode cX0_spotOf 31 = .ok (.iload_n 1, 1) := by decide +kernel
theorem dX0_spotOf_32 : decode cX0_spotOf 32 = .ok (.bipush 12, 2) := by decide +kernel
theorem dX0_spotOf_34 : decode cX0_spotOf 34 = .ok (.imul, 1) := by decide +kernel
theorem dX0_spotOf_35 : decode cX0_spotOf 35 = .ok (.iload_n 3, 1) := by decide +kernel
theorem dX0_spotOf_36 : decode cX0_spotOf 36 = .ok (.iadd, 1) := by decide +kernel
theorem dX0_spotOf_37 : decode cX0_spotOf 37 = .ok (.iaload, 1) := by decide +kernel
theorem dX0_spotOf_38 : decode cX0_spotOf 38 = .ok (.iload_n 2, 1) := by decide +kernel
theorem dX0_spotOf_39 : decode cX0_spotOf 39 = .ok (.if_icmp .ne 5, 3) := by decide +kernel
theorem dX0_spotOf_42 : decode cX0_spotOf 42 = .ok (.iload_n 3, 1) := by decide +kernel
theorem dX0_spotOf_43 : decode cX0_spotOf 43 = .ok (.ireturn, 1) := by decide +kernel
theorem dX0_spotOf_44 : decode cX0_spotOf 44 = .ok (.iinc 3 1, 3) := by decide +kernel
theorem dX0_spotOf_47 : decode cX0_spotOf 47 = .ok (.goto (-30), 3) := by decide +kernel
theorem dX0_spotOf_50 : decode cX0_spotOf 50 = .ok (.iconst (-1), 1) := by decide +kernel
theorem dX0_spotOf_51 : decode cX0_spotOf 51 = .ok (.ireturn, 1) := by decide +kernel
theorem dX0_spotFor_0 : decode cX0_spotFor 0 = .ok (.aload_n 0, 1) := by decide +kernel
theorem dX0_spotFor_1 : decode cX0_spotFor 1 = .ok (.iload_n 1, 1) := by decide +kernel
theorem dX0_spotFor_2 : decode cX0_spotFor 2 = .ok (.invokevirtual 103, 3) := by decide +kernel
theorem dX0_spotFor_5 : decode cX0_spotFor 5 = .ok (.ifCond .eq 11, 3) := by decide +kernel
theorem dX0_spotFor_8 : decode cX0_spotFor 8 = .ok (.aload_n 0, 1) := by decide +kernel
theorem dX0_spotFor_9 : decode cX0_spotFor 9 = .ok (.iload_n 2, 1) := by decide +kernel
theorem dX0_spotFor_10 : decode cX0_spotFor 10 = .ok (.invokevirtual 68, 3) := by decide +kernel
theorem dX0_spotFor_13 : decode cX0_spotFor 13 = .ok (.ifCond .ne 5, 3) := by decide +kernel
theorem dX0_spotFor_16 : decode cX0_spotFor 16 = .ok (.iconst (-1), 1) := by decide +kernel
theorem dX0_spotFor_17 : decode cX0_spotFor 17 = .ok (.ireturn, 1) := by decide +kernel
theorem dX0_spotFor_18 : decode cX0_spotFor 18 = .ok (.aload_n 0, 1) := by decide +kernel
theorem dX0_spotFor_19 : decode cX0_spotFor 19 = .ok (.aload_n 0, 1) := by decide +kernel
theorem dX0_spotFor_20 : decode cX0_spotFor 20 = .ok (.getfield 30, 3) := by decide +kernel
theorem dX0_spotFor_23 : decode cX0_spotFor 23 = .ok (.iload_n 1, 1) := by decide +kernel
theorem dX0_spotFor_24 : decode cX0_spotFor 24 = .ok (.iaload, 1) := by decide +kernel
theorem dX0_spotFor_25 : decode cX0_spotFor 25 = .ok (.iload_n 2, 1) := by decide +kernel
theorem dX0_spotFor_26 : decode cX0_spotFor 26 = .ok (.invokevirtual 178, 3) := by decide +kernel
theorem dX0_spotFor_29 : decode cX0_spotFor 29 = .ok (.ireturn, 1) := by decide +kernel
theorem dX0_worth_0 : decode cX0_worth 0 = .ok (.aload_n 0, 1) := by decide +kernel
theorem dX0_worth_1 : decode cX0_worth 1 = .ok (.getfield 11, 3) := by decide +kernel
theorem dX0_worth_4 : decode cX0_worth 4 = .ok (.iload_n 1, 1) := by decide +kernel
theorem dX0_worth_5 : decode cX0_worth 5 = .ok (.iaload, 1) := by decide +kernel
theorem dX0_worth_6 : decode cX0_worth 6 = .ok (.iconst 1, 1) := by decide +kernel
theorem dX0_worth_7 : decode cX0_worth 7 = .ok (.if_icmp .ne 27, 3) := by decide +kernel
theorem dX0_worth_10 : decode cX0_worth 10 = .ok (.aload_n 0, 1) := by decide +kernel
theorem dX0_worth_11 : decode cX0_worth 11 = .ok (.getfield 18, 3) := by decide +kernel
theorem dX0_worth_14 : decode cX0_worth 14 = .ok (.iload_n 1, 1) := by decide +kernel
theorem dX0_worth_15 : decode cX0_worth 15 = .ok (.iaload, 1) := by decide +kernel
theorem dX0_worth_16 : decode cX0_worth 16 = .ok (.iload_n 2, 1) := by decide +kernel
theorem dX0_worth_17 : decode cX0_worth 17 = .ok (.invokestatic 74, 3) := by decide +kernel
theorem dX0_worth_20 : decode cX0_worth 20 = .ok (.ifCond .eq 12, 3) := by decide +kernel
theorem dX0_worth_23 : decode cX0_worth 23 = .ok (.aload_n 0, 1) := by decide +kernel
theorem dX0_worth_24 : decode cX0_worth 24 = .ok (.getfield 15, 3) := by decide +kernel
theorem dX0_worth_27 : decode cX0_worth 27 = .ok (.iload_n 1, 1) := by decide +kernel
theorem dX0_worth_28 : decode cX0_worth 28 = .ok (.iaload, 1) := by decide +kernel
theorem dX0_worth_29 : decode cX0_worth 29 = .ok (.goto 4, 3) := by decide +kernel
theorem dX0_worth_32 : decode cX0_worth 32 = .ok (.iconst 0, 1) := by decide +kernel
theorem dX0_worth_33 : decode cX0_worth 33 = .ok (.ireturn, 1) := by decide +kernel
theorem dX0_worth_34 : decode cX0_worth 34 = .ok (.aload_n 0, 1) := by decide +kernel
theorem dX0_worth_35 : decode cX0_worth 35 = .ok (.getfield 11, 3) := by decide +kernel
theorem dX0_worth_38 : decode cX0_worth 38 = .ok (.iload_n 1, 1) := by decide +kernel
theorem dX0_worth_39 : decode cX0_worth 39 = .ok (.iaload, 1) := by decide +kernel
theorem dX0_worth_40 : decode cX0_worth 40 = .ok (.iconst 2, 1) := by decide +kernel
theorem dX0_worth_41 : decode cX0_worth 41 = .ok (.if_icmp .ne 10, 3) := by decide +kernel
theorem dX0_worth_44 : decode cX0_worth 44 = .ok (.iload_n 2, 1) := by decide +kernel
theorem dX0_worth_45 : decode cX0_worth 45 = .ok (.invokestatic 206, 3) := by decide +kernel
theorem dX0_worth_48 : decode cX0_worth 48 = .ok (.goto 4, 3) := by decide +kernel
theorem dX0_worth_51 : decode cX0_worth 51 = .ok (.iload_n 2, 1) := by decide +kernel
theorem dX0_worth_52 : decode cX0_worth 52 = .ok (.ireturn, 1) := by decide +kernel
theorem dX0_stepsInRow_0 : decode cX0_stepsInRow 0 = .ok (.iconst 0, 1) := by decide +kernel
theorem dX0_stepsInRow_1 : decode cX0_stepsInRow 1 = .ok (.istore_n 1, 1) := by decide +kernel
theorem dX0_stepsInRow_2 : decode cX0_stepsInRow 2 = .ok (.iload_n 1, 1) := by decide +kernel
theorem dX0_stepsInRow_3 : decode cX0_stepsInRow 3 = .ok (.bipush 10, 2) := by decide +kernel
theorem dX0_stepsInRow_5 : decode cX0_stepsInRow 5 = .ok (.if_icmp .ge 18, 3) := by decide +kernel
theorem dX0_stepsInRow_8 : decode cX0_stepsInRow 8 = .ok (.iload_n 0, 1) := by decide +kernel
theorem dX0_stepsInRow_9 : decode cX0_stepsInRow 9 = .ok (.iload_n 1, 1) := by decide +kernel
theorem dX0_stepsInRow_10 : decode cX0_stepsInRow 10 = .ok (.ishr, 1) := by decide +kernel
theorem dX0_stepsInRow_11 : decode cX0_stepsInRow 11 = .ok (.iconst 1, 1) := by decide +kernel
theorem dX0_stepsInRow_12 : decode cX0_stepsInRow 12 = .ok (.iand, 1) := by decide +kernel
theorem dX0_stepsInRow_13 : decode cX0_stepsInRow 13 = .ok (.iconst 1, 1) := by decide +kernel
theorem dX0_stepsInRow_14 : decode cX0_stepsInRow 14 = .ok (.if_icmp .ne 9, 3) := by decide +kernel
theorem dX0_stepsInRow_17 : decode cX0_stepsInRow 17 = .ok (.iinc 1 1, 3) := by decide +kernel
theorem dX0_stepsInRow_20 : decode cX0_stepsInRow 20 = .ok (.goto (-18), 3) := by decide +kernel
theorem dX0_stepsInRow_23 : decode cX0_stepsInRow 23 = .ok (.iload_n 1, 1) := by decide +kernel
theorem dX0_stepsInRow_24 : decode cX0_stepsInRow 24 = .ok (.ireturn, 1) := by decide +kernel
theorem dX0_markAt_0 : decode cX0_markAt 0 = .ok (.aload_n 0, 1) := by decide +kernel
theorem dX0_markAt_1 : decode cX0_markAt 1 = .ok (.getfield 36, 3) := by decide +kernel
theorem dX0_markAt_4 : decode cX0_markAt 4 = .ok (.iload_n 1, 1) := by decide +kernel
theorem dX0_markAt_5 : decode cX0_markAt 5 = .ok (.bipush 12, 2) := by decide +kernel
theorem dX0_markAt_7 : decode cX0_markAt 7 = .ok (.imul, 1) := by decide +kernel
theorem dX0_markAt_8 : decode cX0_markAt 8 = .ok (.iload_n 2, 1) := by decide +kernel
theorem dX0_markAt_9 : decode cX0_markAt 9 = .ok (.iadd, 1) := by decide +kernel
theorem dX0_markAt_10 : decode cX0_markAt 10 = .ok (.iaload, 1) := by decide +kernel
theorem dX0_markAt_11 : decode cX0_markAt 11 = .ok (.istore_n 3, 1) := by decide +kernel
theorem dX0_markAt_12 : decode cX0_markAt 12 = .ok (.iload_n 3, 1) := by decide +kernel
theorem dX0_markAt_13 : decode cX0_markAt 13 = .ok (.iconst (-1), 1) := by decide +kernel
theorem dX0_markAt_14 : decode cX0_markAt 14 = .ok (.if_icmp .ne 7, 3) := by decide +kernel
theorem dX0_markAt_17 : decode cX0_markAt 17 = .ok (.iconst 0, 1) := by decide +kernel
theorem dX0_markAt_18 : decode cX0_markAt 18 = .ok (.goto 24, 3) := by decide +kernel
theorem dX0_markAt_21 : decode cX0_markAt 21 = .ok (.aload_n 0, 1) := by decide +kernel
theorem dX0_markAt_22 : decode cX0_markAt 22 = .ok (.aload_n 0, 1) := by decide +kernel
theorem dX0_markAt_23 : decode cX0_markAt 23 = .ok (.getfield 27, 3) := by decide +kernel
theorem dX0_markAt_26 : decode cX0_markAt 26 = .ok (.aload_n 0, 1) := by decide +kernel
theorem dX0_markAt_27 : decode cX0_markAt 27 = .ok (.getfield 30, 3) := by decide +kernel
theorem dX0_markAt_30 : decode cX0_markAt 30 = .ok (.iload_n 1, 1) := by decide +kernel
theorem dX0_markAt_31 : decode cX0_markAt 31 = .ok (.iaload, 1) := by decide +kernel
theorem dX0_markAt_32 : decode cX0_markAt 32 = .ok (.bipush 12, 2) := by decide +kernel
theorem dX0_markAt_34 : decode cX0_markAt 34 = .ok (.imul, 1) := by decide +kernel
theorem dX0_markAt_35 : decode cX0_markAt 35 = .ok (.iload_n 2, 1) := by decide +kernel
theorem dX0_markAt_36 : decode cX0_markAt 36 = .ok (.iadd, 1) := by decide +kernel
theorem dX0_markAt_37 : decode cX0_markAt 37 = .ok (.iaload, 1) := by decide +kernel
theorem dX0_markAt_38 : decode cX0_markAt 38 = .ok (.iload_n 3, 1) := by decide +kernel
theorem dX0_markAt_39 : decode cX0_markAt 39 = .ok (.invokevirtual 100, 3) := by decide +kernel
theorem dX0_markAt_42 : decode cX0_markAt 42 = .ok (.ireturn, 1) := by decide +kernel
theorem dX0_hasComeTo_0 : decode cX0_hasComeTo 0 = .ok (.aload_n 0, 1) := by decide +kernel
theorem dX0_hasComeTo_1 : decode cX0_hasComeTo 1 = .ok (.getfield 21, 3) := by decide +kernel
theorem dX0_hasComeTo_4 : decode cX0_hasComeTo 4 = .ok (.aload_n 0, 1) := by decide +kernel
theorem dX0_hasComeTo_5 : decode cX0_hasComeTo 5 = .ok (.getfield 30, 3) := by decide +kernel
theorem dX0_hasComeTo_8 : decode cX0_hasComeTo 8 = .ok (.iload_n 1, 1) := by decide +kernel
theorem dX0_hasComeTo_9 : decode cX0_hasComeTo 9 = .ok (.iaload, 1) := by decide +kernel
theorem dX0_hasComeTo_10 : decode cX0_hasComeTo 10 = .ok (.iaload, 1) := by decide +kernel
theorem dX0_hasComeTo_11 : decode cX0_hasComeTo 11 = .ok (.istore_n 3, 1) := by decide +kernel
theorem dX0_hasComeTo_12 : decode cX0_hasComeTo 12 = .ok (.iload_n 2, 1) := by decide +kernel
theorem dX0_hasComeTo_13 : decode cX0_hasComeTo 13 = .ok (.istore 4, 2) := by decide +kernel
theorem dX0_hasComeTo_15 : decode cX0_hasComeTo 15 = .ok (.iload 4, 2) := by decide +kernel
theorem dX0_hasComeTo_17 : decode cX0_hasComeTo 17 = .ok (.iload_n 3, 1) := by decide +kernel
theorem dX0_hasComeTo_18 : decode cX0_hasComeTo 18 = .ok (.if_icmp .ge 27, 3) := by decide +kernel
theorem dX0_hasComeTo_21 : decode cX0_hasComeTo 21 = .ok (.aload_n 0, 1) := by decide +kernel
theorem dX0_hasComeTo_22 : decode cX0_hasComeTo 22 = .ok (.getfield 36, 3) := by decide +kernel
theorem dX0_hasComeTo_25 : decode cX0_hasComeTo 25 = .ok (.iload_n 1, 1) := by decide +kernel
theorem dX0_hasComeTo_26 : decode cX0_hasComeTo 26 = .ok (.bipush 12, 2) := by decide +kernel
theorem dX0_hasComeTo_28 : decode cX0_hasComeTo 28 = .ok (.imul, 1) := by decide +kernel
theorem dX0_hasComeTo_29 : decode cX0_hasComeTo 29 = .ok (.iload 4, 2) := by decide +kernel
theorem dX0_hasComeTo_31 : decode cX0_hasComeTo 31 = .ok (.iadd, 1) := by decide +kernel
theorem dX0_hasComeTo_32 : decode cX0_hasComeTo 32 = .ok (.iaload, 1) := by decide +kernel
theorem dX0_hasComeTo_33 : decode cX0_hasComeTo 33 = .ok (.iconst (-1), 1) := by decide +kernel
theorem dX0_hasComeTo_34 : decode cX0_hasComeTo 34 = .ok (.if_icmp .eq 5, 3) := by decide +kernel
theorem dX0_hasComeTo_37 : decode cX0_hasComeTo 37 = .ok (.iconst 1, 1) := by decide +kernel
theorem dX0_hasComeTo_38 : decode cX0_hasComeTo 38 = .ok (.ireturn, 1) := by decide +kernel
theorem dX0_hasComeTo_39 : decode cX0_hasComeTo 39 = .ok (.iinc 4 1, 3) := by decide +kernel
theorem dX0_hasComeTo_42 : decode cX0_hasComeTo 42 = .ok (.goto (-27), 3) := by decide +kernel
theorem dX0_hasComeTo_45 : decode cX0_hasComeTo 45 = .ok (.iconst 0, 1) := by decide +kernel
theorem dX0_hasComeTo_46 : decode cX0_hasComeTo 46 = .ok (.ireturn, 1) := by decide +kernel
theorem dX0_spotComeTo_0 : decode cX0_spotComeTo 0 = .ok (.aload_n 0, 1) := by decide +kernel
theorem dX0_spotComeTo_1 : decode cX0_spotComeTo 1 = .ok (.iload_n 1, 1) := by decide +kernel
theorem dX0_spotComeTo_2 : decode cX0_spotComeTo 2 = .ok (.iload_n 2, 1) := by decide +kernel
theorem dX0_spotComeTo_3 : decode cX0_spotComeTo 3 = .ok (.invokevirtual 93, 3) := by decide +kernel
theorem dX0_spotComeTo_6 : decode cX0_spotComeTo 6 = .ok (.istore_n 3, 1) := by decide +kernel
theorem dX0_spotComeTo_7 : decode cX0_spotComeTo 7 = .ok (.iload_n 3, 1) := by decide +kernel
theorem dX0_spotComeTo_8 : decode cX0_spotComeTo 8 = .ok (.iconst (-1), 1) := by decide +kernel
theorem dX0_spotComeTo_9 : decode cX0_spotComeTo 9 = .ok (.if_icmp .eq 16, 3) := by decide +kernel
theorem dX0_spotComeTo_12 : decode cX0_spotComeTo 12 = .ok (.aload_n 0, 1) := by decide +kernel
theorem dX0_spotComeTo_13 : decode cX0_spotComeTo 13 = .ok (.iload_n 1, 1) := by decide +kernel
theorem dX0_spotComeTo_14 : decode cX0_spotComeTo 14 = .ok (.iload_n 3, 1) := by decide +kernel
theorem dX0_spotComeTo_15 : decode cX0_spotComeTo 15 = .ok (.invokevirtual 114, 3) := by decide +kernel
theorem dX0_spotComeTo_18 : decode cX0_spotComeTo 18 = .ok (.ifCond .eq 7, 3) := by decide +kernel
theorem dX0_spotComeTo_21 : decode cX0_spotComeTo 21 = .ok (.iload_n 3, 1) := by decide +kernel
theorem dX0_spotComeTo_22 : decode cX0_spotComeTo 22 = .ok (.goto 4, 3) := by decide +kernel
theorem dX0_spotComeTo_25 : decode cX0_spotComeTo 25 = .ok (.iconst (-1), 1) := by decide +kernel
theorem dX0_spotComeTo_26 : decode cX0_spotComeTo 26 = .ok (.ireturn, 1) := by decide +kernel
theorem dX0_sumOver_0 : decode cX0_sumOver 0 = .ok (.aload_n 0, 1) := by decide +kernel
theorem dX0_sumOver_1 : decode cX0_sumOver 1 = .ok (.getfield 30, 3) := by decide +kernel
theorem dX0_sumOver_4 : decode cX0_sumOver 4 = .ok (.iload_n 1, 1) := by decide +kernel
theorem dX0_sumOver_5 : decode cX0_sumOver 5 = .ok (.iaload, 1) := by decide +kernel
theorem dX0_sumOver_6 : decode cX0_sumOver 6 = .ok (.istore_n 3, 1) := by decide +kernel
theorem dX0_sumOver_7 : decode cX0_sumOver 7 = .ok (.iconst 0, 1) := by decide +kernel
theorem dX0_sumOver_8 : decode cX0_sumOver 8 = .ok (.istore 4, 2) := by decide +kernel
theorem dX0_sumOver_10 : decode cX0_sumOver 10 = .ok (.iconst 0, 1) := by decide +kernel
theorem dX0_sumOver_11 : decode cX0_sumOver 11 = .ok (.istore 5, 2) := by decide +kernel
theorem dX0_sumOver_13 : decode cX0_sumOver 13 = .ok (.iload 5, 2) := by decide +kernel
theorem dX0_sumOver_15 : decode cX0_sumOver 15 = .ok (.aload_n 0, 1) := by decide +kernel
theorem dX0_sumOver_16 : decode cX0_sumOver 16 = .ok (.getfield 21, 3) := by decide +kernel
theorem dX0_sumOver_19 : decode cX0_sumOver 19 = .ok (.iload_n 3, 1) := by decide +kernel
theorem dX0_sumOver_20 : decode cX0_sumOver 20 = .ok (.iaload, 1) := by decide +kernel
theorem dX0_sumOver_21 : decode cX0_sumOver 21 = .ok (.if_icmp .ge 40, 3) := by decide +kernel
theorem dX0_sumOver_24 : decode cX0_sumOver 24 = .ok (.iload_n 2, 1) := by decide +kernel
theorem dX0_sumOver_25 : decode cX0_sumOver 25 = .ok (.aload_n 0, 1) := by decide +kernel
theorem dX0_sumOver_26 : decode cX0_sumOver 26 = .ok (.getfield 27, 3) := by decide +kernel
theorem dX0_sumOver_29 : decode cX0_sumOver 29 = .ok (.iload_n 3, 1) := by decide +kernel
theorem dX0_sumOver_30 : decode cX0_sumOver 30 = .ok (.bipush 12, 2) := by decide +kernel
theorem dX0_sumOver_32 : decode cX0_sumOver 32 = .ok (.imul, 1) := by decide +kernel
theorem dX0_sumOver_33 : decode cX0_sumOver 33 = .ok (.iload 5, 2) := by decide +kernel
theorem dX0_sumOver_35 : decode cX0_sumOver 35 = .ok (.iadd, 1) := by decide +kernel
theorem dX0_sumOver_36 : decode cX0_sumOver 36 = .ok (.iaload, 1) := by decide +kernel
theorem dX0_sumOver_37 : decode cX0_sumOver 37 = .ok (.invokestatic 74, 3) := by decide +kernel
theorem dX0_sumOver_40 : decode cX0_sumOver 40 = .ok (.ifCond .eq 15, 3) := by decide +kernel
theorem dX0_sumOver_43 : decode cX0_sumOver 43 = .ok (.iload 4, 2) := by decide +kernel
theorem dX0_sumOver_45 : decode cX0_sumOver 45 = .ok (.aload_n 0, 1) := by decide +kernel
theorem dX0_sumOver_46 : decode cX0_sumOver 46 = .ok (.iload_n 1, 1) := by decide +kernel
theorem dX0_sumOver_47 : decode cX0_sumOver 47 = .ok (.iload 5, 2) := by decide +kernel
theorem dX0_sumOver_49 : decode cX0_sumOver 49 = .ok (.invokevirtual 111, 3) := by decide +kernel
theorem dX0_sumOver_52 : decode cX0_sumOver 52 = .ok (.iadd, 1) := by decide +kernel
theorem dX0_sumOver_53 : decode cX0_sumOver 53 = .ok (.istore 4, 2) := by decide +kernel
theorem dX0_sumOver_55 : decode cX0_sumOver 55 = .ok (.iinc 5 1, 3) := by decide +kernel
theorem dX0_sumOver_58 : decode cX0_sumOver 58 = .ok (.goto (-45), 3) := by decide +kernel
theorem dX0_sumOver_61 : decode cX0_sumOver 61 = .ok (.iload 4, 2) := by decide +kernel
theorem dX0_sumOver_63 : decode cX0_sumOver 63 = .ok (.ireturn, 1) := by decide +kernel
theorem dX0_tallyPlaces_0 : decode cX0_tallyPlaces 0 = .ok (.aload_n 0, 1) := by decide +kernel
theorem dX0_tallyPlaces_1 : decode cX0_tallyPlaces 1 = .ok (.getfield 45, 3) := by decide +kernel
theorem dX0_tallyPlaces_4 : decode cX0_tallyPlaces 4 = .ok (.iconst 0, 1) := by decide +kernel
theorem dX0_tallyPlaces_5 : decode cX0_tallyPlaces 5 = .ok (.invokestatic 51, 3) := by decide +kernel
theorem dX0_tallyPlaces_8 : decode cX0_tallyPlaces 8 = .ok (.aload_n 0, 1) := by decide +kernel
theorem dX0_tallyPlaces_9 : decode cX0_tallyPlaces 9 = .ok (.getfield 48, 3) := by decide +kernel
theorem dX0_tallyPlaces_12 : decode cX0_tallyPlaces 12 = .ok (.iconst 0, 1) := by decide +kernel
theorem dX0_tallyPlaces_13 : decode cX0_tallyPlaces 13 = .ok (.invokestatic 51, 3) := by decide +kernel
theorem dX0_tallyPlaces_16 : decode cX0_tallyPlaces 16 = .ok (.iconst 0, 1) := by decide +kernel
theorem dX0_tallyPlaces_17 : decode cX0_tallyPlaces 17 = .ok (.istore_n 2, 1) := by decide +kernel
theorem dX0_tallyPlaces_18 : decode cX0_tallyPlaces 18 = .ok (.iload_n 2, 1) := by decide +kernel
theorem dX0_tallyPlaces_19 : decode cX0_tallyPlaces 19 = .ok (.aload_n 0, 1) := by decide +kernel
theorem dX0_tallyPlaces_20 : decode cX0_tallyPlaces 20 = .ok (.getfield 90, 3) := by decide +kernel
theorem dX0_tallyPlaces_23 : decode cX0_tallyPlaces 23 = .ok (.if_icmp .ge 66, 3) := by decide +kernel
theorem dX0_tallyPlaces_26 : decode cX0_tallyPlaces 26 = .ok (.aload_n 0, 1) := by decide +kernel
theorem dX0_tallyPlaces_27 : decode cX0_tallyPlaces 27 = .ok (.iload_n 2, 1) := by decide +kernel
theorem dX0_tallyPlaces_28 : decode cX0_tallyPlaces 28 = .ok (.iload_n 1, 1) := by decide +kernel
theorem dX0_tallyPlaces_29 : decode cX0_tallyPlaces 29 = .ok (.invokevirtual 129, 3) := by decide +kernel
theorem dX0_tallyPlaces_32 : decode cX0_tallyPlaces 32 = .ok (.istore_n 3, 1) := by decide +kernel
theorem dX0_tallyPlaces_33 : decode cX0_tallyPlaces 33 = .ok (.iload_n 3, 1) := by decide +kernel
theorem dX0_tallyPlaces_34 : decode cX0_tallyPlaces 34 = .ok (.iconst (-1), 1) := by decide +kernel
theorem dX0_tallyPlaces_35 : decode cX0_tallyPlaces 35 = .ok (.if_icmp .eq 48, 3) := by decide +kernel
theorem dX0_tallyPlaces_38 : decode cX0_tallyPlaces 38 = .ok (.aload_n 0, 1) := by decide +kernel
theorem dX0_tallyPlaces_39 : decode cX0_tallyPlaces 39 = .ok (.getfield 45, 3) := by decide +kernel
theorem dX0_tallyPlaces_42 : decode cX0_tallyPlaces 42 = .ok (.aload_n 0, 1) := by decide +kernel
theorem dX0_tallyPlaces_43 : decode cX0_tallyPlaces 43 = .ok (.getfield 33, 3) := by decide +kernel
theorem dX0_tallyPlaces_46 : decode cX0_tallyPlaces 46 = .ok (.iload_n 2, 1) := by decide +kernel
theorem dX0_tallyPlaces_47 : decode cX0_tallyPlaces 47 = .ok (.iaload, 1) := by decide +kernel
theorem dX0_tallyPlaces_48 : decode cX0_tallyPlaces 48 = .ok (.dup2, 1) := by decide +kernel
theorem dX0_tallyPlaces_49 : decode cX0_tallyPlaces 49 = .ok (.iaload, 1) := by decide +kernel
theorem dX0_tallyPlaces_50 : decode cX0_tallyPlaces 50 = .ok (.iconst 1, 1) := by decide +kernel
theorem dX0_tallyPlaces_51 : decode cX0_tallyPlaces 51 = .ok (.iadd, 1) := by decide +kernel
theorem dX0_tallyPlaces_52 : decode cX0_tallyPlaces 52 = .ok (.iastore, 1) := by decide +kernel
theorem dX0_tallyPlaces_53 : decode cX0_tallyPlaces 53 = .ok (.aload_n 0, 1) := by decide +kernel
theorem dX0_tallyPlaces_54 : decode cX0_tallyPlaces 54 = .ok (.iload_n 2, 1) := by decide +kernel
theorem dX0_tallyPlaces_55 : decode cX0_tallyPlaces 55 = .ok (.iload_n 3, 1) := by decide +kernel
theorem dX0_tallyPlaces_56 : decode cX0_tallyPlaces 56 = .ok (.invokevirtual 111, 3) := by decide +kernel
theorem dX0_tallyPlaces_59 : decode cX0_tallyPlaces 59 = .ok (.aload_n 0, 1) := by decide +kernel
theorem dX0_tallyPlaces_60 : decode cX0_tallyPlaces 60 = .ok (.getfield 15, 3) := by decide +kernel
theorem dX0_tallyPlaces_63 : decode cX0_tallyPlaces 63 = .ok (.iload_n 1, 1) := by decide +kernel
theorem dX0_tallyPlaces_64 : decode cX0_tallyPlaces 64 = .ok (.iaload, 1) := by decide +kernel
theorem dX0_tallyPlaces_65 : decode cX0_tallyPlaces 65 = .ok (.if_icmp .ne 18, 3) := by decide +kernel
theorem dX0_tallyPlaces_68 : decode cX0_tallyPlaces 68 = .ok (.aload_n 0, 1) := by decide +kernel
theorem dX0_tallyPlaces_69 : decode cX0_tallyPlaces 69 = .ok (.getfield 48, 3) := by decide +kernel
theorem dX0_tallyPlaces_72 : decode cX0_tallyPlaces 72 = .ok (.aload_n 0, 1) := by decide +kernel
theorem dX0_tallyPlaces_73 : decode cX0_tallyPlaces 73 = .ok (.getfield 33, 3) := by decide +kernel
theorem dX0_tallyPlaces_76 : decode cX0_tallyPlaces 76 = .ok (.iload_n 2, 1) := by decide +kernel
theorem dX0_tallyPlaces_77 : decode cX0_tallyPlaces 77 = .ok (.iaload, 1) := by decide +kernel
theorem dX0_tallyPlaces_78 : decode cX0_tallyPlaces 78 = .ok (.dup2, 1) := by decide +kernel
theorem dX0_tallyPlaces_79 : decode cX0_tallyPlaces 79 = .ok (.iaload, 1) := by decide +kernel
theorem dX0_tallyPlaces_80 : decode cX0_tallyPlaces 80 = .ok (.iconst 1, 1) := by decide +kernel
theorem dX0_tallyPlaces_81 : decode cX0_tallyPlaces 81 = .ok (.iadd, 1) := by decide +kernel
theorem dX0_tallyPlaces_82 : decode cX0_tallyPlaces 82 = .ok (.iastore, 1) := by decide +kernel
theorem dX0_tallyPlaces_83 : decode cX0_tallyPlaces 83 = .ok (.iinc 2 1, 3) := by decide +kernel
theorem dX0_tallyPlaces_86 : decode cX0_tallyPlaces 86 = .ok (.goto (-68), 3) := by decide +kernel
theorem dX0_tallyPlaces_89 : decode cX0_tallyPlaces 89 = .ok (.return_, 1) := by decide +kernel
theorem dX0_isLeakyByTally_0 : decode cX0_isLeakyByTally 0 = .ok (.aload_n 0, 1) := by decide +kernel
theorem dX0_isLeakyByTally_1 : decode cX0_isLeakyByTally 1 = .ok (.getfield 45, 3) := by decide +kernel
theorem dX0_isLeakyByTally_4 : decode cX0_isLeakyByTally 4 = .ok (.iload_n 1, 1) := by decide +kernel
theorem dX0_isLeakyByTally_5 : decode cX0_isLeakyByTally 5 = .ok (.iaload, 1) := by decide +kernel
theorem dX0_isLeakyByTally_6 : decode cX0_isLeakyByTally 6 = .ok (.istore_n 3, 1) := by decide +kernel
theorem dX0_isLeakyByTally_7 : decode cX0_isLeakyByTally 7 = .ok (.aload_n 0, 1) := by decide +kernel
theorem dX0_isLeakyByTally_8 : decode cX0_isLeakyByTally 8 = .ok (.getfield 48, 3) := by decide +kernel
theorem dX0_isLeakyByTally_11 : decode cX0_isLeakyByTally 11 = .ok (.iload_n 1, 1) := by decide +kernel
theorem dX0_isLeakyByTally_12 : decode cX0_isLeakyByTally 12 = .ok (.iaload, 1) := by decide +kernel
theorem dX0_isLeakyByTally_13 : decode cX0_isLeakyByTally 13 = .ok (.istore 4, 2) := by decide +kernel
theorem dX0_isLeakyByTally_15 : decode cX0_isLeakyByTally 15 = .ok (.iload_n 3, 1) := by decide +kernel
theorem dX0_isLeakyByTally_16 : decode cX0_isLeakyByTally 16 = .ok (.ineg, 1) := by decide +kernel
theorem dX0_isLeakyByTally_17 : decode cX0_isLeakyByTally 17 = .ok (.istore 5, 2) := by decide +kernel
theorem dX0_isLeakyByTally_19 : decode cX0_isLeakyByTally 19 = .ok (.iload 4, 2) := by decide +kernel
theorem dX0_isLeakyByTally_21 : decode cX0_isLeakyByTally 21 = .ok (.ineg, 1) := by decide +kernel
theorem dX0_isLeakyByTally_22 : decode cX0_isLeakyByTally 22 = .ok (.istore 6, 2) := by decide +kernel
theorem dX0_isLeakyByTally_24 : decode cX0_isLeakyByTally 24 = .ok (.iconst 0, 1) := by decide +kernel
theorem dX0_isLeakyByTally_25 : decode cX0_isLeakyByTally 25 = .ok (.istore 7, 2) := by decide +kernel
theorem dX0_isLeakyByTally_27 : decode cX0_isLeakyByTally 27 = .ok (.iload 7, 2) := by decide +kernel
theorem dX0_isLeakyByTally_29 : decode cX0_isLeakyByTally 29 = .ok (.iconst 4, 1) := by decide +kernel
theorem dX0_isLeakyByTally_30 : decode cX0_isLeakyByTally 30 = .ok (.if_icmp .ge 33, 3) := by decide +kernel
theorem dX0_isLeakyByTally_33 : decode cX0_isLeakyByTally 33 = .ok (.iload 5, 2) := by decide +kernel
theorem dX0_isLeakyByTally_35 : decode cX0_isLeakyByTally 35 = .ok (.aload_n 0, 1) := by decide +kernel
theorem dX0_isLeakyByTally_36 : decode cX0_isLeakyByTally 36 = .ok (.getfield 45, 3) := by decide +kernel
theorem dX0_isLeakyByTally_39 : decode cX0_isLeakyByTally 39 = .ok (.iload 7, 2) := by decide +kernel
theorem dX0_isLeakyByTally_41 : decode cX0_isLeakyByTally 41 = .ok (.iaload, 1) := by decide +kernel
theorem dX0_isLeakyByTally_42 : decode cX0_isLeakyByTally 42 = .ok (.iadd, 1) := by decide +kernel
theorem dX0_isLeakyByTally_43 : decode cX0_isLeakyByTally 43 = .ok (.istore 5, 2) := by decide +kernel
theorem dX0_isLeakyByTally_45 : decode cX0_isLeakyByTally 45 = .ok (.iload 6, 2) := by decide +kernel
theorem dX0_isLeakyByTally_47 : decode cX0_isLeakyByTally 47 = .ok (.aload_n 0, 1) := by decide +kernel
theorem dX0_isLeakyByTally_48 : decode cX0_isLeakyByTally 48 = .ok (.getfield 48, 3) := by decide +kernel
theorem dX0_isLeakyByTally_51 : decode cX0_isLeakyByTally 51 = .ok (.iload 7, 2) := by decide +kernel
theorem dX0_isLeakyByTally_53 : decode cX0_isLeakyByTally 53 = .ok (.iaload, 1) := by decide +kernel
theorem dX0_isLeakyByTally_54 : decode cX0_isLeakyByTally 54 = .ok (.iadd, 1) := by decide +kernel
theorem dX0_isLeakyByTally_55 : decode cX0_isLeakyByTally 55 = .ok (.istore 6, 2) := by decide +kernel
theorem dX0_isLeakyByTally_57 : decode cX0_isLeakyByTally 57 = .ok (.iinc 7 1, 3) := by decide +kernel
theorem dX0_isLeakyByTally_60 : decode cX0_isLeakyByTally 60 = .ok (.goto (-33), 3) := by decide +kernel
theorem dX0_isLeakyByTally_63 : decode cX0_isLeakyByTally 63 = .ok (.iload_n 3, 1) := by decide +kernel
theorem dX0_isLeakyByTally_64 : decode cX0_isLeakyByTally 64 = .ok (.ifCond .le 34, 3) := by decide +kernel
theorem dX0_isLeakyByTally_67 : decode cX0_isLeakyByTally 67 = .ok (.iload 5, 2) := by decide +kernel
theorem dX0_isLeakyByTally_69 : decode cX0_isLeakyByTally 69 = .ok (.ifCond .le 29, 3) := by decide +kernel
theorem dX0_isLeakyByTally_72 : decode cX0_isLeakyByTally 72 = .ok (.bipush 100, 2) := by decide +kernel
theorem dX0_isLeakyByTally_74 : decode cX0_isLeakyByTally 74 = .ok (.iload 4, 2) := by decide +kernel
theorem dX0_isLeakyByTally_76 : decode cX0_isLeakyByTally 76 = .ok (.iload 5, 2) := by decide +kernel
theorem dX0_isLeakyByTally_78 : decode cX0_isLeakyByTally 78 = .ok (.imul, 1) := by decide +kernel
theorem dX0_isLeakyByTally_79 : decode cX0_isLeakyByTally 79 = .ok (.iload 6, 2) := by decide +kernel
theorem dX0_isLeakyByTally_81 : decode cX0_isLeakyByTally 81 = .ok (.iload_n 3, 1) := by decide +kernel
theorem dX0_isLeakyByTally_82 : decode cX0_isLeakyByTally 82 = .ok (.imul, 1) := by decide +kernel
theorem dX0_isLeakyByTally_83 : decode cX0_isLeakyByTally 83 = .ok (.isub, 1) := by decide +kernel
theorem dX0_isLeakyByTally_84 : decode cX0_isLeakyByTally 84 = .ok (.imul, 1) := by decide +kernel
theorem dX0_isLeakyByTally_85 : decode cX0_isLeakyByTally 85 = .ok (.iload_n 2, 1) := by decide +kernel
theorem dX0_isLeakyByTally_86 : decode cX0_isLeakyByTally 86 = .ok (.iload_n 3, 1) := by decide +kernel
theorem dX0_isLeakyByTally_87 : decode cX0_isLeakyByTally 87 = .ok (.imul, 1) := by decide +kernel
theorem dX0_isLeakyByTally_88 : decode cX0_isLeakyByTally 88 = .ok (.iload 5, 2) := by decide +kernel
theorem dX0_isLeakyByTally_90 : decode cX0_isLeakyByTally 90 = .ok (.imul, 1) := by decide +kernel
theorem dX0_isLeakyByTally_91 : decode cX0_isLeakyByTally 91 = .ok (.if_icmp .le 7, 3) := by decide +kernel
theorem dX0_isLeakyByTally_94 : decode cX0_isLeakyByTally 94 = .ok (.iconst 1, 1) := by decide +kernel
theorem dX0_isLeakyByTally_95 : decode cX0_isLeakyByTally 95 = .ok (.goto 4, 3) := by decide +kernel
theorem dX0_isLeakyByTally_98 : decode cX0_isLeakyByTally 98 = .ok (.iconst 0, 1) := by decide +kernel
theorem dX0_isLeakyByTally_99 : decode cX0_isLeakyByTally 99 = .ok (.ireturn, 1) := by decide +kernel
theorem dX0_gatherSums_0 : decode cX0_gatherSums 0 = .ok (.iconst 0, 1) := by decide +kernel
theorem dX0_gatherSums_1 : decode cX0_gatherSums 1 = .ok (.istore_n 3, 1) := by decide +kernel
theorem dX0_gatherSums_2 : decode cX0_gatherSums 2 = .ok (.iconst 0, 1) := by decide +kernel
theorem dX0_gatherSums_3 : decode cX0_gatherSums 3 = .ok (.istore 4, 2) := by decide +kernel
theorem dX0_gatherSums_5 : decode cX0_gatherSums 5 = .ok (.iload 4, 2) := by decide +kernel
theorem dX0_gatherSums_7 : decode cX0_gatherSums 7 = .ok (.aload_n 0, 1) := by decide +kernel
theorem dX0_gatherSums_8 : decode cX0_gatherSums 8 = .ok (.getfield 90, 3) := by decide +kernel
theorem dX0_gatherSums_11 : decode cX0_gatherSums 11 = .ok (.if_icmp .ge 36, 3) := by decide +kernel
theorem dX0_gatherSums_14 : decode cX0_gatherSums 14 = .ok (.aload_n 0, 1) := by decide +kernel
theorem dX0_gatherSums_15 : decode cX0_gatherSums 15 = .ok (.getfield 30, 3) := by decide +kernel
theorem dX0_gatherSums_18 : decode cX0_gatherSums 18 = .ok (.iload 4, 2) := by decide +kernel
theorem dX0_gatherSums_20 : decode cX0_gatherSums 20 = .ok (.iaload, 1) := by decide +kernel
theorem dX0_gatherSums_21 : decode cX0_gatherSums 21 = .ok (.iload_n 1, 1) := by decide +kernel
theorem dX0_gatherSums_22 : decode cX0_gatherSums 22 = .ok (.if_icmp .ne 19, 3) := by decide +kernel
theorem dX0_gatherSums_25 : decode cX0_gatherSums 25 = .ok (.aload_n 0, 1) := by decide +kernel
theorem dX0_gatherSums_26 : decode cX0_gatherSums 26 = .ok (.getfield 42, 3) := by decide +kernel
theorem dX0_gatherSums_29 : decode cX0_gatherSums 29 = .ok (.iload_n 3, 1) := by decide +kernel
theorem dX0_gatherSums_30 : decode cX0_gatherSums 30 = .ok (.aload_n 0, 1) := by decide +kernel
theorem dX0_gatherSums_31 : decode cX0_gatherSums 31 = .ok (.iload 4, 2) := by decide +kernel
theorem dX0_gatherSums_33 : decode cX0_gatherSums 33 = .ok (.iload_n 2, 1) := by decide +kernel
theorem dX0_gatherSums_34 : decode cX0_gatherSums 34 = .ok (.invokevirtual 121, 3) := by decide +kernel
theorem dX0_gatherSums_37 : decode cX0_gatherSums 37 = .ok (.iastore, 1) := by decide +kernel
theorem dX0_gatherSums_38 : decode cX0_gatherSums 38 = .ok (.iinc 3 1, 3) := by decide +kernel
theorem dX0_gatherSums_41 : decode cX0_gatherSums 41 = .ok (.iinc 4 1, 3) := by decide +kernel
theorem dX0_gatherSums_44 : decode cX0_gatherSums 44 = .ok (.goto (-39), 3) := by decide +kernel
theorem dX0_gatherSums_47 : decode cX0_gatherSums 47 = .ok (.iload_n 3, 1) := by decide +kernel
theorem dX0_gatherSums_48 : decode cX0_gatherSums 48 = .ok (.ireturn, 1) := by decide +kernel
theorem dX0_sumOfValues_0 : decode cX0_sumOfValues 0 = .ok (.lconst 0, 1) := by decide +kernel
theorem dX0_sumOfValues_1 : decode cX0_sumOfValues 1 = .ok (.lstore_n 2, 1) := by decide +kernel
theorem dX0_sumOfValues_2 : decode cX0_sumOfValues 2 = .ok (.iconst 0, 1) := by decide +kernel
theorem dX0_sumOfValues_3 : decode cX0_sumOfValues 3 = .ok (.istore 4, 2) := by decide +kernel
theorem dX0_sumOfValues_5 : decode cX0_sumOfValues 5 = .ok (.iload 4, 2) := by decide +kernel
theorem dX0_sumOfValues_7 : decode cX0_sumOfValues 7 = .ok (.iload_n 1, 1) := by decide +kernel
theorem dX0_sumOfValues_8 : decode cX0_sumOfValues 8 = .ok (.if_icmp .ge 20, 3) := by decide +kernel
theorem dX0_sumOfValues_11 : decode cX0_sumOfValues 11 = .ok (.lload_n 2, 1) := by decide +kernel
theorem dX0_sumOfValues_12 : decode cX0_sumOfValues 12 = .ok (.aload_n 0, 1) := by decide +kernel
theorem dX0_sumOfValues_13 : decode cX0_sumOfValues 13 = .ok (.getfield 42, 3) := by decide +kernel
theorem dX0_sumOfValues_16 : decode cX0_sumOfValues 16 = .ok (.iload 4, 2) := by decide +kernel
theorem dX0_sumOfValues_18 : decode cX0_sumOfValues 18 = .ok (.iaload, 1) := by decide +kernel
theorem dX0_sumOfValues_19 : decode cX0_sumOfValues 19 = .ok (.i2l, 1) := by decide +kernel
theorem dX0_sumOfValues_20 : decode cX0_sumOfValues 20 = .ok (.ladd, 1) := by decide +kernel
theorem dX0_sumOfValues_21 : decode cX0_sumOfValues 21 = .ok (.lstore_n 2, 1) := by decide +kernel
theorem dX0_sumOfValues_22 : decode cX0_sumOfValues 22 = .ok (.iinc 4 1, 3) := by decide +kernel
theorem dX0_sumOfValues_25 : decode cX0_sumOfValues 25 = .ok (.goto (-20), 3) := by decide +kernel
theorem dX0_sumOfValues_28 : decode cX0_sumOfValues 28 = .ok (.lload_n 2, 1) := by decide +kernel
theorem dX0_sumOfValues_29 : decode cX0_sumOfValues 29 = .ok (.lreturn, 1) := by decide +kernel
theorem dX0_awayOfValues_0 : decode cX0_awayOfValues 0 = .ok (.aload_n 0, 1) := by decide +kernel
theorem dX0_awayOfValues_1 : decode cX0_awayOfValues 1 = .ok (.iload_n 1, 1) := by decide +kernel
theorem dX0_awayOfValues_2 : decode cX0_awayOfValues 2 = .ok (.invokevirtual 158, 3) := by decide +kernel
theorem dX0_awayOfValues_5 : decode cX0_awayOfValues 5 = .ok (.lstore_n 2, 1) := by decide +kernel
theorem dX0_awayOfValues_6 : decode cX0_awayOfValues 6 = .ok (.lconst 0, 1) := by decide +kernel
theorem dX0_awayOfValues_7 : decode cX0_awayOfValues 7 = .ok (.lstore 4, 2) := by decide +kernel
theorem dX0_awayOfValues_9 : decode cX0_awayOfValues 9 = .ok (.iconst 0, 1) := by decide +kernel
theorem dX0_awayOfValues_10 : decode cX0_awayOfValues 10 = .ok (.istore 6, 2) := by decide +kernel
theorem dX0_awayOfValues_12 : decode cX0_awayOfValues 12 = .ok (.iload 6, 2) := by decide +kernel
theorem dX0_awayOfValues_14 : decode cX0_awayOfValues 14 = .ok (.iload_n 1, 1) := by decide +kernel
theorem dX0_awayOfValues_15 : decode cX0_awayOfValues 15 = .ok (.if_icmp .ge 29, 3) := by decide +kernel
theorem dX0_awayOfValues_18 : decode cX0_awayOfValues 18 = .ok (.lload 4, 2) := by decide +kernel
theorem dX0_awayOfValues_20 : decode cX0_awayOfValues 20 = .ok (.iload_n 1, 1) := by decide +kernel
theorem dX0_awayOfValues_21 : decode cX0_awayOfValues 21 = .ok (.aload_n 0, 1) := by decide +kernel
theorem dX0_awayOfValues_22 : decode cX0_awayOfValues 22 = .ok (.getfield 42, 3) := by decide +kernel
theorem dX0_awayOfValues_25 : decode cX0_awayOfValues 25 = .ok (.iload 6, 2) := by decide +kernel
theorem dX0_awayOfValues_27 : decode cX0_awayOfValues 27 = .ok (.iaload, 1) := by decide +kernel
theorem dX0_awayOfValues_28 : decode cX0_awayOfValues 28 = .ok (.imul, 1) := by decide +kernel
theorem dX0_awayOfValues_29 : decode cX0_awayOfValues 29 = .ok (.i2l, 1) := by decide +kernel
theorem dX0_awayOfValues_30 : decode cX0_awayOfValues 30 = .ok (.lload_n 2, 1) := by decide +kernel
theorem dX0_awayOfValues_31 : decode cX0_awayOfValues 31 = .ok (.lsub, 1) := by decide +kernel
theorem dX0_awayOfValues_32 : decode cX0_awayOfValues 32 = .ok (.invokestatic 189, 3) := by decide +kernel
theorem dX0_awayOfValues_35 : decode cX0_awayOfValues 35 = .ok (.ladd, 1) := by decide +kernel
theorem dX0_awayOfValues_36 : decode cX0_awayOfValues 36 = .ok (.lstore 4, 2) := by decide +kernel
theorem dX0_awayOfValues_38 : decode cX0_awayOfValues 38 = .ok (.iinc 6 1, 3) := by decide +kernel
theorem dX0_awayOfValues_41 : decode cX0_awayOfValues 41 = .ok (.goto (-29), 3) := by decide +kernel
theorem dX0_awayOfValues_44 : decode cX0_awayOfValues 44 = .ok (.lload 4, 2) := by decide +kernel
theorem dX0_awayOfValues_46 : decode cX0_awayOfValues 46 = .ok (.lreturn, 1) := by decide +kernel
theorem dX0_rankInValues_0 : decode cX0_rankInValues 0 = .ok (.iconst 0, 1) := by decide +kernel
theorem dX0_rankInValues_1 : decode cX0_rankInValues 1 = .ok (.istore_n 3, 1) := by decide +kernel
theorem dX0_rankInValues_2 : decode cX0_rankInValues 2 = .ok (.iconst 0, 1) := by decide +kernel
theorem dX0_rankInValues_3 : decode cX0_rankInValues 3 = .ok (.istore 4, 2) := by decide +kernel
theorem dX0_rankInValues_5 : decode cX0_rankInValues 5 = .ok (.iload 4, 2) := by decide +kernel
theorem dX0_rankInValues_7 : decode cX0_rankInValues 7 = .ok (.iload_n 1, 1) := by decide +kernel
theorem dX0_rankInValues_8 : decode cX0_rankInValues 8 = .ok (.if_icmp .ge 40, 3) := by decide +kernel
theorem dX0_rankInValues_11 : decode cX0_rankInValues 11 = .ok (.aload_n 0, 1) := by decide +kernel
theorem dX0_rankInValues_12 : decode cX0_rankInValues 12 = .ok (.getfield 42, 3) := by decide +kernel
theorem dX0_rankInValues_15 : decode cX0_rankInValues 15 = .ok (.iload 4, 2) := by decide +kernel
theorem dX0_rankInValues_17 : decode cX0_rankInValues 17 = .ok (.iaload, 1) := by decide +kernel
theorem dX0_rankInValues_18 : decode cX0_rankInValues 18 = .ok (.iload_n 2, 1) := by decide +kernel
theorem dX0_rankInValues_19 : decode cX0_rankInValues 19 = .ok (.if_icmp .ge 9, 3) := by decide +kernel
theorem dX0_rankInValues_22 : decode cX0_rankInValues 22 = .ok (.iinc 3 2, 3) := by decide +kernel
theorem dX0_rankInValues_25 : decode cX0_rankInValues 25 = .ok (.goto 17, 3) := by decide +kernel
theorem dX0_rankInValues_28 : decode cX0_rankInValues 28 = .ok (.aload_n 0, 1) := by decide +kernel
theorem dX0_rankInValues_29 : decode cX0_rankInValues 29 = .ok (.getfield 42, 3) := by decide +kernel
theorem dX0_rankInValues_32 : decode cX0_rankInValues 32 = .ok (.iload 4, 2) := by decide +kernel
theorem dX0_rankInValues_34 : decode cX0_rankInValues 34 = .ok (.iaload, 1) := by decide +kernel
theorem dX0_rankInValues_35 : decode cX0_rankInValues 35 = .ok (.iload_n 2, 1) := by decide +kernel
theorem dX0_rankInValues_36 : decode cX0_rankInValues 36 = .ok (.if_icmp .ne 6, 3) := by decide +kernel
theorem dX0_rankInValues_39 : decode cX0_rankInValues 39 = .ok (.iinc 3 1, 3) := by decide +kernel
theorem dX0_rankInValues_42 : decode cX0_rankInValues 42 = .ok (.iinc 4 1, 3) := by decide +kernel
theorem dX0_rankInValues_45 : decode cX0_rankInValues 45 = .ok (.goto (-40), 3) := by decide +kernel
theorem dX0_rankInValues_48 : decode cX0_rankInValues 48 = .ok (.iload_n 3, 1) := by decide +kernel
theorem dX0_rankInValues_49 : decode cX0_rankInValues 49 = .ok (.ireturn, 1) := by decide +kernel
theorem dX0_cutParts_0 : decode cX0_cutParts 0 = .ok (.aload_n 0, 1) := by decide +kernel
theorem dX0_cutParts_1 : decode cX0_cutParts 1 = .ok (.invokevirtual 117, 3) := by decide +kernel
theorem dX0_cutParts_4 : decode cX0_cutParts 4 = .ok (.istore_n 2, 1) := by decide +kernel
theorem dX0_cutParts_5 : decode cX0_cutParts 5 = .ok (.iconst 0, 1) := by decide +kernel
theorem dX0_cutParts_6 : decode cX0_cutParts 6 = .ok (.istore_n 3, 1) := by decide +kernel
theorem dX0_cutParts_7 : decode cX0_cutParts 7 = .ok (.iconst 0, 1) := by decide +kernel
theorem dX0_cutParts_8 : decode cX0_cutParts 8 = .ok (.istore 4, 2) := by decide +kernel
theorem dX0_cutParts_10 : decode cX0_cutParts 10 = .ok (.iload 4, 2) := by decide +kernel
theorem dX0_cutParts_12 : decode cX0_cutParts 12 = .ok (.aload_n 0, 1) := by decide +kernel
theorem dX0_cutParts_13 : decode cX0_cutParts 13 = .ok (.getfield 21, 3) := by decide +kernel
theorem dX0_cutParts_16 : decode cX0_cutParts 16 = .ok (.iload_n 1, 1) := by decide +kernel
theorem dX0_cutParts_17 : decode cX0_cutParts 17 = .ok (.iaload, 1) := by decide +kernel
theorem dX0_cutParts_18 : decode cX0_cutParts 18 = .ok (.if_icmp .ge 42, 3) := by decide +kernel
theorem dX0_cutParts_21 : decode cX0_cutParts 21 = .ok (.iload_n 2, 1) := by decide +kernel
theorem dX0_cutParts_22 : decode cX0_cutParts 22 = .ok (.aload_n 0, 1) := by decide +kernel
theorem dX0_cutParts_23 : decode cX0_cutParts 23 = .ok (.getfield 27, 3) := by decide +kernel
theorem dX0_cutParts_26 : decode cX0_cutParts 26 = .ok (.iload_n 1, 1) := by decide +kernel
theorem dX0_cutParts_27 : decode cX0_cutParts 27 = .ok (.bipush 12, 2) := by decide +kernel
theorem dX0_cutParts_29 : decode cX0_cutParts 29 = .ok (.imul, 1) := by decide +kernel
theorem dX0_cutParts_30 : decode cX0_cutParts 30 = .ok (.iload 4, 2) := by decide +kernel
theorem dX0_cutParts_32 : decode cX0_cutParts 32 = .ok (.iadd, 1) := by decide +kernel
theorem dX0_cutParts_33 : decode cX0_cutParts 33 = .ok (.iaload, 1) := by decide +kernel
theorem dX0_cutParts_34 : decode cX0_cutParts 34 = .ok (.invokestatic 74, 3) := by decide +kernel
theorem dX0_cutParts_37 : decode cX0_cutParts 37 = .ok (.ifCond .eq 17, 3) := by decide +kernel
theorem dX0_cutParts_40 : decode cX0_cutParts 40 = .ok (.iload_n 3, 1) := by decide +kernel
theorem dX0_cutParts_41 : decode cX0_cutParts 41 = .ok (.aload_n 0, 1) := by decide +kernel
theorem dX0_cutParts_42 : decode cX0_cutParts 42 = .ok (.iload_n 1, 1) := by decide +kernel
theorem dX0_cutParts_43 : decode cX0_cutParts 43 = .ok (.bipush 12, 2) := by decide +kernel
theorem dX0_cutParts_45 : decode cX0_cutParts 45 = .ok (.imul, 1) := by decide +kernel
theorem dX0_cutParts_46 : decode cX0_cutParts 46 = .ok (.iload 4, 2) := by decide +kernel
theorem dX0_cutParts_48 : decode cX0_cutParts 48 = .ok (.iadd, 1) := by decide +kernel
theorem dX0_cutParts_49 : decode cX0_cutParts 49 = .ok (.invokevirtual 209, 3) := by decide +kernel
theorem dX0_cutParts_52 : decode cX0_cutParts 52 = .ok (.iadd, 1) := by decide +kernel
theorem dX0_cutParts_53 : decode cX0_cutParts 53 = .ok (.istore_n 3, 1) := by decide +kernel
theorem dX0_cutParts_54 : decode cX0_cutParts 54 = .ok (.iinc 4 1, 3) := by decide +kernel
theorem dX0_cutParts_57 : decode cX0_cutParts 57 = .ok (.goto (-47), 3) := by decide +kernel
theorem dX0_cutParts_60 : decode cX0_cutParts 60 = .ok (.iload_n 3, 1) := by decide +kernel
theorem dX0_cutParts_61 : decode cX0_cutParts 61 = .ok (.ireturn, 1) := by decide +kernel
theorem dX0_meanParts_0 : decode cX0_meanParts 0 = .ok (.iconst 0, 1) := by decide +kernel
theorem dX0_meanParts_1 : decode cX0_meanParts 1 = .ok (.istore_n 2, 1) := by decide +kernel
theorem dX0_meanParts_2 : decode cX0_meanParts 2 = .ok (.iconst 0, 1) := by decide +kernel
theorem dX0_meanParts_3 : decode cX0_meanParts 3 = .ok (.istore_n 3, 1) := by decide +kernel
theorem dX0_meanParts_4 : decode cX0_meanParts 4 = .ok (.iconst 0, 1) := by decide +kernel
theorem dX0_meanParts_5 : decode cX0_meanParts 5 = .ok (.istore 4, 2) := by decide +kernel
theorem dX0_meanParts_7 : decode cX0_meanParts 7 = .ok (.iload 4, 2) := by decide +kernel
theorem dX0_meanParts_9 : decode cX0_meanParts 9 = .ok (.bipush 8, 2) := by decide +kernel
theorem dX0_meanParts_11 : decode cX0_meanParts 11 = .ok (.if_icmp .ge 37, 3) := by decide +kernel
theorem dX0_meanParts_14 : decode cX0_meanParts 14 = .ok (.aload_n 0, 1) := by decide +kernel
theorem dX0_meanParts_15 : decode cX0_meanParts 15 = .ok (.getfield 39, 3) := by decide +kernel
theorem dX0_meanParts_18 : decode cX0_meanParts 18 = .ok (.iload_n 1, 1) := by decide +kernel
theorem dX0_meanParts_19 : decode cX0_meanParts 19 = .ok (.bipush 8, 2) := by decide +kernel
theorem dX0_meanParts_21 : decode cX0_meanParts 21 = .ok (.imul, 1) := by decide +kernel
theorem dX0_meanParts_22 : decode cX0_meanParts 22 = .ok (.iload 4, 2) := by decide +kernel
theorem dX0_meanParts_24 : decode cX0_meanParts 24 = .ok (.iadd, 1) := by decide +kernel
theorem dX0_meanParts_25 : decode cX0_meanParts 25 = .ok (.iaload, 1) := by decide +kernel
theorem dX0_meanParts_26 : decode cX0_meanParts 26 = .ok (.istore 5, 2) := by decide +kernel
theorem dX0_meanParts_28 : decode cX0_meanParts 28 = .ok (.iload 5, 2) := by decide +kernel
theorem dX0_meanParts_30 : decode cX0_meanParts 30 = .ok (.iconst (-1), 1) := by decide +kernel
theorem dX0_meanParts_31 : decode cX0_meanParts 31 = .ok (.if_icmp .eq 11, 3) := by decide +kernel
theorem dX0_meanParts_34 : decode cX0_meanParts 34 = .ok (.iinc 2 1, 3) := by decide +kernel
theorem dX0_meanParts_37 : decode cX0_meanParts 37 = .ok (.iload_n 3, 1) := by decide +kernel
theorem dX0_meanParts_38 : decode cX0_meanParts 38 = .ok (.iload 5, 2) := by decide +kernel
theorem dX0_meanParts_40 : decode cX0_meanParts 40 = .ok (.iadd, 1) := by decide +kernel
theorem dX0_meanParts_41 : decode cX0_meanParts 41 = .ok (.istore_n 3, 1) := by decide +kernel
theorem dX0_meanParts_42 : decode cX0_meanParts 42 = .ok (.iinc 4 1, 3) := by decide +kernel
theorem dX0_meanParts_45 : decode cX0_meanParts 45 = .ok (.goto (-38), 3) := by decide +kernel
theorem dX0_meanParts_48 : decode cX0_meanParts 48 = .ok (.iload_n 2, 1) := by decide +kernel
theorem dX0_meanParts_49 : decode cX0_meanParts 49 = .ok (.ifCond .ne 7, 3) := by decide +kernel
theorem dX0_meanParts_52 : decode cX0_meanParts 52 = .ok (.iconst 0, 1) := by decide +kernel
theorem dX0_meanParts_53 : decode cX0_meanParts 53 = .ok (.goto 10, 3) := by decide +kernel
theorem dX0_meanParts_56 : decode cX0_meanParts 56 = .ok (.iload_n 3, 1) := by decide +kernel
theorem dX0_meanParts_57 : decode cX0_meanParts 57 = .ok (.sipush 840, 3) := by decide +kernel
theorem dX0_meanParts_60 : decode cX0_meanParts 60 = .ok (.iload_n 2, 1) := by decide +kernel
theorem dX0_meanParts_61 : decode cX0_meanParts 61 = .ok (.idiv, 1) := by decide +kernel
theorem dX0_meanParts_62 : decode cX0_meanParts 62 = .ok (.imul, 1) := by decide +kernel
theorem dX0_meanParts_63 : decode cX0_meanParts 63 = .ok (.ireturn, 1) := by decide +kernel
theorem dX0_isPassing_0 : decode cX0_isPassing 0 = .ok (.aload_n 0, 1) := by decide +kernel
theorem dX0_isPassing_1 : decode cX0_isPassing 1 = .ok (.iload_n 1, 1) := by decide +kernel
theorem dX0_isPassing_2 : decode cX0_isPassing 2 = .ok (.aload_n 0, 1) := by decide +kernel
theorem dX0_isPassing_3 : decode cX0_isPassing 3 = .ok (.invokevirtual 117, 3) := by decide +kernel
theorem dX0_isPassing_6 : decode cX0_isPassing 6 = .ok (.invokevirtual 121, 3) := by decide +kernel
theorem dX0_isPassing_9 : decode cX0_isPassing 9 = .ok (.sipush 840, 3) := by decide +kernel
theorem dX0_isPassing_12 : decode cX0_isPassing 12 = .ok (.imul, 1) := by decide +kernel
theorem dX0_isPassing_13 : decode cX0_isPassing 13 = .ok (.aload_n 0, 1) := by decide +kernel
theorem dX0_isPassing_14 : decode cX0_isPassing 14 = .ok (.aload_n 0, 1) := by decide +kernel
theorem dX0_isPassing_15 : decode cX0_isPassing 15 = .ok (.getfield 30, 3) := by decide +kernel
theorem dX0_isPassing_18 : decode cX0_isPassing 18 = .ok (.iload_n 1, 1) := by decide +kernel
theorem dX0_isPassing_19 : decode cX0_isPassing 19 = .ok (.iaload, 1) := by decide +kernel
theorem dX0_isPassing_20 : decode cX0_isPassing 20 = .ok (.invokevirtual 181, 3) := by decide +kernel
theorem dX0_isPassing_23 : decode cX0_isPassing 23 = .ok (.if_icmp .lt 7, 3) := by decide +kernel
theorem dX0_isPassing_26 : decode cX0_isPassing 26 = .ok (.iconst 1, 1) := by decide +kernel
theorem dX0_isPassing_27 : decode cX0_isPassing 27 = .ok (.goto 4, 3) := by decide +kernel
theorem dX0_isPassing_30 : decode cX0_isPassing 30 = .ok (.iconst 0, 1) := by decide +kernel
theorem dX0_isPassing_31 : decode cX0_isPassing 31 = .ok (.ireturn, 1) := by decide +kernel
theorem dX0_countPassing_0 : decode cX0_countPassing 0 = .ok (.iconst 0, 1) := by decide +kernel
theorem dX0_countPassing_1 : decode cX0_countPassing 1 = .ok (.istore_n 1, 1) := by decide +kernel
theorem dX0_countPassing_2 : decode cX0_countPassing 2 = .ok (.iconst 0, 1) := by decide +kernel
theorem dX0_countPassing_3 : decode cX0_countPassing 3 = .ok (.istore_n 2, 1) := by decide +kernel
theorem dX0_countPassing_4 : decode cX0_countPassing 4 = .ok (.iload_n 2, 1) := by decide +kernel
theorem dX0_countPassing_5 : decode cX0_countPassing 5 = .ok (.aload_n 0, 1) := by decide +kernel
theorem dX0_countPassing_6 : decode cX0_countPassing 6 = .ok (.getfield 90, 3) := by decide +kernel
theorem dX0_countPassing_9 : decode cX0_countPassing 9 = .ok (.if_icmp .ge 20, 3) := by decide +kernel
theorem dX0_countPassing_12 : decode cX0_countPassing 12 = .ok (.aload_n 0, 1) := by decide +kernel
theorem dX0_countPassing_13 : decode cX0_countPassing 13 = .ok (.iload_n 2, 1) := by decide +kernel
theorem dX0_countPassing_14 : decode cX0_countPassing 14 = .ok (.invokevirtual 186, 3) := by decide +kernel
theorem dX0_countPassing_17 : decode cX0_countPassing 17 = .ok (.ifCond .eq 6, 3) := by decide +kernel
theorem dX0_countPassing_20 : decode cX0_countPassing 20 = .ok (.iinc 1 1, 3) := by decide +kernel
theorem dX0_countPassing_23 : decode cX0_countPassing 23 = .ok (.iinc 2 1, 3) := by decide +kernel
theorem dX0_countPassing_26 : decode cX0_countPassing 26 = .ok (.goto (-22), 3) := by decide +kernel
theorem dX0_countPassing_29 : decode cX0_countPassing 29 = .ok (.iload_n 1, 1) := by decide +kernel
theorem dX0_countPassing_30 : decode cX0_countPassing 30 = .ok (.ireturn, 1) := by decide +kernel
theorem dX0_countAnswers_0 : decode cX0_countAnswers 0 = .ok (.iconst 0, 1) := by decide +kernel
theorem dX0_countAnswers_1 : decode cX0_countAnswers 1 = .ok (.istore_n 1, 1) := by decide +kernel
theorem dX0_countAnswers_2 : decode cX0_countAnswers 2 = .ok (.iconst 0, 1) := by decide +kernel
theorem dX0_countAnswers_3 : decode cX0_countAnswers 3 = .ok (.istore_n 2, 1) := by decide +kernel
theorem dX0_countAnswers_4 : decode cX0_countAnswers 4 = .ok (.iload_n 2, 1) := by decide +kernel
theorem dX0_countAnswers_5 : decode cX0_countAnswers 5 = .ok (.aload_n 0, 1) := by decide +kernel
theorem dX0_countAnswers_6 : decode cX0_countAnswers 6 = .ok (.getfield 90, 3) := by decide +kernel
theorem dX0_countAnswers_9 : decode cX0_countAnswers 9 = .ok (.bipush 12, 2) := by decide +kernel
theorem dX0_countAnswers_11 : decode cX0_countAnswers 11 = .ok (.imul, 1) := by decide +kernel
theorem dX0_countAnswers_12 : decode cX0_countAnswers 12 = .ok (.if_icmp .ge 22, 3) := by decide +kernel
theorem dX0_countAnswers_15 : decode cX0_countAnswers 15 = .ok (.aload_n 0, 1) := by decide +kernel
theorem dX0_countAnswers_16 : decode cX0_countAnswers 16 = .ok (.getfield 36, 3) := by decide +kernel
theorem dX0_countAnswers_19 : decode cX0_countAnswers 19 = .ok (.iload_n 2, 1) := by decide +kernel
theorem dX0_countAnswers_20 : decode cX0_countAnswers 20 = .ok (.iaload, 1) := by decide +kernel
theorem dX0_countAnswers_21 : decode cX0_countAnswers 21 = .ok (.iconst (-1), 1) := by decide +kernel
theorem dX0_countAnswers_22 : decode cX0_countAnswers 22 = .ok (.if_icmp .eq 6, 3) := by decide +kernel
theorem dX0_countAnswers_25 : decode cX0_countAnswers 25 = .ok (.iinc 1 1, 3) := by decide +kernel
theorem dX0_countAnswers_28 : decode cX0_countAnswers 28 = .ok (.iinc 2 1, 3) := by decide +kernel
theorem dX0_countAnswers_31 : decode cX0_countAnswers 31 = .ok (.goto (-27), 3) := by decide +kernel
theorem dX0_countAnswers_34 : decode cX0_countAnswers 34 = .ok (.iload_n 1, 1) := by decide +kernel
theorem dX0_countAnswers_35 : decode cX0_countAnswers 35 = .ok (.ireturn, 1) := by decide +kernel
theorem dX0_areAlikeOf_0 : decode cX0_areAlikeOf 0 = .ok (.aload_n 0, 1) := by decide +kernel
theorem dX0_areAlikeOf_1 : decode cX0_areAlikeOf 1 = .ok (.getfield 30, 3) := by decide +kernel
theorem dX0_areAlikeOf_4 : decode cX0_areAlikeOf 4 = .ok (.iload_n 2, 1) := by decide +kernel
theorem dX0_areAlikeOf_5 : decode cX0_areAlikeOf 5 = .ok (.iaload, 1) := by decide +kernel
theorem dX0_areAlikeOf_6 : decode cX0_areAlikeOf 6 = .ok (.iload_n 1, 1) := by decide +kernel
theorem dX0_areAlikeOf_7 : decode cX0_areAlikeOf 7 = .ok (.if_icmp .ne 28, 3) := by decide +kernel
theorem dX0_areAlikeOf_10 : decode cX0_areAlikeOf 10 = .ok (.aload_n 0, 1) := by decide +kernel
theorem dX0_areAlikeOf_11 : decode cX0_areAlikeOf 11 = .ok (.getfield 30, 3) := by decide +kernel
theorem dX0_areAlikeOf_14 : decode cX0_areAlikeOf 14 = .ok (.iload_n 3, 1) := by decide +kernel
theorem dX0_areAlikeOf_15 : decode cX0_areAlikeOf 15 = .ok (.iaload, 1) := by decide +kernel
theorem dX0_areAlikeOf_16 : decode cX0_areAlikeOf 16 = .ok (.iload_n 1, 1) := by decide +kernel
theorem dX0_areAlikeOf_17 : decode cX0_areAlikeOf 17 = .ok (.if_icmp .ne 18, 3) := by decide +kernel
theorem dX0_areAlikeOf_20 : decode cX0_areAlikeOf 20 = .ok (.aload_n 0, 1) := by decide +kernel
theorem dX0_areAlikeOf_21 : decode cX0_areAlikeOf 21 = .ok (.iload_n 2, 1) := by decide +kernel
theorem dX0_areAlikeOf_22 : decode cX0_areAlikeOf 22 = .ok (.iload_n 3, 1) := by decide +kernel
theorem dX0_areAlikeOf_23 : decode cX0_areAlikeOf 23 = .ok (.invokevirtual 193, 3) := by decide +kernel
theorem dX0_areAlikeOf_26 : decode cX0_areAlikeOf 26 = .ok (.iload 4, 2) := by decide +kernel
theorem dX0_areAlikeOf_28 : decode cX0_areAlikeOf 28 = .ok (.if_icmp .lt 7, 3) := by decide +kernel
theorem dX0_areAlikeOf_31 : decode cX0_areAlikeOf 31 = .ok (.iconst 1, 1) := by decide +kernel
theorem dX0_areAlikeOf_32 : decode cX0_areAlikeOf 32 = .ok (.goto 4, 3) := by decide +kernel
theorem dX0_areAlikeOf_35 : decode cX0_areAlikeOf 35 = .ok (.iconst 0, 1) := by decide +kernel
theorem dX0_areAlikeOf_36 : decode cX0_areAlikeOf 36 = .ok (.ireturn, 1) := by decide +kernel
theorem dX0_sameWrongs_0 : decode cX0_sameWrongs 0 = .ok (.aload_n 0, 1) := by decide +kernel
theorem dX0_sameWrongs_1 : decode cX0_sameWrongs 1 = .ok (.getfield 30, 3) := by decide +kernel
theorem dX0_sameWrongs_4 : decode cX0_sameWrongs 4 = .ok (.iload_n 1, 1) := by decide +kernel
theorem dX0_sameWrongs_5 : decode cX0_sameWrongs 5 = .ok (.iaload, 1) := by decide +kernel
theorem dX0_sameWrongs_6 : decode cX0_sameWrongs 6 = .ok (.istore_n 3, 1) := by decide +kernel
theorem dX0_sameWrongs_7 : decode cX0_sameWrongs 7 = .ok (.iconst 0, 1) := by decide +kernel
theorem dX0_sameWrongs_8 : decode cX0_sameWrongs 8 = .ok (.istore 4, 2) := by decide +kernel
theorem dX0_sameWrongs_10 : decode cX0_sameWrongs 10 = .ok (.iconst 0, 1) := by decide +kernel
theorem dX0_sameWrongs_11 : decode cX0_sameWrongs 11 = .ok (.istore 5, 2) := by decide +kernel
theorem dX0_sameWrongs_13 : decode cX0_sameWrongs 13 = .ok (.iload 5, 2) := by decide +kernel
theorem dX0_sameWrongs_15 : decode cX0_sameWrongs 15 = .ok (.aload_n 0, 1) := by decide +kernel
theorem dX0_sameWrongs_16 : decode cX0_sameWrongs 16 = .ok (.getfield 21, 3) := by decide +kernel
theorem dX0_sameWrongs_19 : decode cX0_sameWrongs 19 = .ok (.iload_n 3, 1) := by decide +kernel
theorem dX0_sameWrongs_20 : decode cX0_sameWrongs 20 = .ok (.iaload, 1) := by decide +kernel
theorem dX0_sameWrongs_21 : decode cX0_sameWrongs 21 = .ok (.if_icmp .ge 76, 3) := by decide +kernel
theorem dX0_sameWrongs_24 : decode cX0_sameWrongs 24 = .ok (.aload_n 0, 1) := by decide +kernel
theorem dX0_sameWrongs_25 : decode cX0_sameWrongs 25 = .ok (.getfield 36, 3) := by decide +kernel
theorem dX0_sameWrongs_28 : decode cX0_sameWrongs 28 = .ok (.iload_n 1, 1) := by decide +kernel
theorem dX0_sameWrongs_29 : decode cX0_sameWrongs 29 = .ok (.bipush 12, 2) := by decide +kernel
theorem dX0_sameWrongs_31 : decode cX0_sameWrongs 31 = .ok (.imul, 1) := by decide +kernel
theorem dX0_sameWrongs_32 : decode cX0_sameWrongs 32 = .ok (.iload 5, 2) := by decide +kernel
theorem dX0_sameWrongs_34 : decode cX0_sameWrongs 34 = .ok (.iadd, 1) := by decide +kernel
theorem dX0_sameWrongs_35 : decode cX0_sameWrongs 35 = .ok (.iaload, 1) := by decide +kernel
theorem dX0_sameWrongs_36 : decode cX0_sameWrongs 36 = .ok (.istore 6, 2) := by decide +kernel
theorem dX0_sameWrongs_38 : decode cX0_sameWrongs 38 = .ok (.iload 6, 2) := by decide +kernel
theorem dX0_sameWrongs_40 : decode cX0_sameWrongs 40 = .ok (.iconst (-1), 1) := by decide +kernel
theorem dX0_sameWrongs_41 : decode cX0_sameWrongs 41 = .ok (.if_icmp .eq 50, 3) := by decide +kernel
theorem dX0_sameWrongs_44 : decode cX0_sameWrongs 44 = .ok (.iload 6, 2) := by decide +kernel
theorem dX0_sameWrongs_46 : decode cX0_sameWrongs 46 = .ok (.aload_n 0, 1) := by decide +kernel
theorem dX0_sameWrongs_47 : decode cX0_sameWrongs 47 = .ok (.getfield 36, 3) := by decide +kernel
theorem dX0_sameWrongs_50 : decode cX0_sameWrongs 50 = .ok (.iload_n 2, 1) := by decide +kernel
theorem dX0_sameWrongs_51 : decode cX0_sameWrongs 51 = .ok (.bipush 12, 2) := by decide +kernel
theorem dX0_sameWrongs_53 : decode cX0_sameWrongs 53 = .ok (.imul, 1) := by decide +kernel
theorem dX0_sameWrongs_54 : decode cX0_sameWrongs 54 = .ok (.iload 5, 2) := by decide +kernel
theorem dX0_sameWrongs_56 : decode cX0_sameWrongs 56 = .ok (.iadd, 1) := by decide +kernel
theorem dX0_sameWrongs_57 : decode cX0_sameWrongs 57 = .ok (.iaload, 1) := by decide +kernel
theorem dX0_sameWrongs_58 : decode cX0_sameWrongs 58 = .ok (.if_icmp .ne 33, 3) := by decide +kernel
theorem dX0_sameWrongs_61 : decode cX0_sameWrongs 61 = .ok (.aload_n 0, 1) := by decide +kernel
theorem dX0_sameWrongs_62 : decode cX0_sameWrongs 62 = .ok (.iload_n 1, 1) := by decide +kernel
theorem dX0_sameWrongs_63 : decode cX0_sameWrongs 63 = .ok (.iload 5, 2) := by decide +kernel
theorem dX0_sameWrongs_65 : decode cX0_sameWrongs 65 = .ok (.invokevirtual 111, 3) := by decide +kernel
theorem dX0_sameWrongs_68 : decode cX0_sameWrongs 68 = .ok (.aload_n 0, 1) := by decide +kernel
theorem dX0_sameWrongs_69 : decode cX0_sameWrongs 69 = .ok (.getfield 15, 3) := by decide +kernel
theorem dX0_sameWrongs_72 : decode cX0_sameWrongs 72 = .ok (.aload_n 0, 1) := by decide +kernel
theorem dX0_sameWrongs_73 : decode cX0_sameWrongs 73 = .ok (.getfield 27, 3) := by decide +kernel
theorem dX0_sameWrongs_76 : decode cX0_sameWrongs 76 = .ok (.iload_n 3, 1) := by decide +kernel
theorem dX0_sameWrongs_77 : decode cX0_sameWrongs 77 = .ok (.bipush 12, 2) := by decide +kernel
theorem dX0_sameWrongs_79 : decode cX0_sameWrongs 79 = .ok (.imul, 1) := by decide +kernel
theorem dX0_sameWrongs_80 : decode cX0_sameWrongs 80 = .ok (.iload 5, 2) := by decide +kernel
theorem dX0_sameWrongs_82 : decode cX0_sameWrongs 82 = .ok (.iadd, 1) := by decide +kernel
theorem dX0_sameWrongs_83 : decode cX0_sameWrongs 83 = .ok (.iaload, 1) := by decide +kernel
theorem dX0_sameWrongs_84 : decode cX0_sameWrongs 84 = .ok (.iaload, 1) := by decide +kernel
theorem dX0_sameWrongs_85 : decode cX0_sameWrongs 85 = .ok (.if_icmp .ge 6, 3) := by decide +kernel
theorem dX0_sameWrongs_88 : decode cX0_sameWrongs 88 = .ok (.iinc 4 1, 3) := by decide +kernel
theorem dX0_sameWrongs_91 : decode cX0_sameWrongs 91 = .ok (.iinc 5 1, 3) := by decide +kernel
theorem dX0_sameWrongs_94 : decode cX0_sameWrongs 94 = .ok (.goto (-81), 3) := by decide +kernel
theorem dX0_sameWrongs_97 : decode cX0_sameWrongs 97 = .ok (.iload 4, 2) := by decide +kernel
theorem dX0_sameWrongs_99 : decode cX0_sameWrongs 99 = .ok (.ireturn, 1) := by decide +kernel
theorem dX0_fraction_0 : decode cX0_fraction 0 = .ok (.lload_n 0, 1) := by decide +kernel
theorem dX0_fraction_1 : decode cX0_fraction 1 = .ok (.invokestatic 189, 3) := by decide +kernel
theorem dX0_fraction_4 : decode cX0_fraction 4 = .ok (.lload_n 2, 1) := by decide +kernel
theorem dX0_fraction_5 : decode cX0_fraction 5 = .ok (.invokestatic 212, 3) := by decide +kernel
theorem dX0_fraction_8 : decode cX0_fraction 8 = .ok (.lstore 5, 2) := by decide +kernel
theorem dX0_fraction_10 : decode cX0_fraction 10 = .ok (.lload 5, 2) := by decide +kernel
theorem dX0_fraction_12 : decode cX0_fraction 12 = .ok (.lconst 0, 1) := by decide +kernel
theorem dX0_fraction_13 : decode cX0_fraction 13 = .ok (.lcmp, 1) := by decide +kernel
theorem dX0_fraction_14 : decode cX0_fraction 14 = .ok (.ifCond .gt 7, 3) := by decide +kernel
theorem dX0_fraction_17 : decode cX0_fraction 17 = .ok (.ldc2_w 127, 3) := by decide +kernel
theorem dX0_fraction_20 : decode cX0_fraction 20 = .ok (.lreturn, 1) := by decide +kernel
theorem dX0_fraction_21 : decode cX0_fraction 21 = .ok (.iload 4, 2) := by decide +kernel
theorem dX0_fraction_23 : decode cX0_fraction 23 = .ok (.ifCond .ne 7, 3) := by decide +kernel
theorem dX0_fraction_26 : decode cX0_fraction 26 = .ok (.lload_n 0, 1) := by decide +kernel
theorem dX0_fraction_27 : decode cX0_fraction 27 = .ok (.goto 4, 3) := by decide +kernel
theorem dX0_fraction_30 : decode cX0_fraction 30 = .ok (.lload_n 2, 1) := by decide +kernel
theorem dX0_fraction_31 : decode cX0_fraction 31 = .ok (.lload 5, 2) := by decide +kernel
theorem dX0_fraction_33 : decode cX0_fraction 33 = .ok (.ldiv, 1) := by decide +kernel
theorem dX0_fraction_34 : decode cX0_fraction 34 = .ok (.lreturn, 1) := by decide +kernel
theorem dX0_commonDivisor_0 : decode cX0_commonDivisor 0 = .ok (.lload_n 0, 1) := by decide +kernel
theorem dX0_commonDivisor_1 : decode cX0_commonDivisor 1 = .ok (.lstore 4, 2) := by decide +kernel
theorem dX0_commonDivisor_3 : decode cX0_commonDivisor 3 = .ok (.lload_n 2, 1) := by decide +kernel
theorem dX0_commonDivisor_4 : decode cX0_commonDivisor 4 = .ok (.lstore 6, 2) := by decide +kernel
theorem dX0_commonDivisor_6 : decode cX0_commonDivisor 6 = .ok (.iconst 0, 1) := by decide +kernel
theorem dX0_commonDivisor_7 : decode cX0_commonDivisor 7 = .ok (.istore 8, 2) := by decide +kernel
theorem dX0_commonDivisor_9 : decode cX0_commonDivisor 9 = .ok (.iload 8, 2) := by decide +kernel
theorem dX0_commonDivisor_11 : decode cX0_commonDivisor 11 = .ok (.sipush 200, 3) := by decide +kernel
theorem dX0_commonDivisor_14 : decode cX0_commonDivisor 14 = .ok (.if_icmp .ge 31, 3) := by decide +kernel
theorem dX0_commonDivisor_17 : decode cX0_commonDivisor 17 = .ok (.lload 6, 2) := by decide +kernel
theorem dX0_commonDivisor_19 : decode cX0_commonDivisor 19 = .ok (.lconst 0, 1) := by decide +kernel
theorem dX0_commonDivisor_20 : decode cX0_commonDivisor 20 = .ok (.lcmp, 1) := by decide +kernel
theorem dX0_commonDivisor_21 : decode cX0_commonDivisor 21 = .ok (.ifCond .eq 24, 3) := by decide +kernel
theorem dX0_commonDivisor_24 : decode cX0_commonDivisor 24 = .ok (.lload 4, 2) := by decide +kernel
theorem dX0_commonDivisor_26 : decode cX0_commonDivisor 26 = .ok (.lload 6, 2) := by decide +kernel
theorem dX0_commonDivisor_28 : decode cX0_commonDivisor 28 = .ok (.lrem, 1) := by decide +kernel
theorem dX0_commonDivisor_29 : decode cX0_commonDivisor 29 = .ok (.lstore 9, 2) := by decide +kernel
theorem dX0_commonDivisor_31 : decode cX0_commonDivisor 31 = .ok (.lload 6, 2) := by decide +kernel
theorem dX0_commonDivisor_33 : decode cX0_commonDivisor 33 = .ok (.lstore 4, 2) := by decide +kernel
theorem dX0_commonDivisor_35 : decode cX0_commonDivisor 35 = .ok (.lload 9, 2) := by decide +kernel
theorem dX0_commonDivisor_37 : decode cX0_commonDivisor 37 = .ok (.lstore 6, 2) := by decide +kernel
theorem dX0_commonDivisor_39 : decode cX0_commonDivisor 39 = .ok (.iinc 8 1, 3) := by decide +kernel
theorem dX0_commonDivisor_42 : decode cX0_commonDivisor 42 = .ok (.goto (-33), 3) := by decide +kernel
theorem dX0_commonDivisor_45 : decode cX0_commonDivisor 45 = .ok (.lload 4, 2) := by decide +kernel
theorem dX0_commonDivisor_47 : decode cX0_commonDivisor 47 = .ok (.lreturn, 1) := by decide +kernel
end
section
theorem dX1_init_0 : decode cX1_init 0 = .ok (.aload_n 0, 1) := by decide +kernel
theorem dX1_init_1 : decode cX1_init 1 = .ok (.invokespecial 1, 3) := by decide +kernel
theorem dX1_init_4 : decode cX1_init 4 = .ok (.aload_n 0, 1) := by decide +kernel
theorem dX1_init_5 : decode cX1_init 5 = .ok (.iconst 0, 1) := by decide +kernel
theorem dX1_init_6 : decode cX1_init 6 = .ok (.putfield 7, 3) := by decide +kernel
theorem dX1_init_9 : decode cX1_init 9 = .ok (.aload_n 0, 1) := by decide +kernel
theorem dX1_init_10 : decode cX1_init 10 = .ok (.iconst 0, 1) := by decide +kernel
theorem dX1_init_11 : decode cX1_init 11 = .ok (.putfield 13, 3) := by decide +kernel
theorem dX1_init_14 : decode cX1_init 14 = .ok (.aload_n 0, 1) := by decide +kernel
theorem dX1_init_15 : decode cX1_init 15 = .ok (.iconst 0, 1) := by decide +kernel
theorem dX1_init_16 : decode cX1_init 16 = .ok (.putfield 16, 3) := by decide +kernel
theorem dX1_init_19 : decode cX1_init 19 = .ok (.aload_n 0, 1) := by decide +kernel
theorem dX1_init_20 : decode cX1_init 20 = .ok (.bipush 30, 2) := by decide +kernel
theorem dX1_init_22 : decode cX1_init 22 = .ok (.newarray .int, 2) := by decide +kernel
theorem dX1_init_24 : decode cX1_init 24 = .ok (.putfield 19, 3) := by decide +kernel
theorem dX1_init_27 : decode cX1_init 27 = .ok (.aload_n 0, 1) := by decide +kernel
theorem dX1_init_28 : decode cX1_init 28 = .ok (.bipush 30, 2) := by decide +kernel
theorem dX1_init_30 : decode cX1_init 30 = .ok (.newarray .int, 2) := by decide +kernel
theorem dX1_init_32 : decode cX1_init 32 = .ok (.putfield 23, 3) := by decide +kernel
theorem dX1_init_35 : decode cX1_init 35 = .ok (.aload_n 0, 1) := by decide +kernel
theorem dX1_init_36 : decode cX1_init 36 = .ok (.bipush 30, 2) := by decide +kernel
theorem dX1_init_38 : decode cX1_init 38 = .ok (.newarray .int, 2) := by decide +kernel
theorem dX1_init_40 : decode cX1_init 40 = .ok (.putfield 26, 3) := by decide +kernel
theorem dX1_init_43 : decode cX1_init 43 = .ok (.aload_n 0, 1) := by decide +kernel
theorem dX1_init_44 : decode cX1_init 44 = .ok (.bipush 30, 2) := by decide +kernel
theorem dX1_init_46 : decode cX1_init 46 = .ok (.newarray .boolean, 2) := by decide +kernel
theorem dX1_init_48 : decode cX1_init 48 = .ok (.putfield 29, 3) := by decide +kernel
theorem dX1_init_51 : decode cX1_init 51 = .ok (.aload_n 0, 1) := by decide +kernel
theorem dX1_init_52 : decode cX1_init 52 = .ok (.bipush 96, 2) := by decide +kernel
theorem dX1_init_54 : decode cX1_init 54 = .ok (.newarray .int, 2) := by decide +kernel
theorem dX1_init_56 : decode cX1_init 56 = .ok (.putfield 33, 3) := by decide +kernel
theorem dX1_init_59 : decode cX1_init 59 = .ok (.aload_n 0, 1) := by decide +kernel
theorem dX1_init_60 : decode cX1_init 60 = .ok (.bipush 8, 2) := by decide +kernel
theorem dX1_init_62 : decode cX1_init 62 = .ok (.newarray .int, 2) := by decide +kernel
theorem dX1_init_64 : decode cX1_init 64 = .ok (.putfield 36, 3) := by decide +kernel
theorem dX1_init_67 : decode cX1_init 67 = .ok (.aload_n 0, 1) := by decide +kernel
theorem dX1_init_68 : decode cX1_init 68 = .ok (.bipush 60, 2) := by decide +kernel
theorem dX1_init_70 : decode cX1_init 70 = .ok (.newarray .int, 2) := by decide +kernel
theorem dX1_init_72 : decode cX1_init 72 = .ok (.putfield 39, 3) := by decide +kernel
theorem dX1_init_75 : decode cX1_init 75 = .ok (.aload_n 0, 1) := by decide +kernel
theorem dX1_init_76 : decode cX1_init 76 = .ok (.bipush 60, 2) := by decide +kernel
theorem dX1_init_78 : decode cX1_init 78 = .ok (.newarray .int, 2) := by decide +kernel
theorem dX1_init_80 : decode cX1_init 80 = .ok (.putfield 42, 3) := by decide +kernel
theorem dX1_init_83 : decode cX1_init 83 = .ok (.aload_n 0, 1) := by decide +kernel
theorem dX1_init_84 : decode cX1_init 84 = .ok (.sipush 720, 3) := by decide +kernel
theorem dX1_init_87 : decode cX1_init 87 = .ok (.newarray .int, 2) := by decide +kernel
theorem dX1_init_89 : decode cX1_init 89 = .ok (.putfield 45, 3) := by decide +kernel
theorem dX1_init_92 : decode cX1_init 92 = .ok (.aload_n 0, 1) := by decide +kernel
theorem dX1_init_93 : decode cX1_init 93 = .ok (.sipush 768, 3) := by decide +kernel
theorem dX1_init_96 : decode cX1_init 96 = .ok (.newarray .int, 2) := by decide +kernel
theorem dX1_init_98 : decode cX1_init 98 = .ok (.putfield 48, 3) := by decide +kernel
theorem dX1_init_101 : decode cX1_init 101 = .ok (.return_, 1) := by decide +kernel
theorem dX1_in_0 : decode cX1_in 0 = .ok (.iload_n 1, 1) := by decide +kernel
theorem dX1_in_1 : decode cX1_in 1 = .ok (.iload_n 2, 1) := by decide +kernel
theorem dX1_in_2 : decode cX1_in 2 = .ok (.if_icmp .lt 12, 3) := by decide +kernel
theorem dX1_in_5 : decode cX1_in 5 = .ok (.iload_n 1, 1) := by decide +kernel
theorem dX1_in_6 : decode cX1_in 6 = .ok (.iload_n 3, 1) := by decide +kernel
theorem dX1_in_7 : decode cX1_in 7 = .ok (.if_icmp .gt 7, 3) := by decide +kernel
theorem dX1_in_10 : decode cX1_in 10 = .ok (.iconst 1, 1) := by decide +kernel
theorem dX1_in_11 : decode cX1_in 11 = .ok (.goto 4, 3) := by decide +kernel
theorem dX1_in_14 : decode cX1_in 14 = .ok (.iconst 0, 1) := by decide +kernel
theorem dX1_in_15 : decode cX1_in 15 = .ok (.ireturn, 1) := by decide +kernel
theorem dX1_isQuestion_0 : decode cX1_isQuestion 0 = .ok (.aload_n 0, 1) := by decide +kernel
theorem dX1_isQuestion_1 : decode cX1_isQuestion 1 = .ok (.iload_n 1, 1) := by decide +kernel
theorem dX1_isQuestion_2 : decode cX1_isQuestion 2 = .ok (.iconst 0, 1) := by decide +kernel
theorem dX1_isQuestion_3 : decode cX1_isQuestion 3 = .ok (.aload_n 0, 1) := by decide +kernel
theorem dX1_isQuestion_4 : decode cX1_isQuestion 4 = .ok (.getfield 7, 3) := by decide +kernel
theorem dX1_isQuestion_7 : decode cX1_isQuestion 7 = .ok (.iconst 1, 1) := by decide +kernel
theorem dX1_isQuestion_8 : decode cX1_isQuestion 8 = .ok (.isub, 1) := by decide +kernel
theorem dX1_isQuestion_9 : decode cX1_isQuestion 9 = .ok (.invokevirtual 51, 3) := by decide +kernel
theorem dX1_isQuestion_12 : decode cX1_isQuestion 12 = .ok (.ireturn, 1) := by decide +kernel
theorem dX1_isPaper_0 : decode cX1_isPaper 0 = .ok (.aload_n 0, 1) := by decide +kernel
theorem dX1_isPaper_1 : decode cX1_isPaper 1 = .ok (.iload_n 1, 1) := by decide +kernel
theorem dX1_isPaper_2 : decode cX1_isPaper 2 = .ok (.iconst 0, 1) := by decide +kernel
theorem dX1_isPaper_3 : decode cX1_isPaper 3 = .ok (.aload_n 0, 1) := by decide +kernel
theorem dX1_isPaper_4 : decode cX1_isPaper 4 = .ok (.getfield 13, 3) := by decide +kernel
theorem dX1_isPaper_7 : decode cX1_isPaper 7 = .ok (.iconst 1, 1) := by decide +kernel
theorem dX1_isPaper_8 : decode cX1_isPaper 8 = .ok (.isub, 1) := by decide +kernel
theorem dX1_isPaper_9 : decode cX1_isPaper 9 = .ok (.invokevirtual 51, 3) := by decide +kernel
theorem dX1_isPaper_12 : decode cX1_isPaper 12 = .ok (.ireturn, 1) := by decide +kernel
theorem dX1_isPupil_0 : decode cX1_isPupil 0 = .ok (.aload_n 0, 1) := by decide +kernel
theorem dX1_isPupil_1 : decode cX1_isPupil 1 = .ok (.iload_n 1, 1) := by decide +kernel
theorem dX1_isPupil_2 : decode cX1_isPupil 2 = .ok (.iconst 0, 1) := by decide +kernel
theorem dX1_isPupil_3 : decode cX1_isPupil 3 = .ok (.aload_n 0, 1) := by decide +kernel
theorem dX1_isPupil_4 : decode cX1_isPupil 4 = .ok (.getfield 16, 3) := by decide +kernel
theorem dX1_isPupil_7 : decode cX1_isPupil 7 = .ok (.iconst 1, 1) := by decide +kernel
theorem dX1_isPupil_8 : decode cX1_isPupil 8 = .ok (.isub, 1) := by decide +kernel
theorem dX1_isPupil_9 : decode cX1_isPupil 9 = .ok (.invokevirtual 51, 3) := by decide +kernel
theorem dX1_isPupil_12 : decode cX1_isPupil 12 = .ok (.ireturn, 1) := by decide +kernel
theorem dX1_isKey_0 : decode cX1_isKey 0 = .ok (.iload_n 1, 1) := by decide +kernel
theorem dX1_isKey_1 : decode cX1_isKey 1 = .ok (.iconst 1, 1) := by decide +kernel
theorem dX1_isKey_2 : decode cX1_isKey 2 = .ok (.if_icmp .ne 15, 3) := by decide +kernel
theorem dX1_isKey_5 : decode cX1_isKey 5 = .ok (.aload_n 0, 1) := by decide +kernel
theorem dX1_isKey_6 : decode cX1_isKey 6 = .ok (.iload_n 2, 1) := by decide +kernel
theorem dX1_isKey_7 : decode cX1_isKey 7 = .ok (.iconst 1, 1) := by decide +kernel
theorem dX1_isKey_8 : decode cX1_isKey 8 = .ok (.sipush 255, 3) := by decide +kernel
theorem dX1_isKey_11 : decode cX1_isKey 11 = .ok (.invokevirtual 51, 3) := by decide +kernel
theorem dX1_isKey_14 : decode cX1_isKey 14 = .ok (.goto 12, 3) := by decide +kernel
theorem dX1_isKey_17 : decode cX1_isKey 17 = .ok (.iload_n 2, 1) := by decide +kernel
theorem dX1_isKey_18 : decode cX1_isKey 18 = .ok (.ifCond .ne 7, 3) := by decide +kernel
theorem dX1_isKey_21 : decode cX1_isKey 21 = .ok (.iconst 1, 1) := by decide +kernel
theorem dX1_isKey_22 : decode cX1_isKey 22 = .ok (.goto 4, 3) := by decide +kernel
theorem dX1_isKey_25 : decode cX1_isKey 25 = .ok (.iconst 0, 1) := by decide +kernel
theorem dX1_isKey_26 : decode cX1_isKey 26 = .ok (.ireturn, 1) := by decide +kernel
theorem dX1_question_0 : decode cX1_question 0 = .ok (.aload_n 0, 1) := by decide +kernel
theorem dX1_question_1 : decode cX1_question 1 = .ok (.iload_n 1, 1) := by decide +kernel
theorem dX1_question_2 : decode cX1_question 2 = .ok (.iconst 0, 1) := by decide +kernel
theorem dX1_question_3 : decode cX1_question 3 = .ok (.iconst 3, 1) := by decide +kernel
theorem dX1_question_4 : decode cX1_question 4 = .ok (.invokevirtual 51, 3) := by decide +kernel
theorem dX1_question_7 : decode cX1_question 7 = .ok (.ifCond .eq 23, 3) := by decide +kernel
theorem dX1_question_10 : decode cX1_question 10 = .ok (.aload_n 0, 1) := by decide +kernel
theorem dX1_question_11 : decode cX1_question 11 = .ok (.iload_n 2, 1) := by decide +kernel
theorem dX1_question_12 : decode cX1_question 12 = .ok (.iconst 1, 1) := by decide +kernel
theorem dX1_question_13 : decode cX1_question 13 = .ok (.bipush 10, 2) := by decide +kernel
theorem dX1_question_15 : decode cX1_question 15 = .ok (.invokevirtual 51, 3) := by decide +kernel
theorem dX1_question_18 : decode cX1_question 18 = .ok (.ifCond .eq 12, 3) := by decide +kernel
theorem dX1_question_21 : decode cX1_question 21 = .ok (.aload_n 0, 1) := by decide +kernel
theorem dX1_question_22 : decode cX1_question 22 = .ok (.iload_n 1, 1) := by decide +kernel
theorem dX1_question_23 : decode cX1_question 23 = .ok (.iload_n 3, 1) := by decide +kernel
theorem dX1_question_24 : decode cX1_question 24 = .ok (.invokevirtual 55, 3) := by decide +kernel
theorem dX1_question_27 : decode cX1_question 27 = .ok (.ifCond .ne 6, 3) := by decide +kernel
theorem dX1_question_30 : decode cX1_question 30 = .ok (.bipush (-2), 2) := by decide +kernel
theorem dX1_question_32 : decode cX1_question 32 = .ok (.ireturn, 1) := by decide +kernel
theorem dX1_question_33 : decode cX1_question 33 = .ok (.aload_n 0, 1) := by decide +kernel
theorem dX1_question_34 : decode cX1_question 34 = .ok (.getfield 7, 3) := by decide +kernel
theorem dX1_question_37 : decode cX1_question 37 = .ok (.bipush 30, 2) := by decide +kernel
theorem dX1_question_39 : decode cX1_question 39 = .ok (.if_icmp .ne 6, 3) := by decide +kernel
theorem dX1_question_42 : decode cX1_question 42 = .ok (.bipush (-4), 2) := by decide +kernel
theorem dX1_question_44 : decode cX1_question 44 = .ok (.ireturn, 1) := by decide +kernel
theorem dX1_question_45 : decode cX1_question 45 = .ok (.aload_n 0, 1) := by decide +kernel
theorem dX1_question_46 : decode cX1_question 46 = .ok (.getfield 19, 3) := by decide +kernel
theorem dX1_question_49 : decode cX1_question 49 = .ok (.aload_n 0, 1) := by decide +kernel
theorem dX1_question_50 : decode cX1_question 50 = .ok (.getfield 7, 3) := by decide +kernel
theorem dX1_question_53 : decode cX1_question 53 = .ok (.iload_n 1, 1) := by decide +kernel
theorem dX1_question_54 : decode cX1_question 54 = .ok (.iastore, 1) := by decide +kernel
theorem dX1_question_55 : decode cX1_question 55 = .ok (.aload_n 0, 1) := by decide +kernel
theorem dX1_question_56 : decode cX1_question 56 = .ok (.getfield 23, 3) := by decide +kernel
theorem dX1_question_59 : decode cX1_question 59 = .ok (.aload_n 0, 1) := by decide +kernel
theorem dX1_question_60 : decode cX1_question 60 = .ok (.getfield 7, 3) := by decide +kernel
theorem dX1_question_63 : decode cX1_question 63 = .ok (.iload_n 2, 1) := by decide +kernel
theorem dX1_question_64 : decode cX1_question 64 = .ok (.iastore, 1) := by decide +kernel
theorem dX1_question_65 : decode cX1_question 65 = .ok (.aload_n 0, 1) := by decide +kernel
theorem dX1_question_66 : decode cX1_question 66 = .ok (.getfield 26, 3) := by decide +kernel
theorem dX1_question_69 : decode cX1_question 69 = .ok (.aload_n 0, 1) := by decide +kernel
theorem dX1_question_70 : decode cX1_question 70 = .ok (.getfield 7, 3) := by decide +kernel
theorem dX1_question_73 : decode cX1_question 73 = .ok (.iload_n 3, 1) := by decide +kernel
theorem dX1_question_74 : decode cX1_question 74 = .ok (.iastore, 1) := by decide +kernel
theorem dX1_question_75 : decode cX1_question 75 = .ok (.aload_n 0, 1) := by decide +kernel
theorem dX1_question_76 : decode cX1_question 76 = .ok (.dup, 1) := by decide +kernel
theorem dX1_question_77 : decode cX1_question 77 = .ok (.getfield 7, 3) := by decide +kernel
theorem dX1_question_80 : decode cX1_question 80 = .ok (.iconst 1, 1) := by decide +kernel
theorem dX1_question_81 : decode cX1_question 81 = .ok (.iadd, 1) := by decide +kernel
theorem dX1_question_82 : decode cX1_question 82 = .ok (.putfield 7, 3) := by decide +kernel
theorem dX1_question_85 : decode cX1_question 85 = .ok (.aload_n 0, 1) := by decide +kernel
theorem dX1_question_86 : decode cX1_question 86 = .ok (.getfield 7, 3) := by decide +kernel
theorem dX1_question_89 : decode cX1_question 89 = .ok (.iconst 1, 1) := by decide +kernel
theorem dX1_question_90 : decode cX1_question 90 = .ok (.isub, 1) := by decide +kernel
theorem dX1_question_91 : decode cX1_question 91 = .ok (.ireturn, 1) := by decide +kernel
theorem dX1_key_0 : decode cX1_key 0 = .ok (.aload_n 0, 1) := by decide +kernel
theorem dX1_key_1 : decode cX1_key 1 = .ok (.iload_n 1, 1) := by decide +kernel
theorem dX1_key_2 : decode cX1_key 2 = .ok (.invokevirtual 59, 3) := by decide +kernel
theorem dX1_key_5 : decode cX1_key 5 = .ok (.ifCond .ne 5, 3) := by decide +kernel
theorem dX1_key_8 : decode cX1_key 8 = .ok (.iconst (-1), 1) := by decide +kernel
theorem dX1_key_9 : decode cX1_key 9 = .ok (.ireturn, 1) := by decide +kernel
theorem dX1_key_10 : decode cX1_key 10 = .ok (.aload_n 0, 1) := by decide +kernel
theorem dX1_key_11 : decode cX1_key 11 = .ok (.iload_n 2, 1) := by decide +kernel
theorem dX1_key_12 : decode cX1_key 12 = .ok (.iconst 1, 1) := by decide +kernel
theorem dX1_key_13 : decode cX1_key 13 = .ok (.sipush 255, 3) := by decide +kernel
theorem dX1_key_16 : decode cX1_key 16 = .ok (.invokevirtual 51, 3) := by decide +kernel
theorem dX1_key_19 : decode cX1_key 19 = .ok (.ifCond .ne 6, 3) := by decide +kernel
theorem dX1_key_22 : decode cX1_key 22 = .ok (.bipush (-2), 2) := by decide +kernel
theorem dX1_key_24 : decode cX1_key 24 = .ok (.ireturn, 1) := by decide +kernel
theorem dX1_key_25 : decode cX1_key 25 = .ok (.aload_n 0, 1) := by decide +kernel
theorem dX1_key_26 : decode cX1_key 26 = .ok (.getfield 19, 3) := by decide +kernel
theorem dX1_key_29 : decode cX1_key 29 = .ok (.iload_n 1, 1) := by decide +kernel
theorem dX1_key_30 : decode cX1_key 30 = .ok (.iaload, 1) := by decide +kernel
theorem dX1_key_31 : decode cX1_key 31 = .ok (.iconst 1, 1) := by decide +kernel
theorem dX1_key_32 : decode cX1_key 32 = .ok (.if_icmp .eq 6, 3) := by decide +kernel
theorem dX1_key_35 : decode cX1_key 35 = .ok (.bipush (-3), 2) := by decide +kernel
theorem dX1_key_37 : decode cX1_key 37 = .ok (.ireturn, 1) := by decide +kernel
theorem dX1_key_38 : decode cX1_key 38 = .ok (.aload_n 0, 1) := by decide +kernel
theorem dX1_key_39 : decode cX1_key 39 = .ok (.getfield 26, 3) := by decide +kernel
theorem dX1_key_42 : decode cX1_key 42 = .ok (.iload_n 1, 1) := by decide +kernel
theorem dX1_key_43 : decode cX1_key 43 = .ok (.iaload, 1) := by decide +kernel
theorem dX1_key_44 : decode cX1_key 44 = .ok (.istore_n 3, 1) := by decide +kernel
theorem dX1_key_45 : decode cX1_key 45 = .ok (.aload_n 0, 1) := by decide +kernel
theorem dX1_key_46 : decode cX1_key 46 = .ok (.getfield 26, 3) := by decide +kernel
theorem dX1_key_49 : decode cX1_key 49 = .ok (.iload_n 1, 1) := by decide +kernel
theorem dX1_key_50 : decode cX1_key 50 = .ok (.iload_n 2, 1) := by decide +kernel
theorem dX1_key_51 : decode cX1_key 51 = .ok (.iastore, 1) := by decide +kernel
theorem dX1_key_52 : decode cX1_key 52 = .ok (.iload_n 3, 1) := by decide +kernel
theorem dX1_key_53 : decode cX1_key 53 = .ok (.ireturn, 1) := by decide +kernel
theorem dX1_strike_0 : decode cX1_strike 0 = .ok (.aload_n 0, 1) := by decide +kernel
theorem dX1_strike_1 : decode cX1_strike 1 = .ok (.iload_n 1, 1) := by decide +kernel
theorem dX1_strike_2 : decode cX1_strike 2 = .ok (.invokevirtual 59, 3) := by decide +kernel
theorem dX1_strike_5 : decode cX1_strike 5 = .ok (.ifCond .ne 5, 3) := by decide +kernel
theorem dX1_strike_8 : decode cX1_strike 8 = .ok (.iconst (-1), 1) := by decide +kernel
theorem dX1_strike_9 : decode cX1_strike 9 = .ok (.ireturn, 1) := by decide +kernel
theorem dX1_strike_10 : decode cX1_strike 10 = .ok (.aload_n 0, 1) := by decide +kernel
theorem dX1_strike_11 : decode cX1_strike 11 = .ok (.iload_n 2, 1) := by decide +kernel
theorem dX1_strike_12 : decode cX1_strike 12 = .ok (.iconst 0, 1) := by decide +kernel
theorem dX1_strike_13 : decode cX1_strike 13 = .ok (.iconst 1, 1) := by decide +kernel
theorem dX1_strike_14 : decode cX1_strike 14 = .ok (.invokevirtual 51, 3) := by decide +kernel
theorem dX1_strike_17 : decode cX1_strike 17 = .ok (.ifCond .ne 6, 3) := by decide +kernel
theorem dX1_strike_20 : decode cX1_strike 20 = .ok (.bipush (-2), 2) := by decide +kernel
theorem dX1_strike_22 : decode cX1_strike 22 = .ok (.ireturn, 1) := by decide +kernel
theorem dX1_strike_23 : decode cX1_strike 23 = .ok (.aload_n 0, 1) := by decide +kernel
theorem dX1_strike_24 : decode cX1_strike 24 = .ok (.getfield 29, 3) := by decide +kernel
theorem dX1_strike_27 : decode cX1_strike 27 = .ok (.iload_n 1, 1) := by decide +kernel
theorem dX1_strike_28 : decode cX1_strike 28 = .ok (.baload, 1) := by decide +kernel
theorem dX1_strike_29 : decode cX1_strike 29 = .ok (.ifCond .eq 7, 3) := by decide +kernel
theorem dX1_strike_32 : decode cX1_strike 32 = .ok (.iconst 1, 1) := by decide +kernel
theorem dX1_strike_33 : decode cX1_strike 33 = .ok (.goto 4, 3) := by decide +kernel
theorem dX1_strike_36 : decode cX1_strike 36 = .ok (.iconst 0, 1) := by decide +kernel
theorem dX1_strike_37 : decode cX1_strike 37 = .ok (.istore_n 3, 1) := by decide +kernel
theorem dX1_strike_38 : decode cX1_strike 38 = .ok (.aload_n 0, 1) := by decide +kernel
theorem dX1_strike_39 : decode cX1_strike 39 = .ok (.getfield 29, 3) := by decide +kernel
theorem dX1_strike_42 : decode cX1_strike 42 = .ok (.iload_n 1, 1) := by decide +kernel
theorem dX1_strike_43 : decode cX1_strike 43 = .ok (.iload_n 2, 1) := by decide +kernel
theorem dX1_strike_44 : decode cX1_strike 44 = .ok (.iconst 1, 1) := by decide +kernel
theorem dX1_strike_45 : decode cX1_strike 45 = .ok (.if_icmp .ne 7, 3) := by decide +kernel
theorem dX1_strike_48 : decode cX1_strike 48 = .ok (.iconst 1, 1) := by decide +kernel
theorem dX1_strike_49 : decode cX1_strike 49 = .ok (.goto 4, 3) := by decide +kernel
theorem dX1_strike_52 : decode cX1_strike 52 = .ok (.iconst 0, 1) := by decide +kernel
theorem dX1_strike_53 : decode cX1_strike 53 = .ok (.bastore, 1) := by decide +kernel
theorem dX1_strike_54 : decode cX1_strike 54 = .ok (.iload_n 3, 1) := by decide +kernel
theorem dX1_strike_55 : decode cX1_strike 55 = .ok (.ireturn, 1) := by decide +kernel
theorem dX1_paper_0 : decode cX1_paper 0 = .ok (.aload_n 0, 1) := by decide +kernel
theorem dX1_paper_1 : decode cX1_paper 1 = .ok (.getfield 13, 3) := by decide +kernel
theorem dX1_paper_4 : decode cX1_paper 4 = .ok (.bipush 8, 2) := by decide +kernel
theorem dX1_paper_6 : decode cX1_paper 6 = .ok (.if_icmp .ne 6, 3) := by decide +kernel
theorem dX1_paper_9 : decode cX1_paper 9 = .ok (.bipush (-4), 2) := by decide +kernel
theorem dX1_paper_11 : decode cX1_paper 11 = .ok (.ireturn, 1) := by decide +kernel
theorem dX1_paper_12 : decode cX1_paper 12 = .ok (.aload_n 0, 1) := by decide +kernel
theorem dX1_paper_13 : decode cX1_paper 13 = .ok (.getfield 36, 3) := by decide +kernel
theorem dX1_paper_16 : decode cX1_paper 16 = .ok (.aload_n 0, 1) := by decide +kernel
theorem dX1_paper_17 : decode cX1_paper 17 = .ok (.getfield 13, 3) := by decide +kernel
theorem dX1_paper_20 : decode cX1_paper 20 = .ok (.iconst 0, 1) := by decide +kernel
theorem dX1_paper_21 : decode cX1_paper 21 = .ok (.iastore, 1) := by decide +kernel
theorem dX1_paper_22 : decode cX1_paper 22 = .ok (.aload_n 0, 1) := by decide +kernel
theorem dX1_paper_23 : decode cX1_paper 23 = .ok (.dup, 1) := by decide +kernel
theorem dX1_paper_24 : decode cX1_paper 24 = .ok (.getfield 13, 3) := by decide +kernel
theorem dX1_paper_27 : decode cX1_paper 27 = .ok (.iconst 1, 1) := by decide +kernel
theorem dX1_paper_28 : decode cX1_paper 28 = .ok (.iadd, 1) := by decide +kernel
theorem dX1_paper_29 : decode cX1_paper 29 = .ok (.putfield 13, 3) := by decide +kernel
theorem dX1_paper_32 : decode cX1_paper 32 = .ok (.aload_n 0, 1) := by decide +kernel
theorem dX1_paper_33 : decode cX1_paper 33 = .ok (.getfield 13, 3) := by decide +kernel
theorem dX1_paper_36 : decode cX1_paper 36 = .ok (.iconst 1, 1) := by decide +kernel
theorem dX1_paper_37 : decode cX1_paper 37 = .ok (.isub, 1) := by decide +kernel
theorem dX1_paper_38 : decode cX1_paper 38 = .ok (.ireturn, 1) := by decide +kernel
theorem dX1_spot_0 : decode cX1_spot 0 = .ok (.iconst 0, 1) := by decide +kernel
theorem dX1_spot_1 : decode cX1_spot 1 = .ok (.istore_n 3, 1) := by decide +kernel
theorem dX1_spot_2 : decode cX1_spot 2 = .ok (.iload_n 3, 1) := by decide +kernel
theorem dX1_spot_3 : decode cX1_spot 3 = .ok (.aload_n 0, 1) := by decide +kernel
theorem dX1_spot_4 : decode cX1_spot 4 = .ok (.getfield 36, 3) := by decide +kernel
theorem dX1_spot_7 : decode cX1_spot 7 = .ok (.iload_n 1, 1) := by decide +kernel
theorem dX1_spot_8 : decode cX1_spot 8 = .ok (.iaload, 1) := by decide +kernel
theorem dX1_spot_9 : decode cX1_spot 9 = .ok (.if_icmp .ge 26, 3) := by decide +kernel
theorem dX1_spot_12 : decode cX1_spot 12 = .ok (.aload_n 0, 1) := by decide +kernel
theorem dX1_spot_13 : decode cX1_spot 13 = .ok (.getfield 33, 3) := by decide +kernel
theorem dX1_spot_16 : decode cX1_spot 16 = .ok (.bipush 12, 2) := by decide +kernel
theorem dX1_spot_18 : decode cX1_spot 18 = .ok (.iload_n 1, 1) := by decide +kernel
theorem dX1_spot_19 : decode cX1_spot 19 = .ok (.imul, 1) := by decide +kernel
theorem dX1_spot_20 : decode cX1_spot 20 = .ok (.iload_n 3, 1) := by decide +kernel
theorem dX1_spot_21 : decode cX1_spot 21 = .ok (.iadd, 1) := by decide +kernel
theorem dX1_spot_22 : decode cX1_spot 22 = .ok (.iaload, 1) := by decide +kernel
theorem dX1_spot_23 : decode cX1_spot 23 = .ok (.iload_n 2, 1) := by decide +kernel
theorem dX1_spot_24 : decode cX1_spot 24 = .ok (.if_icmp .ne 5, 3) := by decide +kernel
theorem dX1_spot_27 : decode cX1_spot 27 = .ok (.iload_n 3, 1) := by decide +kernel
theorem dX1_spot_28 : decode cX1_spot 28 = .ok (.ireturn, 1) := by decide +kernel
theorem dX1_spot_29 : decode cX1_spot 29 = .ok (.iinc 3 1, 3) := by decide +kernel
theorem dX1_spot_32 : decode cX1_spot 32 = .ok (.goto (-30), 3) := by decide +kernel
theorem dX1_spot_35 : decode cX1_spot 35 = .ok (.iconst (-1), 1) := by decide +kernel
theorem dX1_spot_36 : decode cX1_spot 36 = .ok (.ireturn, 1) := by decide +kernel
theorem dX1_groupSize_0 : decode cX1_groupSize 0 = .ok (.iconst 0, 1) := by decide +kernel
theorem dX1_groupSize_1 : decode cX1_groupSize 1 = .ok (.istore_n 2, 1) := by decide +kernel
theorem dX1_groupSize_2 : decode cX1_groupSize 2 = .ok (.iconst 0, 1) := by decide +kernel
theorem dX1_groupSize_3 : decode cX1_groupSize 3 = .ok (.istore_n 3, 1) := by decide +kernel
theorem dX1_groupSize_4 : decode cX1_groupSize 4 = .ok (.iload_n 3, 1) := by decide +kernel
theorem dX1_groupSize_5 : decode cX1_groupSize 5 = .ok (.aload_n 0, 1) := by decide +kernel
theorem dX1_groupSize_6 : decode cX1_groupSize 6 = .ok (.getfield 16, 3) := by decide +kernel
theorem dX1_groupSize_9 : decode cX1_groupSize 9 = .ok (.if_icmp .ge 27, 3) := by decide +kernel
theorem dX1_groupSize_12 : decode cX1_groupSize 12 = .ok (.iload_n 2, 1) := by decide +kernel
theorem dX1_groupSize_13 : decode cX1_groupSize 13 = .ok (.aload_n 0, 1) := by decide +kernel
theorem dX1_groupSize_14 : decode cX1_groupSize 14 = .ok (.getfield 39, 3) := by decide +kernel
theorem dX1_groupSize_17 : decode cX1_groupSize 17 = .ok (.iload_n 3, 1) := by decide +kernel
theorem dX1_groupSize_18 : decode cX1_groupSize 18 = .ok (.iaload, 1) := by decide +kernel
theorem dX1_groupSize_19 : decode cX1_groupSize 19 = .ok (.iload_n 1, 1) := by decide +kernel
theorem dX1_groupSize_20 : decode cX1_groupSize 20 = .ok (.if_icmp .ne 7, 3) := by decide +kernel
theorem dX1_groupSize_23 : decode cX1_groupSize 23 = .ok (.iconst 1, 1) := by decide +kernel
theorem dX1_groupSize_24 : decode cX1_groupSize 24 = .ok (.goto 4, 3) := by decide +kernel
theorem dX1_groupSize_27 : decode cX1_groupSize 27 = .ok (.iconst 0, 1) := by decide +kernel
theorem dX1_groupSize_28 : decode cX1_groupSize 28 = .ok (.iadd, 1) := by decide +kernel
theorem dX1_groupSize_29 : decode cX1_groupSize 29 = .ok (.istore_n 2, 1) := by decide +kernel
theorem dX1_groupSize_30 : decode cX1_groupSize 30 = .ok (.iinc 3 1, 3) := by decide +kernel
theorem dX1_groupSize_33 : decode cX1_groupSize 33 = .ok (.goto (-29), 3) := by decide +kernel
theorem dX1_groupSize_36 : decode cX1_groupSize 36 = .ok (.iload_n 2, 1) := by decide +kernel
theorem dX1_groupSize_37 : decode cX1_groupSize 37 = .ok (.ireturn, 1) := by decide +kernel
theorem dX1_put_0 : decode cX1_put 0 = .ok (.aload_n 0, 1) := by decide +kernel
theorem dX1_put_1 : decode cX1_put 1 = .ok (.iload_n 1, 1) := by decide +kernel
theorem dX1_put_2 : decode cX1_put 2 = .ok (.invokevirtual 63, 3) := by decide +kernel
theorem dX1_put_5 : decode cX1_put 5 = .ok (.ifCond .eq 11, 3) := by decide +kernel
theorem dX1_put_8 : decode cX1_put 8 = .ok (.aload_n 0, 1) := by decide +kernel
theorem dX1_put_9 : decode cX1_put 9 = .ok (.iload_n 2, 1) := by decide +kernel
theorem dX1_put_10 : decode cX1_put 10 = .ok (.invokevirtual 59, 3) := by decide +kernel
theorem dX1_put_13 : decode cX1_put 13 = .ok (.ifCond .ne 5, 3) := by decide +kernel
theorem dX1_put_16 : decode cX1_put 16 = .ok (.iconst (-1), 1) := by decide +kernel
theorem dX1_put_17 : decode cX1_put 17 = .ok (.ireturn, 1) := by decide +kernel
theorem dX1_put_18 : decode cX1_put 18 = .ok (.aload_n 0, 1) := by decide +kernel
theorem dX1_put_19 : decode cX1_put 19 = .ok (.iload_n 1, 1) := by decide +kernel
theorem dX1_put_20 : decode cX1_put 20 = .ok (.iload_n 2, 1) := by decide +kernel
theorem dX1_put_21 : decode cX1_put 21 = .ok (.invokevirtual 66, 3) := by decide +kernel
theorem dX1_put_24 : decode cX1_put 24 = .ok (.ifCond .ge 11, 3) := by decide +kernel
theorem dX1_put_27 : decode cX1_put 27 = .ok (.aload_n 0, 1) := by decide +kernel
theorem dX1_put_28 : decode cX1_put 28 = .ok (.iload_n 1, 1) := by decide +kernel
theorem dX1_put_29 : decode cX1_put 29 = .ok (.invokevirtual 70, 3) := by decide +kernel
theorem dX1_put_32 : decode cX1_put 32 = .ok (.ifCond .le 6, 3) := by decide +kernel
theorem dX1_put_35 : decode cX1_put 35 = .ok (.bipush (-3), 2) := by decide +kernel
theorem dX1_put_37 : decode cX1_put 37 = .ok (.ireturn, 1) := by decide +kernel
theorem dX1_put_38 : decode cX1_put 38 = .ok (.aload_n 0, 1) := by decide +kernel
theorem dX1_put_39 : decode cX1_put 39 = .ok (.getfield 36, 3) := by decide +kernel
theorem dX1_put_42 : decode cX1_put 42 = .ok (.iload_n 1, 1) := by decide +kernel
theorem dX1_put_43 : decode cX1_put 43 = .ok (.iaload, 1) := by decide +kernel
theorem dX1_put_44 : decode cX1_put 44 = .ok (.bipush 12, 2) := by decide +kernel
theorem dX1_put_46 : decode cX1_put 46 = .ok (.if_icmp .ne 6, 3) := by decide +kernel
theorem dX1_put_49 : decode cX1_put 49 = .ok (.bipush (-4), 2) := by decide +kernel
theorem dX1_put_51 : decode cX1_put 51 = .ok (.ireturn, 1) := by decide +kernel
theorem dX1_put_52 : decode cX1_put 52 = .ok (.aload_n 0, 1) := by decide +kernel
theorem dX1_put_53 : decode cX1_put 53 = .ok (.getfield 33, 3) := by decide +kernel
theorem dX1_put_56 : decode cX1_put 56 = .ok (.bipush 12, 2) := by decide +kernel
theorem dX1_put_58 : decode cX1_put 58 = .ok (.iload_n 1, 1) := by decide +kernel
theorem dX1_put_59 : decode cX1_put 59 = .ok (.imul, 1) := by decide +kernel
theorem dX1_put_60 : decode cX1_put 60 = .ok (.aload_n 0, 1) := by decide +kernel
theorem dX1_put_61 : decode cX1_put 61 = .ok (.getfield 36, 3) := by decide +kernel
theorem dX1_put_64 : decode cX1_put 64 = .ok (.iload_n 1, 1) := by decide +kernel
theorem dX1_put_65 : decode cX1_put 65 = .ok (.iaload, 1) := by decide +kernel
theorem dX1_put_66 : decode cX1_put 66 = .ok (.iadd, 1) := by decide +kernel
theorem dX1_put_67 : decode cX1_put 67 = .ok (.iload_n 2, 1) := by decide +kernel
theorem dX1_put_68 : decode cX1_put 68 = .ok (.iastore, 1) := by decide +kernel
theorem dX1_put_69 : decode cX1_put 69 = .ok (.iconst 0, 1) := by decide +kernel
theorem dX1_put_70 : decode cX1_put 70 = .ok (.istore_n 3, 1) := by decide +kernel
theorem dX1_put_71 : decode cX1_put 71 = .ok (.iload_n 3, 1) := by decide +kernel
theorem dX1_put_72 : decode cX1_put 72 = .ok (.bipush 8, 2) := by decide +kernel
theorem dX1_put_74 : decode cX1_put 74 = .ok (.if_icmp .ge 31, 3) := by decide +kernel
theorem dX1_put_77 : decode cX1_put 77 = .ok (.aload_n 0, 1) := by decide +kernel
theorem dX1_put_78 : decode cX1_put 78 = .ok (.getfield 48, 3) := by decide +kernel
theorem dX1_put_81 : decode cX1_put 81 = .ok (.bipush 96, 2) := by decide +kernel
theorem dX1_put_83 : decode cX1_put 83 = .ok (.iload_n 3, 1) := by decide +kernel
theorem dX1_put_84 : decode cX1_put 84 = .ok (.imul, 1) := by decide +kernel
theorem dX1_put_85 : decode cX1_put 85 = .ok (.bipush 12, 2) := by decide +kernel
theorem dX1_put_87 : decode cX1_put 87 = .ok (.iload_n 1, 1) := by decide +kernel
theorem dX1_put_88 : decode cX1_put 88 = .ok (.imul, 1) := by decide +kernel
theorem dX1_put_89 : decode cX1_put 89 = .ok (.iadd, 1) := by decide +kernel
theorem dX1_put_90 : decode cX1_put 90 = .ok (.aload_n 0, 1) := by decide +kernel
theorem dX1_put_91 : decode cX1_put 91 = .ok (.getfield 36, 3) := by decide +kernel
theorem dX1_put_94 : decode cX1_put 94 = .ok (.iload_n 1, 1) := by decide +kernel
theorem dX1_put_95 : decode cX1_put 95 = .ok (.iaload, 1) := by decide +kernel
theorem dX1_put_96 : decode cX1_put 96 = .ok (.iadd, 1) := by decide +kernel
theorem dX1_put_97 : decode cX1_put 97 = .ok (.iconst (-1), 1) := by decide +kernel
theorem dX1_put_98 : decode cX1_put 98 = .ok (.iastore, 1) := by decide +kernel
theorem dX1_put_99 : decode cX1_put 99 = .ok (.iinc 3 1, 3) := by decide +kernel
theorem dX1_put_102 : decode cX1_put 102 = .ok (.goto (-31), 3) := by decide +kernel
theorem dX1_put_105 : decode cX1_put 105 = .ok (.aload_n 0, 1) := by decide +kernel
theorem dX1_put_106 : decode cX1_put 106 = .ok (.getfield 36, 3) := by decide +kernel
theorem dX1_put_109 : decode cX1_put 109 = .ok (.iload_n 1, 1) := by decide +kernel
theorem dX1_put_110 : decode cX1_put 110 = .ok (.dup2, 1) := by decide +kernel
theorem dX1_put_111 : decode cX1_put 111 = .ok (.iaload, 1) := by decide +kernel
theorem dX1_put_112 : decode cX1_put 112 = .ok (.iconst 1, 1) := by decide +kernel
theorem dX1_put_113 : decode cX1_put 113 = .ok (.iadd, 1) := by decide +kernel
theorem dX1_put_114 : decode cX1_put 114 = .ok (.iastore, 1) := by decide +kernel
theorem dX1_put_115 : decode cX1_put 115 = .ok (.aload_n 0, 1) := by decide +kernel
theorem dX1_put_116 : decode cX1_put 116 = .ok (.getfield 36, 3) := by decide +kernel
theorem dX1_put_119 : decode cX1_put 119 = .ok (.iload_n 1, 1) := by decide +kernel
theorem dX1_put_120 : decode cX1_put 120 = .ok (.iaload, 1) := by decide +kernel
theorem dX1_put_121 : decode cX1_put 121 = .ok (.iconst 1, 1) := by decide +kernel
theorem dX1_put_122 : decode cX1_put 122 = .ok (.isub, 1) := by decide +kernel
theorem dX1_put_123 : decode cX1_put 123 = .ok (.ireturn, 1) := by decide +kernel
theorem dX1_at_0 : decode cX1_at 0 = .ok (.aload_n 0, 1) := by decide +kernel
theorem dX1_at_1 : decode cX1_at 1 = .ok (.iload_n 1, 1) := by decide +kernel
theorem dX1_at_2 : decode cX1_at 2 = .ok (.invokevirtual 63, 3) := by decide +kernel
theorem dX1_at_5 : decode cX1_at 5 = .ok (.ifCond .eq 34, 3) := by decide +kernel
theorem dX1_at_8 : decode cX1_at 8 = .ok (.aload_n 0, 1) := by decide +kernel
theorem dX1_at_9 : decode cX1_at 9 = .ok (.iload_n 2, 1) := by decide +kernel
theorem dX1_at_10 : decode cX1_at 10 = .ok (.iconst 0, 1) := by decide +kernel
theorem dX1_at_11 : decode cX1_at 11 = .ok (.aload_n 0, 1) := by decide +kernel
theorem dX1_at_12 : decode cX1_at 12 = .ok (.getfield 36, 3) := by decide +kernel
theorem dX1_at_15 : decode cX1_at 15 = .ok (.iload_n 1, 1) := by decide +kernel
theorem dX1_at_16 : decode cX1_at 16 = .ok (.iaload, 1) := by decide +kernel
theorem dX1_at_17 : decode cX1_at 17 = .ok (.iconst 1, 1) := by decide +kernel
theorem dX1_at_18 : decode cX1_at 18 = .ok (.isub, 1) := by decide +kernel
theorem dX1_at_19 : decode cX1_at 19 = .ok (.invokevirtual 51, 3) := by decide +kernel
theorem dX1_at_22 : decode cX1_at 22 = .ok (.ifCond .eq 17, 3) := by decide +kernel
theorem dX1_at_25 : decode cX1_at 25 = .ok (.aload_n 0, 1) := by decide +kernel
theorem dX1_at_26 : decode cX1_at 26 = .ok (.getfield 33, 3) := by decide +kernel
theorem dX1_at_29 : decode cX1_at 29 = .ok (.bipush 12, 2) := by decide +kernel
theorem dX1_at_31 : decode cX1_at 31 = .ok (.iload_n 1, 1) := by decide +kernel
theorem dX1_at_32 : decode cX1_at 32 = .ok (.imul, 1) := by decide +kernel
theorem dX1_at_33 : decode cX1_at 33 = .ok (.iload_n 2, 1) := by decide +kernel
theorem dX1_at_34 : decode cX1_at 34 = .ok (.iadd, 1) := by decide +kernel
theorem dX1_at_35 : decode cX1_at 35 = .ok (.iaload, 1) := by decide +kernel
theorem dX1_at_36 : decode cX1_at 36 = .ok (.goto 4, 3) := by decide +kernel
theorem dX1_at_39 : decode cX1_at 39 = .ok (.iconst (-1), 1) := by decide +kernel
theorem dX1_at_40 : decode cX1_at 40 = .ok (.ireturn, 1) := by decide +kernel
theorem dX1_pupil_0 : decode cX1_pupil 0 = .ok (.aload_n 0, 1) := by decide +kernel
theorem dX1_pupil_1 : decode cX1_pupil 1 = .ok (.iload_n 1, 1) := by decide +kernel
theorem dX1_pupil_2 : decode cX1_pupil 2 = .ok (.invokevirtual 63, 3) := by decide +kernel
theorem dX1_pupil_5 : decode cX1_pupil 5 = .ok (.ifCond .eq 13, 3) := by decide +kernel
theorem dX1_pupil_8 : decode cX1_pupil 8 = .ok (.aload_n 0, 1) := by decide +kernel
theorem dX1_pupil_9 : decode cX1_pupil 9 = .ok (.iload_n 2, 1) := by decide +kernel
theorem dX1_pupil_10 : decode cX1_pupil 10 = .ok (.iconst 0, 1) := by decide +kernel
theorem dX1_pupil_11 : decode cX1_pupil 11 = .ok (.iconst 3, 1) := by decide +kernel
theorem dX1_pupil_12 : decode cX1_pupil 12 = .ok (.invokevirtual 51, 3) := by decide +kernel
theorem dX1_pupil_15 : decode cX1_pupil 15 = .ok (.ifCond .ne 5, 3) := by decide +kernel
theorem dX1_pupil_18 : decode cX1_pupil 18 = .ok (.iconst (-1), 1) := by decide +kernel
theorem dX1_pupil_19 : decode cX1_pupil 19 = .ok (.ireturn, 1) := by decide +kernel
theorem dX1_pupil_20 : decode cX1_pupil 20 = .ok (.aload_n 0, 1) := by decide +kernel
theorem dX1_pupil_21 : decode cX1_pupil 21 = .ok (.getfield 16, 3) := by decide +kernel
theorem dX1_pupil_24 : decode cX1_pupil 24 = .ok (.bipush 60, 2) := by decide +kernel
theorem dX1_pupil_26 : decode cX1_pupil 26 = .ok (.if_icmp .ne 6, 3) := by decide +kernel
theorem dX1_pupil_29 : decode cX1_pupil 29 = .ok (.bipush (-4), 2) := by decide +kernel
theorem dX1_pupil_31 : decode cX1_pupil 31 = .ok (.ireturn, 1) := by decide +kernel
theorem dX1_pupil_32 : decode cX1_pupil 32 = .ok (.aload_n 0, 1) := by decide +kernel
theorem dX1_pupil_33 : decode cX1_pupil 33 = .ok (.getfield 39, 3) := by decide +kernel
theorem dX1_pupil_36 : decode cX1_pupil 36 = .ok (.aload_n 0, 1) := by decide +kernel
theorem dX1_pupil_37 : decode cX1_pupil 37 = .ok (.getfield 16, 3) := by decide +kernel
theorem dX1_pupil_40 : decode cX1_pupil 40 = .ok (.iload_n 1, 1) := by decide +kernel
theorem dX1_pupil_41 : decode cX1_pupil 41 = .ok (.iastore, 1) := by decide +kernel
theorem dX1_pupil_42 : decode cX1_pupil 42 = .ok (.aload_n 0, 1) := by decide +kernel
theorem dX1_pupil_43 : decode cX1_pupil 43 = .ok (.getfield 42, 3) := by decide +kernel
theorem dX1_pupil_46 : decode cX1_pupil 46 = .ok (.aload_n 0, 1) := by decide +kernel
theorem dX1_pupil_47 : decode cX1_pupil 47 = .ok (.getfield 16, 3) := by decide +kernel
theorem dX1_pupil_50 : decode cX1_pupil 50 = .ok (.iload_n 2, 1) := by decide +kernel
theorem dX1_pupil_51 : decode cX1_pupil 51 = .ok (.iastore, 1) := by decide +kernel
theorem dX1_pupil_52 : decode cX1_pupil 52 = .ok (.iconst 0, 1) := by decide +kernel
theorem dX1_pupil_53 : decode cX1_pupil 53 = .ok (.istore_n 3, 1) := by decide +kernel
theorem dX1_pupil_54 : decode cX1_pupil 54 = .ok (.iload_n 3, 1) := by decide +kernel
theorem dX1_pupil_55 : decode cX1_pupil 55 = .ok (.bipush 12, 2) := by decide +kernel
theorem dX1_pupil_57 : decode cX1_pupil 57 = .ok (.if_icmp .ge 24, 3) := by decide +kernel
theorem dX1_pupil_60 : decode cX1_pupil 60 = .ok (.aload_n 0, 1) := by decide +kernel
theorem dX1_pupil_61 : decode cX1_pupil 61 = .ok (.getfield 45, 3) := by decide +kernel
theorem dX1_pupil_64 : decode cX1_pupil 64 = .ok (.bipush 12, 2) := by decide +kernel
theorem dX1_pupil_66 : decode cX1_pupil 66 = .ok (.aload_n 0, 1) := by decide +kernel
theorem dX1_pupil_67 : decode cX1_pupil 67 = .ok (.getfield 16, 3) := by decide +kernel
theorem dX1_pupil_70 : decode cX1_pupil 70 = .ok (.imul, 1) := by decide +kernel
theorem dX1_pupil_71 : decode cX1_pupil 71 = .ok (.iload_n 3, 1) := by decide +kernel
theorem dX1_pupil_72 : decode cX1_pupil 72 = .ok (.iadd, 1) := by decide +kernel
theorem dX1_pupil_73 : decode cX1_pupil 73 = .ok (.iconst (-1), 1) := by decide +kernel
theorem dX1_pupil_74 : decode cX1_pupil 74 = .ok (.iastore, 1) := by decide +kernel
theorem dX1_pupil_75 : decode cX1_pupil 75 = .ok (.iinc 3 1, 3) := by decide +kernel
theorem dX1_pupil_78 : decode cX1_pupil 78 = .ok (.goto (-24), 3) := by decide +kernel
theorem dX1_pupil_81 : decode cX1_pupil 81 = .ok (.aload_n 0, 1) := by decide +kernel
theorem dX1_pupil_82 : decode cX1_pupil 82 = .ok (.dup, 1) := by decide +kernel
theorem dX1_pupil_83 : decode cX1_pupil 83 = .ok (.getfield 16, 3) := by decide +kernel
theorem dX1_pupil_86 : decode cX1_pupil 86 = .ok (.iconst 1, 1) := by decide +kernel
theorem dX1_pupil_87 : decode cX1_pupil 87 = .ok (.iadd, 1) := by decide +kernel
theorem dX1_pupil_88 : decode cX1_pupil 88 = .ok (.putfield 16, 3) := by decide +kernel
theorem dX1_pupil_91 : decode cX1_pupil 91 = .ok (.aload_n 0, 1) := by decide +kernel
theorem dX1_pupil_92 : decode cX1_pupil 92 = .ok (.getfield 16, 3) := by decide +kernel
theorem dX1_pupil_95 : decode cX1_pupil 95 = .ok (.iconst 1, 1) := by decide +kernel
theorem dX1_pupil_96 : decode cX1_pupil 96 = .ok (.isub, 1) := by decide +kernel
theorem dX1_pupil_97 : decode cX1_pupil 97 = .ok (.ireturn, 1) := by decide +kernel
theorem dX1_isAnswer_0 : decode cX1_isAnswer 0 = .ok (.aload_n 0, 1) := by decide +kernel
theorem dX1_isAnswer_1 : decode cX1_isAnswer 1 = .ok (.getfield 19, 3) := by decide +kernel
theorem dX1_isAnswer_4 : decode cX1_isAnswer 4 = .ok (.iload_n 1, 1) := by decide +kernel
theorem dX1_isAnswer_5 : decode cX1_isAnswer 5 = .ok (.iaload, 1) := by decide +kernel
theorem dX1_isAnswer_6 : decode cX1_isAnswer 6 = .ok (.iconst 1, 1) := by decide +kernel
theorem dX1_isAnswer_7 : decode cX1_isAnswer 7 = .ok (.if_icmp .ne 8, 3) := by decide +kernel
theorem dX1_isAnswer_10 : decode cX1_isAnswer 10 = .ok (.bipush 7, 2) := by decide +kernel
theorem dX1_isAnswer_12 : decode cX1_isAnswer 12 = .ok (.goto 32, 3) := by decide +kernel
theorem dX1_isAnswer_15 : decode cX1_isAnswer 15 = .ok (.aload_n 0, 1) := by decide +kernel
theorem dX1_isAnswer_16 : decode cX1_isAnswer 16 = .ok (.getfield 19, 3) := by decide +kernel
theorem dX1_isAnswer_19 : decode cX1_isAnswer 19 = .ok (.iload_n 1, 1) := by decide +kernel
theorem dX1_isAnswer_20 : decode cX1_isAnswer 20 = .ok (.iaload, 1) := by decide +kernel
theorem dX1_isAnswer_21 : decode cX1_isAnswer 21 = .ok (.iconst 2, 1) := by decide +kernel
theorem dX1_isAnswer_22 : decode cX1_isAnswer 22 = .ok (.if_icmp .ne 16, 3) := by decide +kernel
theorem dX1_isAnswer_25 : decode cX1_isAnswer 25 = .ok (.iconst 1, 1) := by decide +kernel
theorem dX1_isAnswer_26 : decode cX1_isAnswer 26 = .ok (.aload_n 0, 1) := by decide +kernel
theorem dX1_isAnswer_27 : decode cX1_isAnswer 27 = .ok (.getfield 23, 3) := by decide +kernel
theorem dX1_isAnswer_30 : decode cX1_isAnswer 30 = .ok (.iload_n 1, 1) := by decide +kernel
theorem dX1_isAnswer_31 : decode cX1_isAnswer 31 = .ok (.iaload, 1) := by decide +kernel
theorem dX1_isAnswer_32 : decode cX1_isAnswer 32 = .ok (.ishl, 1) := by decide +kernel
theorem dX1_isAnswer_33 : decode cX1_isAnswer 33 = .ok (.iconst 1, 1) := by decide +kernel
theorem dX1_isAnswer_34 : decode cX1_isAnswer 34 = .ok (.isub, 1) := by decide +kernel
theorem dX1_isAnswer_35 : decode cX1_isAnswer 35 = .ok (.goto 9, 3) := by decide +kernel
theorem dX1_isAnswer_38 : decode cX1_isAnswer 38 = .ok (.aload_n 0, 1) := by decide +kernel
theorem dX1_isAnswer_39 : decode cX1_isAnswer 39 = .ok (.getfield 23, 3) := by decide +kernel
theorem dX1_isAnswer_42 : decode cX1_isAnswer 42 = .ok (.iload_n 1, 1) := by decide +kernel
theorem dX1_isAnswer_43 : decode cX1_isAnswer 43 = .ok (.iaload, 1) := by decide +kernel
theorem dX1_isAnswer_44 : decode cX1_isAnswer 44 = .ok (.istore_n 3, 1) := by decide +kernel
theorem dX1_isAnswer_45 : decode cX1_isAnswer 45 = .ok (.aload_n 0, 1) := by decide +kernel
theorem dX1_isAnswer_46 : decode cX1_isAnswer 46 = .ok (.iload_n 2, 1) := by decide +kernel
theorem dX1_isAnswer_47 : decode cX1_isAnswer 47 = .ok (.iconst 0, 1) := by decide +kernel
theorem dX1_isAnswer_48 : decode cX1_isAnswer 48 = .ok (.iload_n 3, 1) := by decide +kernel
theorem dX1_isAnswer_49 : decode cX1_isAnswer 49 = .ok (.invokevirtual 51, 3) := by decide +kernel
theorem dX1_isAnswer_52 : decode cX1_isAnswer 52 = .ok (.ireturn, 1) := by decide +kernel
theorem dX1_worth_0 : decode cX1_worth 0 = .ok (.iload_n 2, 1) := by decide +kernel
theorem dX1_worth_1 : decode cX1_worth 1 = .ok (.ifCond .ge 5, 3) := by decide +kernel
theorem dX1_worth_4 : decode cX1_worth 4 = .ok (.iconst 0, 1) := by decide +kernel
theorem dX1_worth_5 : decode cX1_worth 5 = .ok (.ireturn, 1) := by decide +kernel
theorem dX1_worth_6 : decode cX1_worth 6 = .ok (.aload_n 0, 1) := by decide +kernel
theorem dX1_worth_7 : decode cX1_worth 7 = .ok (.getfield 19, 3) := by decide +kernel
theorem dX1_worth_10 : decode cX1_worth 10 = .ok (.iload_n 1, 1) := by decide +kernel
theorem dX1_worth_11 : decode cX1_worth 11 = .ok (.iaload, 1) := by decide +kernel
theorem dX1_worth_12 : decode cX1_worth 12 = .ok (.iconst 1, 1) := by decide +kernel
theorem dX1_worth_13 : decode cX1_worth 13 = .ok (.if_icmp .ne 28, 3) := by decide +kernel
theorem dX1_worth_16 : decode cX1_worth 16 = .ok (.aload_n 0, 1) := by decide +kernel
theorem dX1_worth_17 : decode cX1_worth 17 = .ok (.getfield 26, 3) := by decide +kernel
theorem dX1_worth_20 : decode cX1_worth 20 = .ok (.iload_n 1, 1) := by decide +kernel
theorem dX1_worth_21 : decode cX1_worth 21 = .ok (.iaload, 1) := by decide +kernel
theorem dX1_worth_22 : decode cX1_worth 22 = .ok (.iload_n 2, 1) := by decide +kernel
theorem dX1_worth_23 : decode cX1_worth 23 = .ok (.ishr, 1) := by decide +kernel
theorem dX1_worth_24 : decode cX1_worth 24 = .ok (.iconst 1, 1) := by decide +kernel
theorem dX1_worth_25 : decode cX1_worth 25 = .ok (.iand, 1) := by decide +kernel
theorem dX1_worth_26 : decode cX1_worth 26 = .ok (.iconst 1, 1) := by decide +kernel
theorem dX1_worth_27 : decode cX1_worth 27 = .ok (.if_icmp .ne 12, 3) := by decide +kernel
theorem dX1_worth_30 : decode cX1_worth 30 = .ok (.aload_n 0, 1) := by decide +kernel
theorem dX1_worth_31 : decode cX1_worth 31 = .ok (.getfield 23, 3) := by decide +kernel
theorem dX1_worth_34 : decode cX1_worth 34 = .ok (.iload_n 1, 1) := by decide +kernel
theorem dX1_worth_35 : decode cX1_worth 35 = .ok (.iaload, 1) := by decide +kernel
theorem dX1_worth_36 : decode cX1_worth 36 = .ok (.goto 4, 3) := by decide +kernel
theorem dX1_worth_39 : decode cX1_worth 39 = .ok (.iconst 0, 1) := by decide +kernel
theorem dX1_worth_40 : decode cX1_worth 40 = .ok (.ireturn, 1) := by decide +kernel
theorem dX1_worth_41 : decode cX1_worth 41 = .ok (.aload_n 0, 1) := by decide +kernel
theorem dX1_worth_42 : decode cX1_worth 42 = .ok (.getfield 19, 3) := by decide +kernel
theorem dX1_worth_45 : decode cX1_worth 45 = .ok (.iload_n 1, 1) := by decide +kernel
theorem dX1_worth_46 : decode cX1_worth 46 = .ok (.iaload, 1) := by decide +kernel
theorem dX1_worth_47 : decode cX1_worth 47 = .ok (.iconst 2, 1) := by decide +kernel
theorem dX1_worth_48 : decode cX1_worth 48 = .ok (.if_icmp .eq 5, 3) := by decide +kernel
theorem dX1_worth_51 : decode cX1_worth 51 = .ok (.iload_n 2, 1) := by decide +kernel
theorem dX1_worth_52 : decode cX1_worth 52 = .ok (.ireturn, 1) := by decide +kernel
theorem dX1_worth_53 : decode cX1_worth 53 = .ok (.iconst 0, 1) := by decide +kernel
theorem dX1_worth_54 : decode cX1_worth 54 = .ok (.istore_n 3, 1) := by decide +kernel
theorem dX1_worth_55 : decode cX1_worth 55 = .ok (.iload_n 3, 1) := by decide +kernel
theorem dX1_worth_56 : decode cX1_worth 56 = .ok (.aload_n 0, 1) := by decide +kernel
theorem dX1_worth_57 : decode cX1_worth 57 = .ok (.getfield 23, 3) := by decide +kernel
theorem dX1_worth_60 : decode cX1_worth 60 = .ok (.iload_n 1, 1) := by decide +kernel
theorem dX1_worth_61 : decode cX1_worth 61 = .ok (.iaload, 1) := by decide +kernel
theorem dX1_worth_62 : decode cX1_worth 62 = .ok (.if_icmp .ge 18, 3) := by decide +kernel
theorem dX1_worth_65 : decode cX1_worth 65 = .ok (.iload_n 2, 1) := by decide +kernel
theorem dX1_worth_66 : decode cX1_worth 66 = .ok (.iload_n 3, 1) := by decide +kernel
theorem dX1_worth_67 : decode cX1_worth 67 = .ok (.ishr, 1) := by decide +kernel
theorem dX1_worth_68 : decode cX1_worth 68 = .ok (.iconst 1, 1) := by decide +kernel
theorem dX1_worth_69 : decode cX1_worth 69 = .ok (.iand, 1) := by decide +kernel
theorem dX1_worth_70 : decode cX1_worth 70 = .ok (.iconst 1, 1) := by decide +kernel
theorem dX1_worth_71 : decode cX1_worth 71 = .ok (.if_icmp .ne 9, 3) := by decide +kernel
theorem dX1_worth_74 : decode cX1_worth 74 = .ok (.iinc 3 1, 3) := by decide +kernel
theorem dX1_worth_77 : decode cX1_worth 77 = .ok (.goto (-22), 3) := by decide +kernel
theorem dX1_worth_80 : decode cX1_worth 80 = .ok (.iload_n 3, 1) := by decide +kernel
theorem dX1_worth_81 : decode cX1_worth 81 = .ok (.ireturn, 1) := by decide +kernel
theorem dX1_own_0 : decode cX1_own 0 = .ok (.aload_n 0, 1) := by decide +kernel
theorem dX1_own_1 : decode cX1_own 1 = .ok (.iload_n 1, 1) := by decide +kernel
theorem dX1_own_2 : decode cX1_own 2 = .ok (.invokevirtual 74, 3) := by decide +kernel
theorem dX1_own_5 : decode cX1_own 5 = .ok (.ifCond .eq 25, 3) := by decide +kernel
theorem dX1_own_8 : decode cX1_own 8 = .ok (.aload_n 0, 1) := by decide +kernel
theorem dX1_own_9 : decode cX1_own 9 = .ok (.iload_n 2, 1) := by decide +kernel
theorem dX1_own_10 : decode cX1_own 10 = .ok (.invokevirtual 59, 3) := by decide +kernel
theorem dX1_own_13 : decode cX1_own 13 = .ok (.ifCond .eq 17, 3) := by decide +kernel
theorem dX1_own_16 : decode cX1_own 16 = .ok (.aload_n 0, 1) := by decide +kernel
theorem dX1_own_17 : decode cX1_own 17 = .ok (.aload_n 0, 1) := by decide +kernel
theorem dX1_own_18 : decode cX1_own 18 = .ok (.getfield 39, 3) := by decide +kernel
theorem dX1_own_21 : decode cX1_own 21 = .ok (.iload_n 1, 1) := by decide +kernel
theorem dX1_own_22 : decode cX1_own 22 = .ok (.iaload, 1) := by decide +kernel
theorem dX1_own_23 : decode cX1_own 23 = .ok (.iload_n 2, 1) := by decide +kernel
theorem dX1_own_24 : decode cX1_own 24 = .ok (.invokevirtual 66, 3) := by decide +kernel
theorem dX1_own_27 : decode cX1_own 27 = .ok (.goto 4, 3) := by decide +kernel
theorem dX1_own_30 : decode cX1_own 30 = .ok (.iconst (-1), 1) := by decide +kernel
theorem dX1_own_31 : decode cX1_own 31 = .ok (.ireturn, 1) := by decide +kernel
theorem dX1_answer_0 : decode cX1_answer 0 = .ok (.aload_n 0, 1) := by decide +kernel
theorem dX1_answer_1 : decode cX1_answer 1 = .ok (.iload_n 1, 1) := by decide +kernel
theorem dX1_answer_2 : decode cX1_answer 2 = .ok (.iload_n 2, 1) := by decide +kernel
theorem dX1_answer_3 : decode cX1_answer 3 = .ok (.invokevirtual 77, 3) := by decide +kernel
theorem dX1_answer_6 : decode cX1_answer 6 = .ok (.istore 4, 2) := by decide +kernel
theorem dX1_answer_8 : decode cX1_answer 8 = .ok (.iload 4, 2) := by decide +kernel
theorem dX1_answer_10 : decode cX1_answer 10 = .ok (.ifCond .ge 5, 3) := by decide +kernel
theorem dX1_answer_13 : decode cX1_answer 13 = .ok (.iconst (-1), 1) := by decide +kernel
theorem dX1_answer_14 : decode cX1_answer 14 = .ok (.ireturn, 1) := by decide +kernel
theorem dX1_answer_15 : decode cX1_answer 15 = .ok (.aload_n 0, 1) := by decide +kernel
theorem dX1_answer_16 : decode cX1_answer 16 = .ok (.iload_n 2, 1) := by decide +kernel
theorem dX1_answer_17 : decode cX1_answer 17 = .ok (.iload_n 3, 1) := by decide +kernel
theorem dX1_answer_18 : decode cX1_answer 18 = .ok (.invokevirtual 80, 3) := by decide +kernel
theorem dX1_answer_21 : decode cX1_answer 21 = .ok (.ifCond .ne 6, 3) := by decide +kernel
theorem dX1_answer_24 : decode cX1_answer 24 = .ok (.bipush (-2), 2) := by decide +kernel
theorem dX1_answer_26 : decode cX1_answer 26 = .ok (.ireturn, 1) := by decide +kernel
theorem dX1_answer_27 : decode cX1_answer 27 = .ok (.aload_n 0, 1) := by decide +kernel
theorem dX1_answer_28 : decode cX1_answer 28 = .ok (.getfield 45, 3) := by decide +kernel
theorem dX1_answer_31 : decode cX1_answer 31 = .ok (.bipush 12, 2) := by decide +kernel
theorem dX1_answer_33 : decode cX1_answer 33 = .ok (.iload_n 1, 1) := by decide +kernel
theorem dX1_answer_34 : decode cX1_answer 34 = .ok (.imul, 1) := by decide +kernel
theorem dX1_answer_35 : decode cX1_answer 35 = .ok (.iload 4, 2) := by decide +kernel
theorem dX1_answer_37 : decode cX1_answer 37 = .ok (.iadd, 1) := by decide +kernel
theorem dX1_answer_38 : decode cX1_answer 38 = .ok (.iload_n 3, 1) := by decide +kernel
theorem dX1_answer_39 : decode cX1_answer 39 = .ok (.iastore, 1) := by decide +kernel
theorem dX1_answer_40 : decode cX1_answer 40 = .ok (.aload_n 0, 1) := by decide +kernel
theorem dX1_answer_41 : decode cX1_answer 41 = .ok (.iload_n 2, 1) := by decide +kernel
theorem dX1_answer_42 : decode cX1_answer 42 = .ok (.iload_n 3, 1) := by decide +kernel
theorem dX1_answer_43 : decode cX1_answer 43 = .ok (.invokevirtual 83, 3) := by decide +kernel
theorem dX1_answer_46 : decode cX1_answer 46 = .ok (.ireturn, 1) := by decide +kernel
theorem dX1_gap_0 : decode cX1_gap 0 = .ok (.aload_n 0, 1) := by decide +kernel
theorem dX1_gap_1 : decode cX1_gap 1 = .ok (.iload_n 1, 1) := by decide +kernel
theorem dX1_gap_2 : decode cX1_gap 2 = .ok (.iload_n 2, 1) := by decide +kernel
theorem dX1_gap_3 : decode cX1_gap 3 = .ok (.invokevirtual 77, 3) := by decide +kernel
theorem dX1_gap_6 : decode cX1_gap 6 = .ok (.istore_n 3, 1) := by decide +kernel
theorem dX1_gap_7 : decode cX1_gap 7 = .ok (.iload_n 3, 1) := by decide +kernel
theorem dX1_gap_8 : decode cX1_gap 8 = .ok (.ifCond .ge 5, 3) := by decide +kernel
theorem dX1_gap_11 : decode cX1_gap 11 = .ok (.iconst (-1), 1) := by decide +kernel
theorem dX1_gap_12 : decode cX1_gap 12 = .ok (.ireturn, 1) := by decide +kernel
theorem dX1_gap_13 : decode cX1_gap 13 = .ok (.aload_n 0, 1) := by decide +kernel
theorem dX1_gap_14 : decode cX1_gap 14 = .ok (.getfield 45, 3) := by decide +kernel
theorem dX1_gap_17 : decode cX1_gap 17 = .ok (.bipush 12, 2) := by decide +kernel
theorem dX1_gap_19 : decode cX1_gap 19 = .ok (.iload_n 1, 1) := by decide +kernel
theorem dX1_gap_20 : decode cX1_gap 20 = .ok (.imul, 1) := by decide +kernel
theorem dX1_gap_21 : decode cX1_gap 21 = .ok (.iload_n 3, 1) := by decide +kernel
theorem dX1_gap_22 : decode cX1_gap 22 = .ok (.iadd, 1) := by decide +kernel
theorem dX1_gap_23 : decode cX1_gap 23 = .ok (.iaload, 1) := by decide +kernel
theorem dX1_gap_24 : decode cX1_gap 24 = .ok (.istore 4, 2) := by decide +kernel
theorem dX1_gap_26 : decode cX1_gap 26 = .ok (.aload_n 0, 1) := by decide +kernel
theorem dX1_gap_27 : decode cX1_gap 27 = .ok (.getfield 45, 3) := by decide +kernel
theorem dX1_gap_30 : decode cX1_gap 30 = .ok (.bipush 12, 2) := by decide +kernel
theorem dX1_gap_32 : decode cX1_gap 32 = .ok (.iload_n 1, 1) := by decide +kernel
theorem dX1_gap_33 : decode cX1_gap 33 = .ok (.imul, 1) := by decide +kernel
theorem dX1_gap_34 : decode cX1_gap 34 = .ok (.iload_n 3, 1) := by decide +kernel
theorem dX1_gap_35 : decode cX1_gap 35 = .ok (.iadd, 1) := by decide +kernel
theorem dX1_gap_36 : decode cX1_gap 36 = .ok (.iconst (-1), 1) := by decide +kernel
theorem dX1_gap_37 : decode cX1_gap 37 = .ok (.iastore, 1) := by decide +kernel
theorem dX1_gap_38 : decode cX1_gap 38 = .ok (.iload 4, 2) := by decide +kernel
theorem dX1_gap_40 : decode cX1_gap 40 = .ok (.ireturn, 1) := by decide +kernel
theorem dX1_row_0 : decode cX1_row 0 = .ok (.aload_n 0, 1) := by decide +kernel
theorem dX1_row_1 : decode cX1_row 1 = .ok (.iload_n 1, 1) := by decide +kernel
theorem dX1_row_2 : decode cX1_row 2 = .ok (.invokevirtual 74, 3) := by decide +kernel
theorem dX1_row_5 : decode cX1_row 5 = .ok (.ifCond .ne 5, 3) := by decide +kernel
theorem dX1_row_8 : decode cX1_row 8 = .ok (.iconst (-1), 1) := by decide +kernel
theorem dX1_row_9 : decode cX1_row 9 = .ok (.ireturn, 1) := by decide +kernel
theorem dX1_row_10 : decode cX1_row 10 = .ok (.aload_n 0, 1) := by decide +kernel
theorem dX1_row_11 : decode cX1_row 11 = .ok (.getfield 39, 3) := by decide +kernel
theorem dX1_row_14 : decode cX1_row 14 = .ok (.iload_n 1, 1) := by decide +kernel
theorem dX1_row_15 : decode cX1_row 15 = .ok (.iaload, 1) := by decide +kernel
theorem dX1_row_16 : decode cX1_row 16 = .ok (.istore 4, 2) := by decide +kernel
theorem dX1_row_18 : decode cX1_row 18 = .ok (.iconst 0, 1) := by decide +kernel
theorem dX1_row_19 : decode cX1_row 19 = .ok (.istore 5, 2) := by decide +kernel
theorem dX1_row_21 : decode cX1_row 21 = .ok (.iload 5, 2) := by decide +kernel
theorem dX1_row_23 : decode cX1_row 23 = .ok (.bipush 8, 2) := by decide +kernel
theorem dX1_row_25 : decode cX1_row 25 = .ok (.if_icmp .ge 105, 3) := by decide +kernel
theorem dX1_row_28 : decode cX1_row 28 = .ok (.iload 5, 2) := by decide +kernel
theorem dX1_row_30 : decode cX1_row 30 = .ok (.aload_n 0, 1) := by decide +kernel
theorem dX1_row_31 : decode cX1_row 31 = .ok (.getfield 36, 3) := by decide +kernel
theorem dX1_row_34 : decode cX1_row 34 = .ok (.iload 4, 2) := by decide +kernel
theorem dX1_row_36 : decode cX1_row 36 = .ok (.iaload, 1) := by decide +kernel
theorem dX1_row_37 : decode cX1_row 37 = .ok (.if_icmp .ge 93, 3) := by decide +kernel
theorem dX1_row_40 : decode cX1_row 40 = .ok (.lload_n 2, 1) := by decide +kernel
theorem dX1_row_41 : decode cX1_row 41 = .ok (.bipush 56, 2) := by decide +kernel
theorem dX1_row_43 : decode cX1_row 43 = .ok (.bipush 8, 2) := by decide +kernel
theorem dX1_row_45 : decode cX1_row 45 = .ok (.iload 5, 2) := by decide +kernel
theorem dX1_row_47 : decode cX1_row 47 = .ok (.imul, 1) := by decide +kernel
theorem dX1_row_48 : decode cX1_row 48 = .ok (.isub, 1) := by decide +kernel
theorem dX1_row_49 : decode cX1_row 49 = .ok (.lshr, 1) := by decide +kernel
theorem dX1_row_50 : decode cX1_row 50 = .ok (.ldc2_w 86, 3) := by decide +kernel
theorem dX1_row_53 : decode cX1_row 53 = .ok (.land, 1) := by decide +kernel
theorem dX1_row_54 : decode cX1_row 54 = .ok (.l2i, 1) := by decide +kernel
theorem dX1_row_55 : decode cX1_row 55 = .ok (.istore 6, 2) := by decide +kernel
theorem dX1_row_57 : decode cX1_row 57 = .ok (.iload 6, 2) := by decide +kernel
theorem dX1_row_59 : decode cX1_row 59 = .ok (.sipush 254, 3) := by decide +kernel
theorem dX1_row_62 : decode cX1_row 62 = .ok (.if_icmp .eq 33, 3) := by decide +kernel
theorem dX1_row_65 : decode cX1_row 65 = .ok (.iload 6, 2) := by decide +kernel
theorem dX1_row_67 : decode cX1_row 67 = .ok (.sipush 255, 3) := by decide +kernel
theorem dX1_row_70 : decode cX1_row 70 = .ok (.if_icmp .eq 28, 3) := by decide +kernel
theorem dX1_row_73 : decode cX1_row 73 = .ok (.aload_n 0, 1) := by decide +kernel
theorem dX1_row_74 : decode cX1_row 74 = .ok (.aload_n 0, 1) := by decide +kernel
theorem dX1_row_75 : decode cX1_row 75 = .ok (.getfield 33, 3) := by decide +kernel
theorem dX1_row_78 : decode cX1_row 78 = .ok (.bipush 12, 2) := by decide +kernel
theorem dX1_row_80 : decode cX1_row 80 = .ok (.iload 4, 2) := by decide +kernel
theorem dX1_row_82 : decode cX1_row 82 = .ok (.imul, 1) := by decide +kernel
theorem dX1_row_83 : decode cX1_row 83 = .ok (.iload 5, 2) := by decide +kernel
theorem dX1_row_85 : decode cX1_row 85 = .ok (.iadd, 1) := by decide +kernel
theorem dX1_row_86 : decode cX1_row 86 = .ok (.iaload, 1) := by decide +kernel
theorem dX1_row_87 : decode cX1_row 87 = .ok (.iload 6, 2) := by decide +kernel
theorem dX1_row_89 : decode cX1_row 89 = .ok (.invokevirtual 80, 3) := by decide +kernel
theorem dX1_row_92 : decode cX1_row 92 = .ok (.ifCond .ne 6, 3) := by decide +kernel
theorem dX1_row_95 : decode cX1_row 95 = .ok (.iload 5, 2) := by decide +kernel
theorem dX1_row_97 : decode cX1_row 97 = .ok (.ireturn, 1) := by decide +kernel
theorem dX1_row_98 : decode cX1_row 98 = .ok (.aload_n 0, 1) := by decide +kernel
theorem dX1_row_99 : decode cX1_row 99 = .ok (.getfield 45, 3) := by decide +kernel
theorem dX1_row_102 : decode cX1_row 102 = .ok (.bipush 12, 2) := by decide +kernel
theorem dX1_row_104 : decode cX1_row 104 = .ok (.iload_n 1, 1) := by decide +kernel
theorem dX1_row_105 : decode cX1_row 105 = .ok (.imul, 1) := by decide +kernel
theorem dX1_row_106 : decode cX1_row 106 = .ok (.iload 5, 2) := by decide +kernel
theorem dX1_row_108 : decode cX1_row 108 = .ok (.iadd, 1) := by decide +kernel
theorem dX1_row_109 : decode cX1_row 109 = .ok (.iload 6, 2) := by decide +kernel
theorem dX1_row_111 : decode cX1_row 111 = .ok (.sipush 255, 3) := by decide +kernel
theorem dX1_row_114 : decode cX1_row 114 = .ok (.if_icmp .ne 7, 3) := by decide +kernel
theorem dX1_row_117 : decode cX1_row 117 = .ok (.iconst (-1), 1) := by decide +kernel
theorem dX1_row_118 : decode cX1_row 118 = .ok (.goto 5, 3) := by decide +kernel
theorem dX1_row_121 : decode cX1_row 121 = .ok (.iload 6, 2) := by decide +kernel
theorem dX1_row_123 : decode cX1_row 123 = .ok (.iastore, 1) := by decide +kernel
theorem dX1_row_124 : decode cX1_row 124 = .ok (.iinc 5 1, 3) := by decide +kernel
theorem dX1_row_127 : decode cX1_row 127 = .ok (.goto (-106), 3) := by decide +kernel
theorem dX1_row_130 : decode cX1_row 130 = .ok (.iload 5, 2) := by decide +kernel
theorem dX1_row_132 : decode cX1_row 132 = .ok (.ireturn, 1) := by decide +kernel
theorem dX1_markAt_0 : decode cX1_markAt 0 = .ok (.aload_n 0, 1) := by decide +kernel
theorem dX1_markAt_1 : decode cX1_markAt 1 = .ok (.aload_n 0, 1) := by decide +kernel
theorem dX1_markAt_2 : decode cX1_markAt 2 = .ok (.getfield 33, 3) := by decide +kernel
theorem dX1_markAt_5 : decode cX1_markAt 5 = .ok (.bipush 12, 2) := by decide +kernel
theorem dX1_markAt_7 : decode cX1_markAt 7 = .ok (.aload_n 0, 1) := by decide +kernel
theorem dX1_markAt_8 : decode cX1_markAt 8 = .ok (.getfield 39, 3) := by decide +kernel
theorem dX1_markAt_11 : decode cX1_markAt 11 = .ok (.iload_n 1, 1) := by decide +kernel
theorem dX1_markAt_12 : decode cX1_markAt 12 = .ok (.iaload, 1) := by decide +kernel
theorem dX1_markAt_13 : decode cX1_markAt 13 = .ok (.imul, 1) := by decide +kernel
theorem dX1_markAt_14 : decode cX1_markAt 14 = .ok (.iload_n 2, 1) := by decide +kernel
theorem dX1_markAt_15 : decode cX1_markAt 15 = .ok (.iadd, 1) := by decide +kernel
theorem dX1_markAt_16 : decode cX1_markAt 16 = .ok (.iaload, 1) := by decide +kernel
theorem dX1_markAt_17 : decode cX1_markAt 17 = .ok (.aload_n 0, 1) := by decide +kernel
theorem dX1_markAt_18 : decode cX1_markAt 18 = .ok (.getfield 45, 3) := by decide +kernel
theorem dX1_markAt_21 : decode cX1_markAt 21 = .ok (.bipush 12, 2) := by decide +kernel
theorem dX1_markAt_23 : decode cX1_markAt 23 = .ok (.iload_n 1, 1) := by decide +kernel
theorem dX1_markAt_24 : decode cX1_markAt 24 = .ok (.imul, 1) := by decide +kernel
theorem dX1_markAt_25 : decode cX1_markAt 25 = .ok (.iload_n 2, 1) := by decide +kernel
theorem dX1_markAt_26 : decode cX1_markAt 26 = .ok (.iadd, 1) := by decide +kernel
theorem dX1_markAt_27 : decode cX1_markAt 27 = .ok (.iaload, 1) := by decide +kernel
theorem dX1_markAt_28 : decode cX1_markAt 28 = .ok (.invokevirtual 83, 3) := by decide +kernel
theorem dX1_markAt_31 : decode cX1_markAt 31 = .ok (.ireturn, 1) := by decide +kernel
theorem dX1_mark_0 : decode cX1_mark 0 = .ok (.aload_n 0, 1) := by decide +kernel
theorem dX1_mark_1 : decode cX1_mark 1 = .ok (.iload_n 1, 1) := by decide +kernel
theorem dX1_mark_2 : decode cX1_mark 2 = .ok (.iload_n 2, 1) := by decide +kernel
theorem dX1_mark_3 : decode cX1_mark 3 = .ok (.invokevirtual 77, 3) := by decide +kernel
theorem dX1_mark_6 : decode cX1_mark 6 = .ok (.istore_n 3, 1) := by decide +kernel
theorem dX1_mark_7 : decode cX1_mark 7 = .ok (.iload_n 3, 1) := by decide +kernel
theorem dX1_mark_8 : decode cX1_mark 8 = .ok (.ifCond .ge 7, 3) := by decide +kernel
theorem dX1_mark_11 : decode cX1_mark 11 = .ok (.iconst (-1), 1) := by decide +kernel
theorem dX1_mark_12 : decode cX1_mark 12 = .ok (.goto 9, 3) := by decide +kernel
theorem dX1_mark_15 : decode cX1_mark 15 = .ok (.aload_n 0, 1) := by decide +kernel
theorem dX1_mark_16 : decode cX1_mark 16 = .ok (.iload_n 1, 1) := by decide +kernel
theorem dX1_mark_17 : decode cX1_mark 17 = .ok (.iload_n 3, 1) := by decide +kernel
theorem dX1_mark_18 : decode cX1_mark 18 = .ok (.invokevirtual 88, 3) := by decide +kernel
theorem dX1_mark_21 : decode cX1_mark 21 = .ok (.ireturn, 1) := by decide +kernel
theorem dX1_cameTo_0 : decode cX1_cameTo 0 = .ok (.iconst 0, 1) := by decide +kernel
theorem dX1_cameTo_1 : decode cX1_cameTo 1 = .ok (.istore_n 3, 1) := by decide +kernel
theorem dX1_cameTo_2 : decode cX1_cameTo 2 = .ok (.iload_n 2, 1) := by decide +kernel
theorem dX1_cameTo_3 : decode cX1_cameTo 3 = .ok (.istore 4, 2) := by decide +kernel
theorem dX1_cameTo_5 : decode cX1_cameTo 5 = .ok (.iload 4, 2) := by decide +kernel
theorem dX1_cameTo_7 : decode cX1_cameTo 7 = .ok (.aload_n 0, 1) := by decide +kernel
theorem dX1_cameTo_8 : decode cX1_cameTo 8 = .ok (.getfield 36, 3) := by decide +kernel
theorem dX1_cameTo_11 : decode cX1_cameTo 11 = .ok (.aload_n 0, 1) := by decide +kernel
theorem dX1_cameTo_12 : decode cX1_cameTo 12 = .ok (.getfield 39, 3) := by decide +kernel
theorem dX1_cameTo_15 : decode cX1_cameTo 15 = .ok (.iload_n 1, 1) := by decide +kernel
theorem dX1_cameTo_16 : decode cX1_cameTo 16 = .ok (.iaload, 1) := by decide +kernel
theorem dX1_cameTo_17 : decode cX1_cameTo 17 = .ok (.iaload, 1) := by decide +kernel
theorem dX1_cameTo_18 : decode cX1_cameTo 18 = .ok (.if_icmp .ge 34, 3) := by decide +kernel
theorem dX1_cameTo_21 : decode cX1_cameTo 21 = .ok (.iload_n 3, 1) := by decide +kernel
theorem dX1_cameTo_22 : decode cX1_cameTo 22 = .ok (.ifCond .ne 18, 3) := by decide +kernel
theorem dX1_cameTo_25 : decode cX1_cameTo 25 = .ok (.aload_n 0, 1) := by decide +kernel
theorem dX1_cameTo_26 : decode cX1_cameTo 26 = .ok (.getfield 45, 3) := by decide +kernel
theorem dX1_cameTo_29 : decode cX1_cameTo 29 = .ok (.bipush 12, 2) := by decide +kernel
theorem dX1_cameTo_31 : decode cX1_cameTo 31 = .ok (.iload_n 1, 1) := by decide +kernel
theorem dX1_cameTo_32 : decode cX1_cameTo 32 = .ok (.imul, 1) := by decide +kernel
theorem dX1_cameTo_33 : decode cX1_cameTo 33 = .ok (.iload 4, 2) := by decide +kernel
theorem dX1_cameTo_35 : decode cX1_cameTo 35 = .ok (.iadd, 1) := by decide +kernel
theorem dX1_cameTo_36 : decode cX1_cameTo 36 = .ok (.iaload, 1) := by decide +kernel
theorem dX1_cameTo_37 : decode cX1_cameTo 37 = .ok (.ifCond .lt 7, 3) := by decide +kernel
theorem dX1_cameTo_40 : decode cX1_cameTo 40 = .ok (.iconst 1, 1) := by decide +kernel
theorem dX1_cameTo_41 : decode cX1_cameTo 41 = .ok (.goto 4, 3) := by decide +kernel
theorem dX1_cameTo_44 : decode cX1_cameTo 44 = .ok (.iconst 0, 1) := by decide +kernel
theorem dX1_cameTo_45 : decode cX1_cameTo 45 = .ok (.istore_n 3, 1) := by decide +kernel
theorem dX1_cameTo_46 : decode cX1_cameTo 46 = .ok (.iinc 4 1, 3) := by decide +kernel
theorem dX1_cameTo_49 : decode cX1_cameTo 49 = .ok (.goto (-44), 3) := by decide +kernel
theorem dX1_cameTo_52 : decode cX1_cameTo 52 = .ok (.iload_n 3, 1) := by decide +kernel
theorem dX1_cameTo_53 : decode cX1_cameTo 53 = .ok (.ireturn, 1) := by decide +kernel
theorem dX1_come_0 : decode cX1_come 0 = .ok (.aload_n 0, 1) := by decide +kernel
theorem dX1_come_1 : decode cX1_come 1 = .ok (.iload_n 1, 1) := by decide +kernel
theorem dX1_come_2 : decode cX1_come 2 = .ok (.iload_n 2, 1) := by decide +kernel
theorem dX1_come_3 : decode cX1_come 3 = .ok (.invokevirtual 77, 3) := by decide +kernel
theorem dX1_come_6 : decode cX1_come 6 = .ok (.istore_n 3, 1) := by decide +kernel
theorem dX1_come_7 : decode cX1_come 7 = .ok (.iload_n 3, 1) := by decide +kernel
theorem dX1_come_8 : decode cX1_come 8 = .ok (.ifCond .ge 7, 3) := by decide +kernel
theorem dX1_come_11 : decode cX1_come 11 = .ok (.iconst (-1), 1) := by decide +kernel
theorem dX1_come_12 : decode cX1_come 12 = .ok (.goto 17, 3) := by decide +kernel
theorem dX1_come_15 : decode cX1_come 15 = .ok (.aload_n 0, 1) := by decide +kernel
theorem dX1_come_16 : decode cX1_come 16 = .ok (.iload_n 1, 1) := by decide +kernel
theorem dX1_come_17 : decode cX1_come 17 = .ok (.iload_n 3, 1) := by decide +kernel
theorem dX1_come_18 : decode cX1_come 18 = .ok (.invokevirtual 91, 3) := by decide +kernel
theorem dX1_come_21 : decode cX1_come 21 = .ok (.ifCond .eq 7, 3) := by decide +kernel
theorem dX1_come_24 : decode cX1_come 24 = .ok (.iconst 1, 1) := by decide +kernel
theorem dX1_come_25 : decode cX1_come 25 = .ok (.goto 4, 3) := by decide +kernel
theorem dX1_come_28 : decode cX1_come 28 = .ok (.iconst 0, 1) := by decide +kernel
theorem dX1_come_29 : decode cX1_come 29 = .ok (.ireturn, 1) := by decide +kernel
theorem dX1_isCounted_0 : decode cX1_isCounted 0 = .ok (.aload_n 0, 1) := by decide +kernel
theorem dX1_isCounted_1 : decode cX1_isCounted 1 = .ok (.getfield 19, 3) := by decide +kernel
theorem dX1_isCounted_4 : decode cX1_isCounted 4 = .ok (.iload_n 1, 1) := by decide +kernel
theorem dX1_isCounted_5 : decode cX1_isCounted 5 = .ok (.iaload, 1) := by decide +kernel
theorem dX1_isCounted_6 : decode cX1_isCounted 6 = .ok (.iconst 3, 1) := by decide +kernel
theorem dX1_isCounted_7 : decode cX1_isCounted 7 = .ok (.if_icmp .eq 16, 3) := by decide +kernel
theorem dX1_isCounted_10 : decode cX1_isCounted 10 = .ok (.aload_n 0, 1) := by decide +kernel
theorem dX1_isCounted_11 : decode cX1_isCounted 11 = .ok (.getfield 29, 3) := by decide +kernel
theorem dX1_isCounted_14 : decode cX1_isCounted 14 = .ok (.iload_n 1, 1) := by decide +kernel
theorem dX1_isCounted_15 : decode cX1_isCounted 15 = .ok (.baload, 1) := by decide +kernel
theorem dX1_isCounted_16 : decode cX1_isCounted 16 = .ok (.ifCond .ne 7, 3) := by decide +kernel
theorem dX1_isCounted_19 : decode cX1_isCounted 19 = .ok (.iconst 1, 1) := by decide +kernel
theorem dX1_isCounted_20 : decode cX1_isCounted 20 = .ok (.goto 4, 3) := by decide +kernel
theorem dX1_isCounted_23 : decode cX1_isCounted 23 = .ok (.iconst 0, 1) := by decide +kernel
theorem dX1_isCounted_24 : decode cX1_isCounted 24 = .ok (.ireturn, 1) := by decide +kernel
theorem dX1_totalOf_0 : decode cX1_totalOf 0 = .ok (.iconst 0, 1) := by decide +kernel
theorem dX1_totalOf_1 : decode cX1_totalOf 1 = .ok (.istore_n 2, 1) := by decide +kernel
theorem dX1_totalOf_2 : decode cX1_totalOf 2 = .ok (.iconst 0, 1) := by decide +kernel
theorem dX1_totalOf_3 : decode cX1_totalOf 3 = .ok (.istore_n 3, 1) := by decide +kernel
theorem dX1_totalOf_4 : decode cX1_totalOf 4 = .ok (.iload_n 3, 1) := by decide +kernel
theorem dX1_totalOf_5 : decode cX1_totalOf 5 = .ok (.aload_n 0, 1) := by decide +kernel
theorem dX1_totalOf_6 : decode cX1_totalOf 6 = .ok (.getfield 36, 3) := by decide +kernel
theorem dX1_totalOf_9 : decode cX1_totalOf 9 = .ok (.aload_n 0, 1) := by decide +kernel
theorem dX1_totalOf_10 : decode cX1_totalOf 10 = .ok (.getfield 39, 3) := by decide +kernel
theorem dX1_totalOf_13 : decode cX1_totalOf 13 = .ok (.iload_n 1, 1) := by decide +kernel
theorem dX1_totalOf_14 : decode cX1_totalOf 14 = .ok (.iaload, 1) := by decide +kernel
theorem dX1_totalOf_15 : decode cX1_totalOf 15 = .ok (.iaload, 1) := by decide +kernel
theorem dX1_totalOf_16 : decode cX1_totalOf 16 = .ok (.if_icmp .ge 45, 3) := by decide +kernel
theorem dX1_totalOf_19 : decode cX1_totalOf 19 = .ok (.iload_n 2, 1) := by decide +kernel
theorem dX1_totalOf_20 : decode cX1_totalOf 20 = .ok (.aload_n 0, 1) := by decide +kernel
theorem dX1_totalOf_21 : decode cX1_totalOf 21 = .ok (.aload_n 0, 1) := by decide +kernel
theorem dX1_totalOf_22 : decode cX1_totalOf 22 = .ok (.getfield 33, 3) := by decide +kernel
theorem dX1_totalOf_25 : decode cX1_totalOf 25 = .ok (.bipush 12, 2) := by decide +kernel
theorem dX1_totalOf_27 : decode cX1_totalOf 27 = .ok (.aload_n 0, 1) := by decide +kernel
theorem dX1_totalOf_28 : decode cX1_totalOf 28 = .ok (.getfield 39, 3) := by decide +kernel
theorem dX1_totalOf_31 : decode cX1_totalOf 31 = .ok (.iload_n 1, 1) := by decide +kernel
theorem dX1_totalOf_32 : decode cX1_totalOf 32 = .ok (.iaload, 1) := by decide +kernel
theorem dX1_totalOf_33 : decode cX1_totalOf 33 = .ok (.imul, 1) := by decide +kernel
theorem dX1_totalOf_34 : decode cX1_totalOf 34 = .ok (.iload_n 3, 1) := by decide +kernel
theorem dX1_totalOf_35 : decode cX1_totalOf 35 = .ok (.iadd, 1) := by decide +kernel
theorem dX1_totalOf_36 : decode cX1_totalOf 36 = .ok (.iaload, 1) := by decide +kernel
theorem dX1_totalOf_37 : decode cX1_totalOf 37 = .ok (.invokevirtual 94, 3) := by decide +kernel
theorem dX1_totalOf_40 : decode cX1_totalOf 40 = .ok (.ifCond .eq 12, 3) := by decide +kernel
theorem dX1_totalOf_43 : decode cX1_totalOf 43 = .ok (.aload_n 0, 1) := by decide +kernel
theorem dX1_totalOf_44 : decode cX1_totalOf 44 = .ok (.iload_n 1, 1) := by decide +kernel
theorem dX1_totalOf_45 : decode cX1_totalOf 45 = .ok (.iload_n 3, 1) := by decide +kernel
theorem dX1_totalOf_46 : decode cX1_totalOf 46 = .ok (.invokevirtual 88, 3) := by decide +kernel
theorem dX1_totalOf_49 : decode cX1_totalOf 49 = .ok (.goto 4, 3) := by decide +kernel
theorem dX1_totalOf_52 : decode cX1_totalOf 52 = .ok (.iconst 0, 1) := by decide +kernel
theorem dX1_totalOf_53 : decode cX1_totalOf 53 = .ok (.iadd, 1) := by decide +kernel
theorem dX1_totalOf_54 : decode cX1_totalOf 54 = .ok (.istore_n 2, 1) := by decide +kernel
theorem dX1_totalOf_55 : decode cX1_totalOf 55 = .ok (.iinc 3 1, 3) := by decide +kernel
theorem dX1_totalOf_58 : decode cX1_totalOf 58 = .ok (.goto (-54), 3) := by decide +kernel
theorem dX1_totalOf_61 : decode cX1_totalOf 61 = .ok (.iload_n 2, 1) := by decide +kernel
theorem dX1_totalOf_62 : decode cX1_totalOf 62 = .ok (.ireturn, 1) := by decide +kernel
theorem dX1_total_0 : decode cX1_total 0 = .ok (.aload_n 0, 1) := by decide +kernel
theorem dX1_total_1 : decode cX1_total 1 = .ok (.iload_n 1, 1) := by decide +kernel
theorem dX1_total_2 : decode cX1_total 2 = .ok (.invokevirtual 74, 3) := by decide +kernel
theorem dX1_total_5 : decode cX1_total 5 = .ok (.ifCond .eq 11, 3) := by decide +kernel
theorem dX1_total_8 : decode cX1_total 8 = .ok (.aload_n 0, 1) := by decide +kernel
theorem dX1_total_9 : decode cX1_total 9 = .ok (.iload_n 1, 1) := by decide +kernel
theorem dX1_total_10 : decode cX1_total 10 = .ok (.invokevirtual 97, 3) := by decide +kernel
theorem dX1_total_13 : decode cX1_total 13 = .ok (.goto 4, 3) := by decide +kernel
theorem dX1_total_16 : decode cX1_total 16 = .ok (.iconst (-1), 1) := by decide +kernel
theorem dX1_total_17 : decode cX1_total 17 = .ok (.ireturn, 1) := by decide +kernel
theorem dX1_divisor_0 : decode cX1_divisor 0 = .ok (.lload_n 1, 1) := by decide +kernel
theorem dX1_divisor_1 : decode cX1_divisor 1 = .ok (.lconst 0, 1) := by decide +kernel
theorem dX1_divisor_2 : decode cX1_divisor 2 = .ok (.lcmp, 1) := by decide +kernel
theorem dX1_divisor_3 : decode cX1_divisor 3 = .ok (.ifCond .ge 8, 3) := by decide +kernel
theorem dX1_divisor_6 : decode cX1_divisor 6 = .ok (.lload_n 1, 1) := by decide +kernel
theorem dX1_divisor_7 : decode cX1_divisor 7 = .ok (.lneg, 1) := by decide +kernel
theorem dX1_divisor_8 : decode cX1_divisor 8 = .ok (.goto 4, 3) := by decide +kernel
theorem dX1_divisor_11 : decode cX1_divisor 11 = .ok (.lload_n 1, 1) := by decide +kernel
theorem dX1_divisor_12 : decode cX1_divisor 12 = .ok (.lstore 5, 2) := by decide +kernel
theorem dX1_divisor_14 : decode cX1_divisor 14 = .ok (.lload_n 3, 1) := by decide +kernel
theorem dX1_divisor_15 : decode cX1_divisor 15 = .ok (.lstore 7, 2) := by decide +kernel
theorem dX1_divisor_17 : decode cX1_divisor 17 = .ok (.lload 7, 2) := by decide +kernel
theorem dX1_divisor_19 : decode cX1_divisor 19 = .ok (.lconst 0, 1) := by decide +kernel
theorem dX1_divisor_20 : decode cX1_divisor 20 = .ok (.lcmp, 1) := by decide +kernel
theorem dX1_divisor_21 : decode cX1_divisor 21 = .ok (.ifCond .eq 21, 3) := by decide +kernel
theorem dX1_divisor_24 : decode cX1_divisor 24 = .ok (.lload 5, 2) := by decide +kernel
theorem dX1_divisor_26 : decode cX1_divisor 26 = .ok (.lload 7, 2) := by decide +kernel
theorem dX1_divisor_28 : decode cX1_divisor 28 = .ok (.lrem, 1) := by decide +kernel
theorem dX1_divisor_29 : decode cX1_divisor 29 = .ok (.lstore 9, 2) := by decide +kernel
theorem dX1_divisor_31 : decode cX1_divisor 31 = .ok (.lload 7, 2) := by decide +kernel
theorem dX1_divisor_33 : decode cX1_divisor 33 = .ok (.lstore 5, 2) := by decide +kernel
theorem dX1_divisor_35 : decode cX1_divisor 35 = .ok (.lload 9, 2) := by decide +kernel
theorem dX1_divisor_37 : decode cX1_divisor 37 = .ok (.lstore 7, 2) := by decide +kernel
theorem dX1_divisor_39 : decode cX1_divisor 39 = .ok (.goto (-22), 3) := by decide +kernel
theorem dX1_divisor_42 : decode cX1_divisor 42 = .ok (.lload 5, 2) := by decide +kernel
theorem dX1_divisor_44 : decode cX1_divisor 44 = .ok (.lreturn, 1) := by decide +kernel
theorem dX1_part_0 : decode cX1_part 0 = .ok (.lload_n 1, 1) := by decide +kernel
theorem dX1_part_1 : decode cX1_part 1 = .ok (.lconst 0, 1) := by decide +kernel
theorem dX1_part_2 : decode cX1_part 2 = .ok (.lcmp, 1) := by decide +kernel
theorem dX1_part_3 : decode cX1_part 3 = .ok (.ifCond .ne 14, 3) := by decide +kernel
theorem dX1_part_6 : decode cX1_part 6 = .ok (.iload 5, 2) := by decide +kernel
theorem dX1_part_8 : decode cX1_part 8 = .ok (.ifCond .ne 7, 3) := by decide +kernel
theorem dX1_part_11 : decode cX1_part 11 = .ok (.lconst 0, 1) := by decide +kernel
theorem dX1_part_12 : decode cX1_part 12 = .ok (.goto 4, 3) := by decide +kernel
theorem dX1_part_15 : decode cX1_part 15 = .ok (.lconst 1, 1) := by decide +kernel
theorem dX1_part_16 : decode cX1_part 16 = .ok (.lreturn, 1) := by decide +kernel
theorem dX1_part_17 : decode cX1_part 17 = .ok (.aload_n 0, 1) := by decide +kernel
theorem dX1_part_18 : decode cX1_part 18 = .ok (.lload_n 1, 1) := by decide +kernel
theorem dX1_part_19 : decode cX1_part 19 = .ok (.lload_n 3, 1) := by decide +kernel
theorem dX1_part_20 : decode cX1_part 20 = .ok (.invokevirtual 100, 3) := by decide +kernel
theorem dX1_part_23 : decode cX1_part 23 = .ok (.lstore 6, 2) := by decide +kernel
theorem dX1_part_25 : decode cX1_part 25 = .ok (.iload 5, 2) := by decide +kernel
theorem dX1_part_27 : decode cX1_part 27 = .ok (.ifCond .ne 10, 3) := by decide +kernel
theorem dX1_part_30 : decode cX1_part 30 = .ok (.lload_n 1, 1) := by decide +kernel
theorem dX1_part_31 : decode cX1_part 31 = .ok (.lload 6, 2) := by decide +kernel
theorem dX1_part_33 : decode cX1_part 33 = .ok (.ldiv, 1) := by decide +kernel
theorem dX1_part_34 : decode cX1_part 34 = .ok (.goto 7, 3) := by decide +kernel
theorem dX1_part_37 : decode cX1_part 37 = .ok (.lload_n 3, 1) := by decide +kernel
theorem dX1_part_38 : decode cX1_part 38 = .ok (.lload 6, 2) := by decide +kernel
theorem dX1_part_40 : decode cX1_part 40 = .ok (.ldiv, 1) := by decide +kernel
theorem dX1_part_41 : decode cX1_part 41 = .ok (.lreturn, 1) := by decide +kernel
theorem dX1_easy_0 : decode cX1_easy 0 = .ok (.aload_n 0, 1) := by decide +kernel
theorem dX1_easy_1 : decode cX1_easy 1 = .ok (.iload_n 1, 1) := by decide +kernel
theorem dX1_easy_2 : decode cX1_easy 2 = .ok (.invokevirtual 59, 3) := by decide +kernel
theorem dX1_easy_5 : decode cX1_easy 5 = .ok (.ifCond .eq 13, 3) := by decide +kernel
theorem dX1_easy_8 : decode cX1_easy 8 = .ok (.aload_n 0, 1) := by decide +kernel
theorem dX1_easy_9 : decode cX1_easy 9 = .ok (.iload_n 2, 1) := by decide +kernel
theorem dX1_easy_10 : decode cX1_easy 10 = .ok (.iconst 0, 1) := by decide +kernel
theorem dX1_easy_11 : decode cX1_easy 11 = .ok (.iconst 1, 1) := by decide +kernel
theorem dX1_easy_12 : decode cX1_easy 12 = .ok (.invokevirtual 51, 3) := by decide +kernel
theorem dX1_easy_15 : decode cX1_easy 15 = .ok (.ifCond .ne 7, 3) := by decide +kernel
theorem dX1_easy_18 : decode cX1_easy 18 = .ok (.ldc2_w 104, 3) := by decide +kernel
theorem dX1_easy_21 : decode cX1_easy 21 = .ok (.lreturn, 1) := by decide +kernel
theorem dX1_easy_22 : decode cX1_easy 22 = .ok (.lconst 0, 1) := by decide +kernel
theorem dX1_easy_23 : decode cX1_easy 23 = .ok (.lstore_n 3, 1) := by decide +kernel
theorem dX1_easy_24 : decode cX1_easy 24 = .ok (.lconst 0, 1) := by decide +kernel
theorem dX1_easy_25 : decode cX1_easy 25 = .ok (.lstore 5, 2) := by decide +kernel
theorem dX1_easy_27 : decode cX1_easy 27 = .ok (.iconst 0, 1) := by decide +kernel
theorem dX1_easy_28 : decode cX1_easy 28 = .ok (.istore 7, 2) := by decide +kernel
theorem dX1_easy_30 : decode cX1_easy 30 = .ok (.iload 7, 2) := by decide +kernel
theorem dX1_easy_32 : decode cX1_easy 32 = .ok (.aload_n 0, 1) := by decide +kernel
theorem dX1_easy_33 : decode cX1_easy 33 = .ok (.getfield 16, 3) := by decide +kernel
theorem dX1_easy_36 : decode cX1_easy 36 = .ok (.if_icmp .ge 55, 3) := by decide +kernel
theorem dX1_easy_39 : decode cX1_easy 39 = .ok (.aload_n 0, 1) := by decide +kernel
theorem dX1_easy_40 : decode cX1_easy 40 = .ok (.iload 7, 2) := by decide +kernel
theorem dX1_easy_42 : decode cX1_easy 42 = .ok (.iload_n 1, 1) := by decide +kernel
theorem dX1_easy_43 : decode cX1_easy 43 = .ok (.invokevirtual 77, 3) := by decide +kernel
theorem dX1_easy_46 : decode cX1_easy 46 = .ok (.istore 8, 2) := by decide +kernel
theorem dX1_easy_48 : decode cX1_easy 48 = .ok (.iload 8, 2) := by decide +kernel
theorem dX1_easy_50 : decode cX1_easy 50 = .ok (.ifCond .lt 35, 3) := by decide +kernel
theorem dX1_easy_53 : decode cX1_easy 53 = .ok (.aload_n 0, 1) := by decide +kernel
theorem dX1_easy_54 : decode cX1_easy 54 = .ok (.iload 7, 2) := by decide +kernel
theorem dX1_easy_56 : decode cX1_easy 56 = .ok (.iload 8, 2) := by decide +kernel
theorem dX1_easy_58 : decode cX1_easy 58 = .ok (.invokevirtual 91, 3) := by decide +kernel
theorem dX1_easy_61 : decode cX1_easy 61 = .ok (.ifCond .ne 6, 3) := by decide +kernel
theorem dX1_easy_64 : decode cX1_easy 64 = .ok (.goto 21, 3) := by decide +kernel
theorem dX1_easy_67 : decode cX1_easy 67 = .ok (.lload_n 3, 1) := by decide +kernel
theorem dX1_easy_68 : decode cX1_easy 68 = .ok (.aload_n 0, 1) := by decide +kernel
theorem dX1_easy_69 : decode cX1_easy 69 = .ok (.iload 7, 2) := by decide +kernel
theorem dX1_easy_71 : decode cX1_easy 71 = .ok (.iload 8, 2) := by decide +kernel
theorem dX1_easy_73 : decode cX1_easy 73 = .ok (.invokevirtual 88, 3) := by decide +kernel
theorem dX1_easy_76 : decode cX1_easy 76 = .ok (.i2l, 1) := by decide +kernel
theorem dX1_easy_77 : decode cX1_easy 77 = .ok (.ladd, 1) := by decide +kernel
theorem dX1_easy_78 : decode cX1_easy 78 = .ok (.lstore_n 3, 1) := by decide +kernel
theorem dX1_easy_79 : decode cX1_easy 79 = .ok (.lload 5, 2) := by decide +kernel
theorem dX1_easy_81 : decode cX1_easy 81 = .ok (.lconst 1, 1) := by decide +kernel
theorem dX1_easy_82 : decode cX1_easy 82 = .ok (.ladd, 1) := by decide +kernel
theorem dX1_easy_83 : decode cX1_easy 83 = .ok (.lstore 5, 2) := by decide +kernel
theorem dX1_easy_85 : decode cX1_easy 85 = .ok (.iinc 7 1, 3) := by decide +kernel
theorem dX1_easy_88 : decode cX1_easy 88 = .ok (.goto (-58), 3) := by decide +kernel
theorem dX1_easy_91 : decode cX1_easy 91 = .ok (.aload_n 0, 1) := by decide +kernel
theorem dX1_easy_92 : decode cX1_easy 92 = .ok (.lload_n 3, 1) := by decide +kernel
theorem dX1_easy_93 : decode cX1_easy 93 = .ok (.lload 5, 2) := by decide +kernel
theorem dX1_easy_95 : decode cX1_easy 95 = .ok (.aload_n 0, 1) := by decide +kernel
theorem dX1_easy_96 : decode cX1_easy 96 = .ok (.getfield 23, 3) := by decide +kernel
theorem dX1_easy_99 : decode cX1_easy 99 = .ok (.iload_n 1, 1) := by decide +kernel
theorem dX1_easy_100 : decode cX1_easy 100 = .ok (.iaload, 1) := by decide +kernel
theorem dX1_easy_101 : decode cX1_easy 101 = .ok (.i2l, 1) := by decide +kernel
theorem dX1_easy_102 : decode cX1_easy 102 = .ok (.lmul, 1) := by decide +kernel
theorem dX1_easy_103 : decode cX1_easy 103 = .ok (.iload_n 2, 1) := by decide +kernel
theorem dX1_easy_104 : decode cX1_easy 104 = .ok (.invokevirtual 106, 3) := by decide +kernel
theorem dX1_easy_107 : decode cX1_easy 107 = .ok (.lreturn, 1) := by decide +kernel
theorem dX1_sharp_0 : decode cX1_sharp 0 = .ok (.aload_n 0, 1) := by decide +kernel
theorem dX1_sharp_1 : decode cX1_sharp 1 = .ok (.iload_n 1, 1) := by decide +kernel
theorem dX1_sharp_2 : decode cX1_sharp 2 = .ok (.invokevirtual 59, 3) := by decide +kernel
theorem dX1_sharp_5 : decode cX1_sharp 5 = .ok (.ifCond .ne 7, 3) := by decide +kernel
theorem dX1_sharp_8 : decode cX1_sharp 8 = .ok (.ldc2_w 104, 3) := by decide +kernel
theorem dX1_sharp_11 : decode cX1_sharp 11 = .ok (.lreturn, 1) := by decide +kernel
theorem dX1_sharp_12 : decode cX1_sharp 12 = .ok (.lconst 0, 1) := by decide +kernel
theorem dX1_sharp_13 : decode cX1_sharp 13 = .ok (.lstore_n 2, 1) := by decide +kernel
theorem dX1_sharp_14 : decode cX1_sharp 14 = .ok (.lconst 0, 1) := by decide +kernel
theorem dX1_sharp_15 : decode cX1_sharp 15 = .ok (.lstore 4, 2) := by decide +kernel
theorem dX1_sharp_17 : decode cX1_sharp 17 = .ok (.lconst 0, 1) := by decide +kernel
theorem dX1_sharp_18 : decode cX1_sharp 18 = .ok (.lstore 6, 2) := by decide +kernel
theorem dX1_sharp_20 : decode cX1_sharp 20 = .ok (.lconst 0, 1) := by decide +kernel
theorem dX1_sharp_21 : decode cX1_sharp 21 = .ok (.lstore 8, 2) := by decide +kernel
theorem dX1_sharp_23 : decode cX1_sharp 23 = .ok (.iconst 0, 1) := by decide +kernel
theorem dX1_sharp_24 : decode cX1_sharp 24 = .ok (.istore 10, 2) := by decide +kernel
theorem dX1_sharp_26 : decode cX1_sharp 26 = .ok (.iload 10, 2) := by decide +kernel
theorem dX1_sharp_28 : decode cX1_sharp 28 = .ok (.aload_n 0, 1) := by decide +kernel
theorem dX1_sharp_29 : decode cX1_sharp 29 = .ok (.getfield 16, 3) := by decide +kernel
theorem dX1_sharp_32 : decode cX1_sharp 32 = .ok (.if_icmp .ge 100, 3) := by decide +kernel
theorem dX1_sharp_35 : decode cX1_sharp 35 = .ok (.aload_n 0, 1) := by decide +kernel
theorem dX1_sharp_36 : decode cX1_sharp 36 = .ok (.iload 10, 2) := by decide +kernel
theorem dX1_sharp_38 : decode cX1_sharp 38 = .ok (.iload_n 1, 1) := by decide +kernel
theorem dX1_sharp_39 : decode cX1_sharp 39 = .ok (.invokevirtual 77, 3) := by decide +kernel
theorem dX1_sharp_42 : decode cX1_sharp 42 = .ok (.istore 11, 2) := by decide +kernel
theorem dX1_sharp_44 : decode cX1_sharp 44 = .ok (.iload 11, 2) := by decide +kernel
theorem dX1_sharp_46 : decode cX1_sharp 46 = .ok (.ifCond .lt 80, 3) := by decide +kernel
theorem dX1_sharp_49 : decode cX1_sharp 49 = .ok (.aload_n 0, 1) := by decide +kernel
theorem dX1_sharp_50 : decode cX1_sharp 50 = .ok (.iload 10, 2) := by decide +kernel
theorem dX1_sharp_52 : decode cX1_sharp 52 = .ok (.iload 11, 2) := by decide +kernel
theorem dX1_sharp_54 : decode cX1_sharp 54 = .ok (.invokevirtual 91, 3) := by decide +kernel
theorem dX1_sharp_57 : decode cX1_sharp 57 = .ok (.ifCond .ne 6, 3) := by decide +kernel
theorem dX1_sharp_60 : decode cX1_sharp 60 = .ok (.goto 66, 3) := by decide +kernel
theorem dX1_sharp_63 : decode cX1_sharp 63 = .ok (.aload_n 0, 1) := by decide +kernel
theorem dX1_sharp_64 : decode cX1_sharp 64 = .ok (.iload 10, 2) := by decide +kernel
theorem dX1_sharp_66 : decode cX1_sharp 66 = .ok (.iload 11, 2) := by decide +kernel
theorem dX1_sharp_68 : decode cX1_sharp 68 = .ok (.invokevirtual 88, 3) := by decide +kernel
theorem dX1_sharp_71 : decode cX1_sharp 71 = .ok (.i2l, 1) := by decide +kernel
theorem dX1_sharp_72 : decode cX1_sharp 72 = .ok (.lstore 12, 2) := by decide +kernel
theorem dX1_sharp_74 : decode cX1_sharp 74 = .ok (.aload_n 0, 1) := by decide +kernel
theorem dX1_sharp_75 : decode cX1_sharp 75 = .ok (.iload 10, 2) := by decide +kernel
theorem dX1_sharp_77 : decode cX1_sharp 77 = .ok (.invokevirtual 97, 3) := by decide +kernel
theorem dX1_sharp_80 : decode cX1_sharp 80 = .ok (.i2l, 1) := by decide +kernel
theorem dX1_sharp_81 : decode cX1_sharp 81 = .ok (.aload_n 0, 1) := by decide +kernel
theorem dX1_sharp_82 : decode cX1_sharp 82 = .ok (.iload_n 1, 1) := by decide +kernel
theorem dX1_sharp_83 : decode cX1_sharp 83 = .ok (.invokevirtual 94, 3) := by decide +kernel
theorem dX1_sharp_86 : decode cX1_sharp 86 = .ok (.ifCond .eq 8, 3) := by decide +kernel
theorem dX1_sharp_89 : decode cX1_sharp 89 = .ok (.lload 12, 2) := by decide +kernel
theorem dX1_sharp_91 : decode cX1_sharp 91 = .ok (.goto 4, 3) := by decide +kernel
theorem dX1_sharp_94 : decode cX1_sharp 94 = .ok (.lconst 0, 1) := by decide +kernel
theorem dX1_sharp_95 : decode cX1_sharp 95 = .ok (.lsub, 1) := by decide +kernel
theorem dX1_sharp_96 : decode cX1_sharp 96 = .ok (.lstore 14, 2) := by decide +kernel
theorem dX1_sharp_98 : decode cX1_sharp 98 = .ok (.lload_n 2, 1) := by decide +kernel
theorem dX1_sharp_99 : decode cX1_sharp 99 = .ok (.lconst 1, 1) := by decide +kernel
theorem dX1_sharp_100 : decode cX1_sharp 100 = .ok (.ladd, 1) := by decide +kernel
theorem dX1_sharp_101 : decode cX1_sharp 101 = .ok (.lstore_n 2, 1) := by decide +kernel
theorem dX1_sharp_102 : decode cX1_sharp 102 = .ok (.lload 4, 2) := by decide +kernel
theorem dX1_sharp_104 : decode cX1_sharp 104 = .ok (.lload 12, 2) := by decide +kernel
theorem dX1_sharp_106 : decode cX1_sharp 106 = .ok (.lload 14, 2) := by decide +kernel
theorem dX1_sharp_108 : decode cX1_sharp 108 = .ok (.lmul, 1) := by decide +kernel
theorem dX1_sharp_109 : decode cX1_sharp 109 = .ok (.ladd, 1) := by decide +kernel
theorem dX1_sharp_110 : decode cX1_sharp 110 = .ok (.lstore 4, 2) := by decide +kernel
theorem dX1_sharp_112 : decode cX1_sharp 112 = .ok (.lload 6, 2) := by decide +kernel
theorem dX1_sharp_114 : decode cX1_sharp 114 = .ok (.lload 12, 2) := by decide +kernel
theorem dX1_sharp_116 : decode cX1_sharp 116 = .ok (.ladd, 1) := by decide +kernel
theorem dX1_sharp_117 : decode cX1_sharp 117 = .ok (.lstore 6, 2) := by decide +kernel
theorem dX1_sharp_119 : decode cX1_sharp 119 = .ok (.lload 8, 2) := by decide +kernel
theorem dX1_sharp_121 : decode cX1_sharp 121 = .ok (.lload 14, 2) := by decide +kernel
theorem dX1_sharp_123 : decode cX1_sharp 123 = .ok (.ladd, 1) := by decide +kernel
theorem dX1_sharp_124 : decode cX1_sharp 124 = .ok (.lstore 8, 2) := by decide +kernel
theorem dX1_sharp_126 : decode cX1_sharp 126 = .ok (.iinc 10 1, 3) := by decide +kernel
theorem dX1_sharp_129 : decode cX1_sharp 129 = .ok (.goto (-103), 3) := by decide +kernel
theorem dX1_sharp_132 : decode cX1_sharp 132 = .ok (.lload_n 2, 1) := by decide +kernel
theorem dX1_sharp_133 : decode cX1_sharp 133 = .ok (.lload 4, 2) := by decide +kernel
theorem dX1_sharp_135 : decode cX1_sharp 135 = .ok (.lmul, 1) := by decide +kernel
theorem dX1_sharp_136 : decode cX1_sharp 136 = .ok (.lload 6, 2) := by decide +kernel
theorem dX1_sharp_138 : decode cX1_sharp 138 = .ok (.lload 8, 2) := by decide +kernel
theorem dX1_sharp_140 : decode cX1_sharp 140 = .ok (.lmul, 1) := by decide +kernel
theorem dX1_sharp_141 : decode cX1_sharp 141 = .ok (.lsub, 1) := by decide +kernel
theorem dX1_sharp_142 : decode cX1_sharp 142 = .ok (.lreturn, 1) := by decide +kernel
theorem dX1_leaks_0 : decode cX1_leaks 0 = .ok (.lconst 0, 1) := by decide +kernel
theorem dX1_leaks_1 : decode cX1_leaks 1 = .ok (.lstore 4, 2) := by decide +kernel
theorem dX1_leaks_3 : decode cX1_leaks 3 = .ok (.lconst 0, 1) := by decide +kernel
theorem dX1_leaks_4 : decode cX1_leaks 4 = .ok (.lstore 6, 2) := by decide +kernel
theorem dX1_leaks_6 : decode cX1_leaks 6 = .ok (.lconst 0, 1) := by decide +kernel
theorem dX1_leaks_7 : decode cX1_leaks 7 = .ok (.lstore 8, 2) := by decide +kernel
theorem dX1_leaks_9 : decode cX1_leaks 9 = .ok (.lconst 0, 1) := by decide +kernel
theorem dX1_leaks_10 : decode cX1_leaks 10 = .ok (.lstore 10, 2) := by decide +kernel
theorem dX1_leaks_12 : decode cX1_leaks 12 = .ok (.iconst 0, 1) := by decide +kernel
theorem dX1_leaks_13 : decode cX1_leaks 13 = .ok (.istore 12, 2) := by decide +kernel
theorem dX1_leaks_15 : decode cX1_leaks 15 = .ok (.iload 12, 2) := by decide +kernel
theorem dX1_leaks_17 : decode cX1_leaks 17 = .ok (.aload_n 0, 1) := by decide +kernel
theorem dX1_leaks_18 : decode cX1_leaks 18 = .ok (.getfield 16, 3) := by decide +kernel
theorem dX1_leaks_21 : decode cX1_leaks 21 = .ok (.if_icmp .ge 103, 3) := by decide +kernel
theorem dX1_leaks_24 : decode cX1_leaks 24 = .ok (.aload_n 0, 1) := by decide +kernel
theorem dX1_leaks_25 : decode cX1_leaks 25 = .ok (.iload 12, 2) := by decide +kernel
theorem dX1_leaks_27 : decode cX1_leaks 27 = .ok (.iload_n 1, 1) := by decide +kernel
theorem dX1_leaks_28 : decode cX1_leaks 28 = .ok (.invokevirtual 77, 3) := by decide +kernel
theorem dX1_leaks_31 : decode cX1_leaks 31 = .ok (.istore 13, 2) := by decide +kernel
theorem dX1_leaks_33 : decode cX1_leaks 33 = .ok (.iload 13, 2) := by decide +kernel
theorem dX1_leaks_35 : decode cX1_leaks 35 = .ok (.ifCond .lt 83, 3) := by decide +kernel
theorem dX1_leaks_38 : decode cX1_leaks 38 = .ok (.aload_n 0, 1) := by decide +kernel
theorem dX1_leaks_39 : decode cX1_leaks 39 = .ok (.iload 12, 2) := by decide +kernel
theorem dX1_leaks_41 : decode cX1_leaks 41 = .ok (.iload 13, 2) := by decide +kernel
theorem dX1_leaks_43 : decode cX1_leaks 43 = .ok (.invokevirtual 91, 3) := by decide +kernel
theorem dX1_leaks_46 : decode cX1_leaks 46 = .ok (.ifCond .ne 6, 3) := by decide +kernel
theorem dX1_leaks_49 : decode cX1_leaks 49 = .ok (.goto 69, 3) := by decide +kernel
theorem dX1_leaks_52 : decode cX1_leaks 52 = .ok (.aload_n 0, 1) := by decide +kernel
theorem dX1_leaks_53 : decode cX1_leaks 53 = .ok (.iload 12, 2) := by decide +kernel
theorem dX1_leaks_55 : decode cX1_leaks 55 = .ok (.iload 13, 2) := by decide +kernel
theorem dX1_leaks_57 : decode cX1_leaks 57 = .ok (.invokevirtual 88, 3) := by decide +kernel
theorem dX1_leaks_60 : decode cX1_leaks 60 = .ok (.aload_n 0, 1) := by decide +kernel
theorem dX1_leaks_61 : decode cX1_leaks 61 = .ok (.getfield 23, 3) := by decide +kernel
theorem dX1_leaks_64 : decode cX1_leaks 64 = .ok (.iload_n 1, 1) := by decide +kernel
theorem dX1_leaks_65 : decode cX1_leaks 65 = .ok (.iaload, 1) := by decide +kernel
theorem dX1_leaks_66 : decode cX1_leaks 66 = .ok (.if_icmp .ne 7, 3) := by decide +kernel
theorem dX1_leaks_69 : decode cX1_leaks 69 = .ok (.iconst 1, 1) := by decide +kernel
theorem dX1_leaks_70 : decode cX1_leaks 70 = .ok (.goto 4, 3) := by decide +kernel
theorem dX1_leaks_73 : decode cX1_leaks 73 = .ok (.iconst 0, 1) := by decide +kernel
theorem dX1_leaks_74 : decode cX1_leaks 74 = .ok (.istore 14, 2) := by decide +kernel
theorem dX1_leaks_76 : decode cX1_leaks 76 = .ok (.aload_n 0, 1) := by decide +kernel
theorem dX1_leaks_77 : decode cX1_leaks 77 = .ok (.getfield 42, 3) := by decide +kernel
theorem dX1_leaks_80 : decode cX1_leaks 80 = .ok (.iload 12, 2) := by decide +kernel
theorem dX1_leaks_82 : decode cX1_leaks 82 = .ok (.iaload, 1) := by decide +kernel
theorem dX1_leaks_83 : decode cX1_leaks 83 = .ok (.iload_n 2, 1) := by decide +kernel
theorem dX1_leaks_84 : decode cX1_leaks 84 = .ok (.if_icmp .ne 20, 3) := by decide +kernel
theorem dX1_leaks_87 : decode cX1_leaks 87 = .ok (.lload 4, 2) := by decide +kernel
theorem dX1_leaks_89 : decode cX1_leaks 89 = .ok (.lconst 1, 1) := by decide +kernel
theorem dX1_leaks_90 : decode cX1_leaks 90 = .ok (.ladd, 1) := by decide +kernel
theorem dX1_leaks_91 : decode cX1_leaks 91 = .ok (.lstore 4, 2) := by decide +kernel
theorem dX1_leaks_93 : decode cX1_leaks 93 = .ok (.lload 6, 2) := by decide +kernel
theorem dX1_leaks_95 : decode cX1_leaks 95 = .ok (.iload 14, 2) := by decide +kernel
theorem dX1_leaks_97 : decode cX1_leaks 97 = .ok (.i2l, 1) := by decide +kernel
theorem dX1_leaks_98 : decode cX1_leaks 98 = .ok (.ladd, 1) := by decide +kernel
theorem dX1_leaks_99 : decode cX1_leaks 99 = .ok (.lstore 6, 2) := by decide +kernel
theorem dX1_leaks_101 : decode cX1_leaks 101 = .ok (.goto 17, 3) := by decide +kernel
theorem dX1_leaks_104 : decode cX1_leaks 104 = .ok (.lload 8, 2) := by decide +kernel
theorem dX1_leaks_106 : decode cX1_leaks 106 = .ok (.lconst 1, 1) := by decide +kernel
theorem dX1_leaks_107 : decode cX1_leaks 107 = .ok (.ladd, 1) := by decide +kernel
theorem dX1_leaks_108 : decode cX1_leaks 108 = .ok (.lstore 8, 2) := by decide +kernel
theorem dX1_leaks_110 : decode cX1_leaks 110 = .ok (.lload 10, 2) := by decide +kernel
theorem dX1_leaks_112 : decode cX1_leaks 112 = .ok (.iload 14, 2) := by decide +kernel
theorem dX1_leaks_114 : decode cX1_leaks 114 = .ok (.i2l, 1) := by decide +kernel
theorem dX1_leaks_115 : decode cX1_leaks 115 = .ok (.ladd, 1) := by decide +kernel
theorem dX1_leaks_116 : decode cX1_leaks 116 = .ok (.lstore 10, 2) := by decide +kernel
theorem dX1_leaks_118 : decode cX1_leaks 118 = .ok (.iinc 12 1, 3) := by decide +kernel
theorem dX1_leaks_121 : decode cX1_leaks 121 = .ok (.goto (-106), 3) := by decide +kernel
theorem dX1_leaks_124 : decode cX1_leaks 124 = .ok (.lload 4, 2) := by decide +kernel
theorem dX1_leaks_126 : decode cX1_leaks 126 = .ok (.lconst 0, 1) := by decide +kernel
theorem dX1_leaks_127 : decode cX1_leaks 127 = .ok (.lcmp, 1) := by decide +kernel
theorem dX1_leaks_128 : decode cX1_leaks 128 = .ok (.ifCond .le 41, 3) := by decide +kernel
theorem dX1_leaks_131 : decode cX1_leaks 131 = .ok (.lload 8, 2) := by decide +kernel
theorem dX1_leaks_133 : decode cX1_leaks 133 = .ok (.lconst 0, 1) := by decide +kernel
theorem dX1_leaks_134 : decode cX1_leaks 134 = .ok (.lcmp, 1) := by decide +kernel
theorem dX1_leaks_135 : decode cX1_leaks 135 = .ok (.ifCond .le 34, 3) := by decide +kernel
theorem dX1_leaks_138 : decode cX1_leaks 138 = .ok (.ldc2_w 110, 3) := by decide +kernel
theorem dX1_leaks_141 : decode cX1_leaks 141 = .ok (.lload 6, 2) := by decide +kernel
theorem dX1_leaks_143 : decode cX1_leaks 143 = .ok (.lload 8, 2) := by decide +kernel
theorem dX1_leaks_145 : decode cX1_leaks 145 = .ok (.lmul, 1) := by decide +kernel
theorem dX1_leaks_146 : decode cX1_leaks 146 = .ok (.lload 10, 2) := by decide +kernel
theorem dX1_leaks_148 : decode cX1_leaks 148 = .ok (.lload 4, 2) := by decide +kernel
theorem dX1_leaks_150 : decode cX1_leaks 150 = .ok (.lmul, 1) := by decide +kernel
theorem dX1_leaks_151 : decode cX1_leaks 151 = .ok (.lsub, 1) := by decide +kernel
theorem dX1_leaks_152 : decode cX1_leaks 152 = .ok (.lmul, 1) := by decide +kernel
theorem dX1_leaks_153 : decode cX1_leaks 153 = .ok (.iload_n 3, 1) := by decide +kernel
theorem dX1_leaks_154 : decode cX1_leaks 154 = .ok (.i2l, 1) := by decide +kernel
theorem dX1_leaks_155 : decode cX1_leaks 155 = .ok (.lload 4, 2) := by decide +kernel
theorem dX1_leaks_157 : decode cX1_leaks 157 = .ok (.lmul, 1) := by decide +kernel
theorem dX1_leaks_158 : decode cX1_leaks 158 = .ok (.lload 8, 2) := by decide +kernel
theorem dX1_leaks_160 : decode cX1_leaks 160 = .ok (.lmul, 1) := by decide +kernel
theorem dX1_leaks_161 : decode cX1_leaks 161 = .ok (.lcmp, 1) := by decide +kernel
theorem dX1_leaks_162 : decode cX1_leaks 162 = .ok (.ifCond .le 7, 3) := by decide +kernel
theorem dX1_leaks_165 : decode cX1_leaks 165 = .ok (.iconst 1, 1) := by decide +kernel
theorem dX1_leaks_166 : decode cX1_leaks 166 = .ok (.goto 4, 3) := by decide +kernel
theorem dX1_leaks_169 : decode cX1_leaks 169 = .ok (.iconst 0, 1) := by decide +kernel
theorem dX1_leaks_170 : decode cX1_leaks 170 = .ok (.ireturn, 1) := by decide +kernel
theorem dX1_leaky_0 : decode cX1_leaky 0 = .ok (.aload_n 0, 1) := by decide +kernel
theorem dX1_leaky_1 : decode cX1_leaky 1 = .ok (.iload_n 1, 1) := by decide +kernel
theorem dX1_leaky_2 : decode cX1_leaky 2 = .ok (.invokevirtual 59, 3) := by decide +kernel
theorem dX1_leaky_5 : decode cX1_leaky 5 = .ok (.ifCond .eq 13, 3) := by decide +kernel
theorem dX1_leaky_8 : decode cX1_leaky 8 = .ok (.aload_n 0, 1) := by decide +kernel
theorem dX1_leaky_9 : decode cX1_leaky 9 = .ok (.iload_n 2, 1) := by decide +kernel
theorem dX1_leaky_10 : decode cX1_leaky 10 = .ok (.iconst 0, 1) := by decide +kernel
theorem dX1_leaky_11 : decode cX1_leaky 11 = .ok (.iconst 3, 1) := by decide +kernel
theorem dX1_leaky_12 : decode cX1_leaky 12 = .ok (.invokevirtual 51, 3) := by decide +kernel
theorem dX1_leaky_15 : decode cX1_leaky 15 = .ok (.ifCond .ne 5, 3) := by decide +kernel
theorem dX1_leaky_18 : decode cX1_leaky 18 = .ok (.iconst (-1), 1) := by decide +kernel
theorem dX1_leaky_19 : decode cX1_leaky 19 = .ok (.ireturn, 1) := by decide +kernel
theorem dX1_leaky_20 : decode cX1_leaky 20 = .ok (.aload_n 0, 1) := by decide +kernel
theorem dX1_leaky_21 : decode cX1_leaky 21 = .ok (.iload_n 3, 1) := by decide +kernel
theorem dX1_leaky_22 : decode cX1_leaky 22 = .ok (.iconst 1, 1) := by decide +kernel
theorem dX1_leaky_23 : decode cX1_leaky 23 = .ok (.bipush 100, 2) := by decide +kernel
theorem dX1_leaky_25 : decode cX1_leaky 25 = .ok (.invokevirtual 51, 3) := by decide +kernel
theorem dX1_leaky_28 : decode cX1_leaky 28 = .ok (.ifCond .ne 6, 3) := by decide +kernel
theorem dX1_leaky_31 : decode cX1_leaky 31 = .ok (.bipush (-2), 2) := by decide +kernel
theorem dX1_leaky_33 : decode cX1_leaky 33 = .ok (.ireturn, 1) := by decide +kernel
theorem dX1_leaky_34 : decode cX1_leaky 34 = .ok (.aload_n 0, 1) := by decide +kernel
theorem dX1_leaky_35 : decode cX1_leaky 35 = .ok (.iload_n 1, 1) := by decide +kernel
theorem dX1_leaky_36 : decode cX1_leaky 36 = .ok (.iload_n 2, 1) := by decide +kernel
theorem dX1_leaky_37 : decode cX1_leaky 37 = .ok (.iload_n 3, 1) := by decide +kernel
theorem dX1_leaky_38 : decode cX1_leaky 38 = .ok (.invokevirtual 112, 3) := by decide +kernel
theorem dX1_leaky_41 : decode cX1_leaky 41 = .ok (.ifCond .eq 7, 3) := by decide +kernel
theorem dX1_leaky_44 : decode cX1_leaky 44 = .ok (.iconst 1, 1) := by decide +kernel
theorem dX1_leaky_45 : decode cX1_leaky 45 = .ok (.goto 4, 3) := by decide +kernel
theorem dX1_leaky_48 : decode cX1_leaky 48 = .ok (.iconst 0, 1) := by decide +kernel
theorem dX1_leaky_49 : decode cX1_leaky 49 = .ok (.ireturn, 1) := by decide +kernel
theorem dX1_leak_0 : decode cX1_leak 0 = .ok (.iload_n 2, 1) := by decide +kernel
theorem dX1_leak_1 : decode cX1_leak 1 = .ok (.ifCond .ge 5, 3) := by decide +kernel
theorem dX1_leak_4 : decode cX1_leak 4 = .ok (.iconst (-1), 1) := by decide +kernel
theorem dX1_leak_5 : decode cX1_leak 5 = .ok (.ireturn, 1) := by decide +kernel
theorem dX1_leak_6 : decode cX1_leak 6 = .ok (.aload_n 0, 1) := by decide +kernel
theorem dX1_leak_7 : decode cX1_leak 7 = .ok (.iload_n 1, 1) := by decide +kernel
theorem dX1_leak_8 : decode cX1_leak 8 = .ok (.iconst 1, 1) := by decide +kernel
theorem dX1_leak_9 : decode cX1_leak 9 = .ok (.bipush 100, 2) := by decide +kernel
theorem dX1_leak_11 : decode cX1_leak 11 = .ok (.invokevirtual 51, 3) := by decide +kernel
theorem dX1_leak_14 : decode cX1_leak 14 = .ok (.ifCond .ne 6, 3) := by decide +kernel
theorem dX1_leak_17 : decode cX1_leak 17 = .ok (.bipush (-2), 2) := by decide +kernel
theorem dX1_leak_19 : decode cX1_leak 19 = .ok (.ireturn, 1) := by decide +kernel
theorem dX1_leak_20 : decode cX1_leak 20 = .ok (.iload_n 2, 1) := by decide +kernel
theorem dX1_leak_21 : decode cX1_leak 21 = .ok (.istore_n 3, 1) := by decide +kernel
theorem dX1_leak_22 : decode cX1_leak 22 = .ok (.iconst 0, 1) := by decide +kernel
theorem dX1_leak_23 : decode cX1_leak 23 = .ok (.istore 4, 2) := by decide +kernel
theorem dX1_leak_25 : decode cX1_leak 25 = .ok (.iload 4, 2) := by decide +kernel
theorem dX1_leak_27 : decode cX1_leak 27 = .ok (.iconst 4, 1) := by decide +kernel
theorem dX1_leak_28 : decode cX1_leak 28 = .ok (.aload_n 0, 1) := by decide +kernel
theorem dX1_leak_29 : decode cX1_leak 29 = .ok (.getfield 7, 3) := by decide +kernel
theorem dX1_leak_32 : decode cX1_leak 32 = .ok (.imul, 1) := by decide +kernel
theorem dX1_leak_33 : decode cX1_leak 33 = .ok (.if_icmp .ge 38, 3) := by decide +kernel
theorem dX1_leak_36 : decode cX1_leak 36 = .ok (.aload_n 0, 1) := by decide +kernel
theorem dX1_leak_37 : decode cX1_leak 37 = .ok (.iload 4, 2) := by decide +kernel
theorem dX1_leak_39 : decode cX1_leak 39 = .ok (.iconst 4, 1) := by decide +kernel
theorem dX1_leak_40 : decode cX1_leak 40 = .ok (.idiv, 1) := by decide +kernel
theorem dX1_leak_41 : decode cX1_leak 41 = .ok (.iload 4, 2) := by decide +kernel
theorem dX1_leak_43 : decode cX1_leak 43 = .ok (.iconst 4, 1) := by decide +kernel
theorem dX1_leak_44 : decode cX1_leak 44 = .ok (.irem, 1) := by decide +kernel
theorem dX1_leak_45 : decode cX1_leak 45 = .ok (.iload_n 1, 1) := by decide +kernel
theorem dX1_leak_46 : decode cX1_leak 46 = .ok (.invokevirtual 112, 3) := by decide +kernel
theorem dX1_leak_49 : decode cX1_leak 49 = .ok (.ifCond .ne 6, 3) := by decide +kernel
theorem dX1_leak_52 : decode cX1_leak 52 = .ok (.goto 13, 3) := by decide +kernel
theorem dX1_leak_55 : decode cX1_leak 55 = .ok (.iload_n 3, 1) := by decide +kernel
theorem dX1_leak_56 : decode cX1_leak 56 = .ok (.ifCond .ne 6, 3) := by decide +kernel
theorem dX1_leak_59 : decode cX1_leak 59 = .ok (.iload 4, 2) := by decide +kernel
theorem dX1_leak_61 : decode cX1_leak 61 = .ok (.ireturn, 1) := by decide +kernel
theorem dX1_leak_62 : decode cX1_leak 62 = .ok (.iinc 3 (-1), 3) := by decide +kernel
theorem dX1_leak_65 : decode cX1_leak 65 = .ok (.iinc 4 1, 3) := by decide +kernel
theorem dX1_leak_68 : decode cX1_leak 68 = .ok (.goto (-43), 3) := by decide +kernel
theorem dX1_leak_71 : decode cX1_leak 71 = .ok (.iconst (-1), 1) := by decide +kernel
theorem dX1_leak_72 : decode cX1_leak 72 = .ok (.ireturn, 1) := by decide +kernel
theorem dX1_isShared_0 : decode cX1_isShared 0 = .ok (.aload_n 0, 1) := by decide +kernel
theorem dX1_isShared_1 : decode cX1_isShared 1 = .ok (.aload_n 0, 1) := by decide +kernel
theorem dX1_isShared_2 : decode cX1_isShared 2 = .ok (.getfield 33, 3) := by decide +kernel
theorem dX1_isShared_5 : decode cX1_isShared 5 = .ok (.bipush 12, 2) := by decide +kernel
theorem dX1_isShared_7 : decode cX1_isShared 7 = .ok (.iload_n 1, 1) := by decide +kernel
theorem dX1_isShared_8 : decode cX1_isShared 8 = .ok (.imul, 1) := by decide +kernel
theorem dX1_isShared_9 : decode cX1_isShared 9 = .ok (.iload_n 2, 1) := by decide +kernel
theorem dX1_isShared_10 : decode cX1_isShared 10 = .ok (.iadd, 1) := by decide +kernel
theorem dX1_isShared_11 : decode cX1_isShared 11 = .ok (.iaload, 1) := by decide +kernel
theorem dX1_isShared_12 : decode cX1_isShared 12 = .ok (.invokevirtual 94, 3) := by decide +kernel
theorem dX1_isShared_15 : decode cX1_isShared 15 = .ok (.ifCond .eq 26, 3) := by decide +kernel
theorem dX1_isShared_18 : decode cX1_isShared 18 = .ok (.aload_n 0, 1) := by decide +kernel
theorem dX1_isShared_19 : decode cX1_isShared 19 = .ok (.iload_n 3, 1) := by decide +kernel
theorem dX1_isShared_20 : decode cX1_isShared 20 = .ok (.aload_n 0, 1) := by decide +kernel
theorem dX1_isShared_21 : decode cX1_isShared 21 = .ok (.getfield 33, 3) := by decide +kernel
theorem dX1_isShared_24 : decode cX1_isShared 24 = .ok (.bipush 12, 2) := by decide +kernel
theorem dX1_isShared_26 : decode cX1_isShared 26 = .ok (.iload_n 1, 1) := by decide +kernel
theorem dX1_isShared_27 : decode cX1_isShared 27 = .ok (.imul, 1) := by decide +kernel
theorem dX1_isShared_28 : decode cX1_isShared 28 = .ok (.iload_n 2, 1) := by decide +kernel
theorem dX1_isShared_29 : decode cX1_isShared 29 = .ok (.iadd, 1) := by decide +kernel
theorem dX1_isShared_30 : decode cX1_isShared 30 = .ok (.iaload, 1) := by decide +kernel
theorem dX1_isShared_31 : decode cX1_isShared 31 = .ok (.invokevirtual 66, 3) := by decide +kernel
theorem dX1_isShared_34 : decode cX1_isShared 34 = .ok (.ifCond .lt 7, 3) := by decide +kernel
theorem dX1_isShared_37 : decode cX1_isShared 37 = .ok (.iconst 1, 1) := by decide +kernel
theorem dX1_isShared_38 : decode cX1_isShared 38 = .ok (.goto 4, 3) := by decide +kernel
theorem dX1_isShared_41 : decode cX1_isShared 41 = .ok (.iconst 0, 1) := by decide +kernel
theorem dX1_isShared_42 : decode cX1_isShared 42 = .ok (.ireturn, 1) := by decide +kernel
theorem dX1_sharedMany_0 : decode cX1_sharedMany 0 = .ok (.iconst 0, 1) := by decide +kernel
theorem dX1_sharedMany_1 : decode cX1_sharedMany 1 = .ok (.istore_n 3, 1) := by decide +kernel
theorem dX1_sharedMany_2 : decode cX1_sharedMany 2 = .ok (.iconst 0, 1) := by decide +kernel
theorem dX1_sharedMany_3 : decode cX1_sharedMany 3 = .ok (.istore 4, 2) := by decide +kernel
theorem dX1_sharedMany_5 : decode cX1_sharedMany 5 = .ok (.iload 4, 2) := by decide +kernel
theorem dX1_sharedMany_7 : decode cX1_sharedMany 7 = .ok (.aload_n 0, 1) := by decide +kernel
theorem dX1_sharedMany_8 : decode cX1_sharedMany 8 = .ok (.getfield 36, 3) := by decide +kernel
theorem dX1_sharedMany_11 : decode cX1_sharedMany 11 = .ok (.iload_n 1, 1) := by decide +kernel
theorem dX1_sharedMany_12 : decode cX1_sharedMany 12 = .ok (.iaload, 1) := by decide +kernel
theorem dX1_sharedMany_13 : decode cX1_sharedMany 13 = .ok (.if_icmp .ge 28, 3) := by decide +kernel
theorem dX1_sharedMany_16 : decode cX1_sharedMany 16 = .ok (.iload_n 3, 1) := by decide +kernel
theorem dX1_sharedMany_17 : decode cX1_sharedMany 17 = .ok (.aload_n 0, 1) := by decide +kernel
theorem dX1_sharedMany_18 : decode cX1_sharedMany 18 = .ok (.iload_n 1, 1) := by decide +kernel
theorem dX1_sharedMany_19 : decode cX1_sharedMany 19 = .ok (.iload 4, 2) := by decide +kernel
theorem dX1_sharedMany_21 : decode cX1_sharedMany 21 = .ok (.iload_n 2, 1) := by decide +kernel
theorem dX1_sharedMany_22 : decode cX1_sharedMany 22 = .ok (.invokevirtual 115, 3) := by decide +kernel
theorem dX1_sharedMany_25 : decode cX1_sharedMany 25 = .ok (.ifCond .eq 7, 3) := by decide +kernel
theorem dX1_sharedMany_28 : decode cX1_sharedMany 28 = .ok (.iconst 1, 1) := by decide +kernel
theorem dX1_sharedMany_29 : decode cX1_sharedMany 29 = .ok (.goto 4, 3) := by decide +kernel
theorem dX1_sharedMany_32 : decode cX1_sharedMany 32 = .ok (.iconst 0, 1) := by decide +kernel
theorem dX1_sharedMany_33 : decode cX1_sharedMany 33 = .ok (.iadd, 1) := by decide +kernel
theorem dX1_sharedMany_34 : decode cX1_sharedMany 34 = .ok (.istore_n 3, 1) := by decide +kernel
theorem dX1_sharedMany_35 : decode cX1_sharedMany 35 = .ok (.iinc 4 1, 3) := by decide +kernel
theorem dX1_sharedMany_38 : decode cX1_sharedMany 38 = .ok (.goto (-33), 3) := by decide +kernel
theorem dX1_sharedMany_41 : decode cX1_sharedMany 41 = .ok (.iload_n 3, 1) := by decide +kernel
theorem dX1_sharedMany_42 : decode cX1_sharedMany 42 = .ok (.ireturn, 1) := by decide +kernel
theorem dX1_shared_0 : decode cX1_shared 0 = .ok (.aload_n 0, 1) := by decide +kernel
theorem dX1_shared_1 : decode cX1_shared 1 = .ok (.iload_n 1, 1) := by decide +kernel
theorem dX1_shared_2 : decode cX1_shared 2 = .ok (.invokevirtual 63, 3) := by decide +kernel
theorem dX1_shared_5 : decode cX1_shared 5 = .ok (.ifCond .eq 11, 3) := by decide +kernel
theorem dX1_shared_8 : decode cX1_shared 8 = .ok (.aload_n 0, 1) := by decide +kernel
theorem dX1_shared_9 : decode cX1_shared 9 = .ok (.iload_n 2, 1) := by decide +kernel
theorem dX1_shared_10 : decode cX1_shared 10 = .ok (.invokevirtual 63, 3) := by decide +kernel
theorem dX1_shared_13 : decode cX1_shared 13 = .ok (.ifCond .ne 5, 3) := by decide +kernel
theorem dX1_shared_16 : decode cX1_shared 16 = .ok (.iconst (-1), 1) := by decide +kernel
theorem dX1_shared_17 : decode cX1_shared 17 = .ok (.ireturn, 1) := by decide +kernel
theorem dX1_shared_18 : decode cX1_shared 18 = .ok (.iload_n 1, 1) := by decide +kernel
theorem dX1_shared_19 : decode cX1_shared 19 = .ok (.iload_n 2, 1) := by decide +kernel
theorem dX1_shared_20 : decode cX1_shared 20 = .ok (.if_icmp .ne 8, 3) := by decide +kernel
theorem dX1_shared_23 : decode cX1_shared 23 = .ok (.bipush (-2), 2) := by decide +kernel
theorem dX1_shared_25 : decode cX1_shared 25 = .ok (.goto 9, 3) := by decide +kernel
theorem dX1_shared_28 : decode cX1_shared 28 = .ok (.aload_n 0, 1) := by decide +kernel
theorem dX1_shared_29 : decode cX1_shared 29 = .ok (.iload_n 1, 1) := by decide +kernel
theorem dX1_shared_30 : decode cX1_shared 30 = .ok (.iload_n 2, 1) := by decide +kernel
theorem dX1_shared_31 : decode cX1_shared 31 = .ok (.invokevirtual 118, 3) := by decide +kernel
theorem dX1_shared_34 : decode cX1_shared 34 = .ok (.ireturn, 1) := by decide +kernel
theorem dX1_sharedSum_0 : decode cX1_sharedSum 0 = .ok (.iconst 0, 1) := by decide +kernel
theorem dX1_sharedSum_1 : decode cX1_sharedSum 1 = .ok (.istore_n 3, 1) := by decide +kernel
theorem dX1_sharedSum_2 : decode cX1_sharedSum 2 = .ok (.iconst 0, 1) := by decide +kernel
theorem dX1_sharedSum_3 : decode cX1_sharedSum 3 = .ok (.istore 4, 2) := by decide +kernel
theorem dX1_sharedSum_5 : decode cX1_sharedSum 5 = .ok (.iload 4, 2) := by decide +kernel
theorem dX1_sharedSum_7 : decode cX1_sharedSum 7 = .ok (.aload_n 0, 1) := by decide +kernel
theorem dX1_sharedSum_8 : decode cX1_sharedSum 8 = .ok (.getfield 36, 3) := by decide +kernel
theorem dX1_sharedSum_11 : decode cX1_sharedSum 11 = .ok (.aload_n 0, 1) := by decide +kernel
theorem dX1_sharedSum_12 : decode cX1_sharedSum 12 = .ok (.getfield 39, 3) := by decide +kernel
theorem dX1_sharedSum_15 : decode cX1_sharedSum 15 = .ok (.iload_n 1, 1) := by decide +kernel
theorem dX1_sharedSum_16 : decode cX1_sharedSum 16 = .ok (.iaload, 1) := by decide +kernel
theorem dX1_sharedSum_17 : decode cX1_sharedSum 17 = .ok (.iaload, 1) := by decide +kernel
theorem dX1_sharedSum_18 : decode cX1_sharedSum 18 = .ok (.if_icmp .ge 39, 3) := by decide +kernel
theorem dX1_sharedSum_21 : decode cX1_sharedSum 21 = .ok (.iload_n 3, 1) := by decide +kernel
theorem dX1_sharedSum_22 : decode cX1_sharedSum 22 = .ok (.aload_n 0, 1) := by decide +kernel
theorem dX1_sharedSum_23 : decode cX1_sharedSum 23 = .ok (.aload_n 0, 1) := by decide +kernel
theorem dX1_sharedSum_24 : decode cX1_sharedSum 24 = .ok (.getfield 39, 3) := by decide +kernel
theorem dX1_sharedSum_27 : decode cX1_sharedSum 27 = .ok (.iload_n 1, 1) := by decide +kernel
theorem dX1_sharedSum_28 : decode cX1_sharedSum 28 = .ok (.iaload, 1) := by decide +kernel
theorem dX1_sharedSum_29 : decode cX1_sharedSum 29 = .ok (.iload 4, 2) := by decide +kernel
theorem dX1_sharedSum_31 : decode cX1_sharedSum 31 = .ok (.iload_n 2, 1) := by decide +kernel
theorem dX1_sharedSum_32 : decode cX1_sharedSum 32 = .ok (.invokevirtual 115, 3) := by decide +kernel
theorem dX1_sharedSum_35 : decode cX1_sharedSum 35 = .ok (.ifCond .eq 13, 3) := by decide +kernel
theorem dX1_sharedSum_38 : decode cX1_sharedSum 38 = .ok (.aload_n 0, 1) := by decide +kernel
theorem dX1_sharedSum_39 : decode cX1_sharedSum 39 = .ok (.iload_n 1, 1) := by decide +kernel
theorem dX1_sharedSum_40 : decode cX1_sharedSum 40 = .ok (.iload 4, 2) := by decide +kernel
theorem dX1_sharedSum_42 : decode cX1_sharedSum 42 = .ok (.invokevirtual 88, 3) := by decide +kernel
theorem dX1_sharedSum_45 : decode cX1_sharedSum 45 = .ok (.goto 4, 3) := by decide +kernel
theorem dX1_sharedSum_48 : decode cX1_sharedSum 48 = .ok (.iconst 0, 1) := by decide +kernel
theorem dX1_sharedSum_49 : decode cX1_sharedSum 49 = .ok (.iadd, 1) := by decide +kernel
theorem dX1_sharedSum_50 : decode cX1_sharedSum 50 = .ok (.istore_n 3, 1) := by decide +kernel
theorem dX1_sharedSum_51 : decode cX1_sharedSum 51 = .ok (.iinc 4 1, 3) := by decide +kernel
theorem dX1_sharedSum_54 : decode cX1_sharedSum 54 = .ok (.goto (-49), 3) := by decide +kernel
theorem dX1_sharedSum_57 : decode cX1_sharedSum 57 = .ok (.iload_n 3, 1) := by decide +kernel
theorem dX1_sharedSum_58 : decode cX1_sharedSum 58 = .ok (.ireturn, 1) := by decide +kernel
theorem dX1_sum_0 : decode cX1_sum 0 = .ok (.aload_n 0, 1) := by decide +kernel
theorem dX1_sum_1 : decode cX1_sum 1 = .ok (.iload_n 1, 1) := by decide +kernel
theorem dX1_sum_2 : decode cX1_sum 2 = .ok (.invokevirtual 74, 3) := by decide +kernel
theorem dX1_sum_5 : decode cX1_sum 5 = .ok (.ifCond .eq 11, 3) := by decide +kernel
theorem dX1_sum_8 : decode cX1_sum 8 = .ok (.aload_n 0, 1) := by decide +kernel
theorem dX1_sum_9 : decode cX1_sum 9 = .ok (.iload_n 2, 1) := by decide +kernel
theorem dX1_sum_10 : decode cX1_sum 10 = .ok (.invokevirtual 63, 3) := by decide +kernel
theorem dX1_sum_13 : decode cX1_sum 13 = .ok (.ifCond .ne 5, 3) := by decide +kernel
theorem dX1_sum_16 : decode cX1_sum 16 = .ok (.iconst (-1), 1) := by decide +kernel
theorem dX1_sum_17 : decode cX1_sum 17 = .ok (.ireturn, 1) := by decide +kernel
theorem dX1_sum_18 : decode cX1_sum 18 = .ok (.aload_n 0, 1) := by decide +kernel
theorem dX1_sum_19 : decode cX1_sum 19 = .ok (.getfield 39, 3) := by decide +kernel
theorem dX1_sum_22 : decode cX1_sum 22 = .ok (.iload_n 1, 1) := by decide +kernel
theorem dX1_sum_23 : decode cX1_sum 23 = .ok (.iaload, 1) := by decide +kernel
theorem dX1_sum_24 : decode cX1_sum 24 = .ok (.iload_n 2, 1) := by decide +kernel
theorem dX1_sum_25 : decode cX1_sum 25 = .ok (.if_icmp .ne 8, 3) := by decide +kernel
theorem dX1_sum_28 : decode cX1_sum 28 = .ok (.bipush (-2), 2) := by decide +kernel
theorem dX1_sum_30 : decode cX1_sum 30 = .ok (.goto 9, 3) := by decide +kernel
theorem dX1_sum_33 : decode cX1_sum 33 = .ok (.aload_n 0, 1) := by decide +kernel
theorem dX1_sum_34 : decode cX1_sum 34 = .ok (.iload_n 1, 1) := by decide +kernel
theorem dX1_sum_35 : decode cX1_sum 35 = .ok (.iload_n 2, 1) := by decide +kernel
theorem dX1_sum_36 : decode cX1_sum 36 = .ok (.invokevirtual 121, 3) := by decide +kernel
theorem dX1_sum_39 : decode cX1_sum 39 = .ok (.ireturn, 1) := by decide +kernel
theorem dX1_valueOf_0 : decode cX1_valueOf 0 = .ok (.aload_n 0, 1) := by decide +kernel
theorem dX1_valueOf_1 : decode cX1_valueOf 1 = .ok (.getfield 39, 3) := by decide +kernel
theorem dX1_valueOf_4 : decode cX1_valueOf 4 = .ok (.iload_n 1, 1) := by decide +kernel
theorem dX1_valueOf_5 : decode cX1_valueOf 5 = .ok (.iaload, 1) := by decide +kernel
theorem dX1_valueOf_6 : decode cX1_valueOf 6 = .ok (.iload_n 2, 1) := by decide +kernel
theorem dX1_valueOf_7 : decode cX1_valueOf 7 = .ok (.if_icmp .ne 12, 3) := by decide +kernel
theorem dX1_valueOf_10 : decode cX1_valueOf 10 = .ok (.aload_n 0, 1) := by decide +kernel
theorem dX1_valueOf_11 : decode cX1_valueOf 11 = .ok (.iload_n 1, 1) := by decide +kernel
theorem dX1_valueOf_12 : decode cX1_valueOf 12 = .ok (.invokevirtual 97, 3) := by decide +kernel
theorem dX1_valueOf_15 : decode cX1_valueOf 15 = .ok (.i2l, 1) := by decide +kernel
theorem dX1_valueOf_16 : decode cX1_valueOf 16 = .ok (.goto 10, 3) := by decide +kernel
theorem dX1_valueOf_19 : decode cX1_valueOf 19 = .ok (.aload_n 0, 1) := by decide +kernel
theorem dX1_valueOf_20 : decode cX1_valueOf 20 = .ok (.iload_n 1, 1) := by decide +kernel
theorem dX1_valueOf_21 : decode cX1_valueOf 21 = .ok (.iload_n 2, 1) := by decide +kernel
theorem dX1_valueOf_22 : decode cX1_valueOf 22 = .ok (.invokevirtual 121, 3) := by decide +kernel
theorem dX1_valueOf_25 : decode cX1_valueOf 25 = .ok (.i2l, 1) := by decide +kernel
theorem dX1_valueOf_26 : decode cX1_valueOf 26 = .ok (.lreturn, 1) := by decide +kernel
theorem dX1_sumOf_0 : decode cX1_sumOf 0 = .ok (.lconst 0, 1) := by decide +kernel
theorem dX1_sumOf_1 : decode cX1_sumOf 1 = .ok (.lstore_n 3, 1) := by decide +kernel
theorem dX1_sumOf_2 : decode cX1_sumOf 2 = .ok (.iconst 0, 1) := by decide +kernel
theorem dX1_sumOf_3 : decode cX1_sumOf 3 = .ok (.istore 5, 2) := by decide +kernel
theorem dX1_sumOf_5 : decode cX1_sumOf 5 = .ok (.iload 5, 2) := by decide +kernel
theorem dX1_sumOf_7 : decode cX1_sumOf 7 = .ok (.aload_n 0, 1) := by decide +kernel
theorem dX1_sumOf_8 : decode cX1_sumOf 8 = .ok (.getfield 16, 3) := by decide +kernel
theorem dX1_sumOf_11 : decode cX1_sumOf 11 = .ok (.if_icmp .ge 34, 3) := by decide +kernel
theorem dX1_sumOf_14 : decode cX1_sumOf 14 = .ok (.lload_n 3, 1) := by decide +kernel
theorem dX1_sumOf_15 : decode cX1_sumOf 15 = .ok (.aload_n 0, 1) := by decide +kernel
theorem dX1_sumOf_16 : decode cX1_sumOf 16 = .ok (.getfield 39, 3) := by decide +kernel
theorem dX1_sumOf_19 : decode cX1_sumOf 19 = .ok (.iload 5, 2) := by decide +kernel
theorem dX1_sumOf_21 : decode cX1_sumOf 21 = .ok (.iaload, 1) := by decide +kernel
theorem dX1_sumOf_22 : decode cX1_sumOf 22 = .ok (.iload_n 1, 1) := by decide +kernel
theorem dX1_sumOf_23 : decode cX1_sumOf 23 = .ok (.if_icmp .ne 13, 3) := by decide +kernel
theorem dX1_sumOf_26 : decode cX1_sumOf 26 = .ok (.aload_n 0, 1) := by decide +kernel
theorem dX1_sumOf_27 : decode cX1_sumOf 27 = .ok (.iload 5, 2) := by decide +kernel
theorem dX1_sumOf_29 : decode cX1_sumOf 29 = .ok (.iload_n 2, 1) := by decide +kernel
theorem dX1_sumOf_30 : decode cX1_sumOf 30 = .ok (.invokevirtual 124, 3) := by decide +kernel
theorem dX1_sumOf_33 : decode cX1_sumOf 33 = .ok (.goto 4, 3) := by decide +kernel
theorem dX1_sumOf_36 : decode cX1_sumOf 36 = .ok (.lconst 0, 1) := by decide +kernel
theorem dX1_sumOf_37 : decode cX1_sumOf 37 = .ok (.ladd, 1) := by decide +kernel
theorem dX1_sumOf_38 : decode cX1_sumOf 38 = .ok (.lstore_n 3, 1) := by decide +kernel
theorem dX1_sumOf_39 : decode cX1_sumOf 39 = .ok (.iinc 5 1, 3) := by decide +kernel
theorem dX1_sumOf_42 : decode cX1_sumOf 42 = .ok (.goto (-37), 3) := by decide +kernel
theorem dX1_sumOf_45 : decode cX1_sumOf 45 = .ok (.lload_n 3, 1) := by decide +kernel
theorem dX1_sumOf_46 : decode cX1_sumOf 46 = .ok (.lreturn, 1) := by decide +kernel
theorem dX1_away_0 : decode cX1_away 0 = .ok (.aload_n 0, 1) := by decide +kernel
theorem dX1_away_1 : decode cX1_away 1 = .ok (.iload_n 1, 1) := by decide +kernel
theorem dX1_away_2 : decode cX1_away 2 = .ok (.invokevirtual 70, 3) := by decide +kernel
theorem dX1_away_5 : decode cX1_away 5 = .ok (.i2l, 1) := by decide +kernel
theorem dX1_away_6 : decode cX1_away 6 = .ok (.lstore_n 3, 1) := by decide +kernel
theorem dX1_away_7 : decode cX1_away 7 = .ok (.aload_n 0, 1) := by decide +kernel
theorem dX1_away_8 : decode cX1_away 8 = .ok (.iload_n 1, 1) := by decide +kernel
theorem dX1_away_9 : decode cX1_away 9 = .ok (.iload_n 2, 1) := by decide +kernel
theorem dX1_away_10 : decode cX1_away 10 = .ok (.invokevirtual 128, 3) := by decide +kernel
theorem dX1_away_13 : decode cX1_away 13 = .ok (.lstore 5, 2) := by decide +kernel
theorem dX1_away_15 : decode cX1_away 15 = .ok (.lconst 0, 1) := by decide +kernel
theorem dX1_away_16 : decode cX1_away 16 = .ok (.lstore 7, 2) := by decide +kernel
theorem dX1_away_18 : decode cX1_away 18 = .ok (.iconst 0, 1) := by decide +kernel
theorem dX1_away_19 : decode cX1_away 19 = .ok (.istore 9, 2) := by decide +kernel
theorem dX1_away_21 : decode cX1_away 21 = .ok (.iload 9, 2) := by decide +kernel
theorem dX1_away_23 : decode cX1_away 23 = .ok (.aload_n 0, 1) := by decide +kernel
theorem dX1_away_24 : decode cX1_away 24 = .ok (.getfield 16, 3) := by decide +kernel
theorem dX1_away_27 : decode cX1_away 27 = .ok (.if_icmp .ge 57, 3) := by decide +kernel
theorem dX1_away_30 : decode cX1_away 30 = .ok (.aload_n 0, 1) := by decide +kernel
theorem dX1_away_31 : decode cX1_away 31 = .ok (.getfield 39, 3) := by decide +kernel
theorem dX1_away_34 : decode cX1_away 34 = .ok (.iload 9, 2) := by decide +kernel
theorem dX1_away_36 : decode cX1_away 36 = .ok (.iaload, 1) := by decide +kernel
theorem dX1_away_37 : decode cX1_away 37 = .ok (.iload_n 1, 1) := by decide +kernel
theorem dX1_away_38 : decode cX1_away 38 = .ok (.if_icmp .eq 6, 3) := by decide +kernel
theorem dX1_away_41 : decode cX1_away 41 = .ok (.goto 37, 3) := by decide +kernel
theorem dX1_away_44 : decode cX1_away 44 = .ok (.lload_n 3, 1) := by decide +kernel
theorem dX1_away_45 : decode cX1_away 45 = .ok (.aload_n 0, 1) := by decide +kernel
theorem dX1_away_46 : decode cX1_away 46 = .ok (.iload 9, 2) := by decide +kernel
theorem dX1_away_48 : decode cX1_away 48 = .ok (.iload_n 2, 1) := by decide +kernel
theorem dX1_away_49 : decode cX1_away 49 = .ok (.invokevirtual 124, 3) := by decide +kernel
theorem dX1_away_52 : decode cX1_away 52 = .ok (.lmul, 1) := by decide +kernel
theorem dX1_away_53 : decode cX1_away 53 = .ok (.lload 5, 2) := by decide +kernel
theorem dX1_away_55 : decode cX1_away 55 = .ok (.lsub, 1) := by decide +kernel
theorem dX1_away_56 : decode cX1_away 56 = .ok (.lstore 10, 2) := by decide +kernel
theorem dX1_away_58 : decode cX1_away 58 = .ok (.lload 7, 2) := by decide +kernel
theorem dX1_away_60 : decode cX1_away 60 = .ok (.lload 10, 2) := by decide +kernel
theorem dX1_away_62 : decode cX1_away 62 = .ok (.lconst 0, 1) := by decide +kernel
theorem dX1_away_63 : decode cX1_away 63 = .ok (.lcmp, 1) := by decide +kernel
theorem dX1_away_64 : decode cX1_away 64 = .ok (.ifCond .ge 9, 3) := by decide +kernel
theorem dX1_away_67 : decode cX1_away 67 = .ok (.lload 10, 2) := by decide +kernel
theorem dX1_away_69 : decode cX1_away 69 = .ok (.lneg, 1) := by decide +kernel
theorem dX1_away_70 : decode cX1_away 70 = .ok (.goto 5, 3) := by decide +kernel
theorem dX1_away_73 : decode cX1_away 73 = .ok (.lload 10, 2) := by decide +kernel
theorem dX1_away_75 : decode cX1_away 75 = .ok (.ladd, 1) := by decide +kernel
theorem dX1_away_76 : decode cX1_away 76 = .ok (.lstore 7, 2) := by decide +kernel
theorem dX1_away_78 : decode cX1_away 78 = .ok (.iinc 9 1, 3) := by decide +kernel
theorem dX1_away_81 : decode cX1_away 81 = .ok (.goto (-60), 3) := by decide +kernel
theorem dX1_away_84 : decode cX1_away 84 = .ok (.lload 7, 2) := by decide +kernel
theorem dX1_away_86 : decode cX1_away 86 = .ok (.lreturn, 1) := by decide +kernel
theorem dX1_group_0 : decode cX1_group 0 = .ok (.aload_n 0, 1) := by decide +kernel
theorem dX1_group_1 : decode cX1_group 1 = .ok (.iload_n 1, 1) := by decide +kernel
theorem dX1_group_2 : decode cX1_group 2 = .ok (.invokevirtual 63, 3) := by decide +kernel
theorem dX1_group_5 : decode cX1_group 5 = .ok (.ifCond .eq 21, 3) := by decide +kernel
theorem dX1_group_8 : decode cX1_group 8 = .ok (.aload_n 0, 1) := by decide +kernel
theorem dX1_group_9 : decode cX1_group 9 = .ok (.iload_n 2, 1) := by decide +kernel
theorem dX1_group_10 : decode cX1_group 10 = .ok (.invokevirtual 63, 3) := by decide +kernel
theorem dX1_group_13 : decode cX1_group 13 = .ok (.ifCond .eq 13, 3) := by decide +kernel
theorem dX1_group_16 : decode cX1_group 16 = .ok (.aload_n 0, 1) := by decide +kernel
theorem dX1_group_17 : decode cX1_group 17 = .ok (.iload_n 3, 1) := by decide +kernel
theorem dX1_group_18 : decode cX1_group 18 = .ok (.iconst 0, 1) := by decide +kernel
theorem dX1_group_19 : decode cX1_group 19 = .ok (.iconst 2, 1) := by decide +kernel
theorem dX1_group_20 : decode cX1_group 20 = .ok (.invokevirtual 51, 3) := by decide +kernel
theorem dX1_group_23 : decode cX1_group 23 = .ok (.ifCond .ne 7, 3) := by decide +kernel
theorem dX1_group_26 : decode cX1_group 26 = .ok (.ldc2_w 104, 3) := by decide +kernel
theorem dX1_group_29 : decode cX1_group 29 = .ok (.lreturn, 1) := by decide +kernel
theorem dX1_group_30 : decode cX1_group 30 = .ok (.iload_n 3, 1) := by decide +kernel
theorem dX1_group_31 : decode cX1_group 31 = .ok (.ifCond .ne 12, 3) := by decide +kernel
theorem dX1_group_34 : decode cX1_group 34 = .ok (.aload_n 0, 1) := by decide +kernel
theorem dX1_group_35 : decode cX1_group 35 = .ok (.iload_n 1, 1) := by decide +kernel
theorem dX1_group_36 : decode cX1_group 36 = .ok (.invokevirtual 70, 3) := by decide +kernel
theorem dX1_group_39 : decode cX1_group 39 = .ok (.i2l, 1) := by decide +kernel
theorem dX1_group_40 : decode cX1_group 40 = .ok (.goto 23, 3) := by decide +kernel
theorem dX1_group_43 : decode cX1_group 43 = .ok (.iload_n 3, 1) := by decide +kernel
theorem dX1_group_44 : decode cX1_group 44 = .ok (.iconst 1, 1) := by decide +kernel
theorem dX1_group_45 : decode cX1_group 45 = .ok (.if_icmp .ne 12, 3) := by decide +kernel
theorem dX1_group_48 : decode cX1_group 48 = .ok (.aload_n 0, 1) := by decide +kernel
theorem dX1_group_49 : decode cX1_group 49 = .ok (.iload_n 1, 1) := by decide +kernel
theorem dX1_group_50 : decode cX1_group 50 = .ok (.iload_n 2, 1) := by decide +kernel
theorem dX1_group_51 : decode cX1_group 51 = .ok (.invokevirtual 128, 3) := by decide +kernel
theorem dX1_group_54 : decode cX1_group 54 = .ok (.goto 9, 3) := by decide +kernel
theorem dX1_group_57 : decode cX1_group 57 = .ok (.aload_n 0, 1) := by decide +kernel
theorem dX1_group_58 : decode cX1_group 58 = .ok (.iload_n 1, 1) := by decide +kernel
theorem dX1_group_59 : decode cX1_group 59 = .ok (.iload_n 2, 1) := by decide +kernel
theorem dX1_group_60 : decode cX1_group 60 = .ok (.invokevirtual 131, 3) := by decide +kernel
theorem dX1_group_63 : decode cX1_group 63 = .ok (.lreturn, 1) := by decide +kernel
theorem dX1_scale_0 : decode cX1_scale 0 = .ok (.aload_n 0, 1) := by decide +kernel
theorem dX1_scale_1 : decode cX1_scale 1 = .ok (.iload_n 1, 1) := by decide +kernel
theorem dX1_scale_2 : decode cX1_scale 2 = .ok (.invokevirtual 63, 3) := by decide +kernel
theorem dX1_scale_5 : decode cX1_scale 5 = .ok (.ifCond .eq 38, 3) := by decide +kernel
theorem dX1_scale_8 : decode cX1_scale 8 = .ok (.aload_n 0, 1) := by decide +kernel
theorem dX1_scale_9 : decode cX1_scale 9 = .ok (.iload_n 2, 1) := by decide +kernel
theorem dX1_scale_10 : decode cX1_scale 10 = .ok (.invokevirtual 63, 3) := by decide +kernel
theorem dX1_scale_13 : decode cX1_scale 13 = .ok (.ifCond .eq 30, 3) := by decide +kernel
theorem dX1_scale_16 : decode cX1_scale 16 = .ok (.iload_n 1, 1) := by decide +kernel
theorem dX1_scale_17 : decode cX1_scale 17 = .ok (.iload_n 2, 1) := by decide +kernel
theorem dX1_scale_18 : decode cX1_scale 18 = .ok (.if_icmp .eq 25, 3) := by decide +kernel
theorem dX1_scale_21 : decode cX1_scale 21 = .ok (.aload_n 0, 1) := by decide +kernel
theorem dX1_scale_22 : decode cX1_scale 22 = .ok (.iload_n 3, 1) := by decide +kernel
theorem dX1_scale_23 : decode cX1_scale 23 = .ok (.iconst 0, 1) := by decide +kernel
theorem dX1_scale_24 : decode cX1_scale 24 = .ok (.bipush 120, 2) := by decide +kernel
theorem dX1_scale_26 : decode cX1_scale 26 = .ok (.invokevirtual 51, 3) := by decide +kernel
theorem dX1_scale_29 : decode cX1_scale 29 = .ok (.ifCond .eq 14, 3) := by decide +kernel
theorem dX1_scale_32 : decode cX1_scale 32 = .ok (.aload_n 0, 1) := by decide +kernel
theorem dX1_scale_33 : decode cX1_scale 33 = .ok (.iload 4, 2) := by decide +kernel
theorem dX1_scale_35 : decode cX1_scale 35 = .ok (.iconst 0, 1) := by decide +kernel
theorem dX1_scale_36 : decode cX1_scale 36 = .ok (.iconst 1, 1) := by decide +kernel
theorem dX1_scale_37 : decode cX1_scale 37 = .ok (.invokevirtual 51, 3) := by decide +kernel
theorem dX1_scale_40 : decode cX1_scale 40 = .ok (.ifCond .ne 7, 3) := by decide +kernel
theorem dX1_scale_43 : decode cX1_scale 43 = .ok (.ldc2_w 104, 3) := by decide +kernel
theorem dX1_scale_46 : decode cX1_scale 46 = .ok (.lreturn, 1) := by decide +kernel
theorem dX1_scale_47 : decode cX1_scale 47 = .ok (.aload_n 0, 1) := by decide +kernel
theorem dX1_scale_48 : decode cX1_scale 48 = .ok (.iload_n 1, 1) := by decide +kernel
theorem dX1_scale_49 : decode cX1_scale 49 = .ok (.invokevirtual 70, 3) := by decide +kernel
theorem dX1_scale_52 : decode cX1_scale 52 = .ok (.i2l, 1) := by decide +kernel
theorem dX1_scale_53 : decode cX1_scale 53 = .ok (.lstore 5, 2) := by decide +kernel
theorem dX1_scale_55 : decode cX1_scale 55 = .ok (.aload_n 0, 1) := by decide +kernel
theorem dX1_scale_56 : decode cX1_scale 56 = .ok (.iload_n 2, 1) := by decide +kernel
theorem dX1_scale_57 : decode cX1_scale 57 = .ok (.invokevirtual 70, 3) := by decide +kernel
theorem dX1_scale_60 : decode cX1_scale 60 = .ok (.i2l, 1) := by decide +kernel
theorem dX1_scale_61 : decode cX1_scale 61 = .ok (.lstore 7, 2) := by decide +kernel
theorem dX1_scale_63 : decode cX1_scale 63 = .ok (.aload_n 0, 1) := by decide +kernel
theorem dX1_scale_64 : decode cX1_scale 64 = .ok (.iload_n 1, 1) := by decide +kernel
theorem dX1_scale_65 : decode cX1_scale 65 = .ok (.iload_n 1, 1) := by decide +kernel
theorem dX1_scale_66 : decode cX1_scale 66 = .ok (.invokevirtual 131, 3) := by decide +kernel
theorem dX1_scale_69 : decode cX1_scale 69 = .ok (.lstore 9, 2) := by decide +kernel
theorem dX1_scale_71 : decode cX1_scale 71 = .ok (.aload_n 0, 1) := by decide +kernel
theorem dX1_scale_72 : decode cX1_scale 72 = .ok (.iload_n 2, 1) := by decide +kernel
theorem dX1_scale_73 : decode cX1_scale 73 = .ok (.iload_n 1, 1) := by decide +kernel
theorem dX1_scale_74 : decode cX1_scale 74 = .ok (.invokevirtual 131, 3) := by decide +kernel
theorem dX1_scale_77 : decode cX1_scale 77 = .ok (.lstore 11, 2) := by decide +kernel
theorem dX1_scale_79 : decode cX1_scale 79 = .ok (.lload 5, 2) := by decide +kernel
theorem dX1_scale_81 : decode cX1_scale 81 = .ok (.lconst 0, 1) := by decide +kernel
theorem dX1_scale_82 : decode cX1_scale 82 = .ok (.lcmp, 1) := by decide +kernel
theorem dX1_scale_83 : decode cX1_scale 83 = .ok (.ifCond .eq 33, 3) := by decide +kernel
theorem dX1_scale_86 : decode cX1_scale 86 = .ok (.lload 7, 2) := by decide +kernel
theorem dX1_scale_88 : decode cX1_scale 88 = .ok (.lconst 0, 1) := by decide +kernel
theorem dX1_scale_89 : decode cX1_scale 89 = .ok (.lcmp, 1) := by decide +kernel
theorem dX1_scale_90 : decode cX1_scale 90 = .ok (.ifCond .eq 26, 3) := by decide +kernel
theorem dX1_scale_93 : decode cX1_scale 93 = .ok (.aload_n 0, 1) := by decide +kernel
theorem dX1_scale_94 : decode cX1_scale 94 = .ok (.iload_n 1, 1) := by decide +kernel
theorem dX1_scale_95 : decode cX1_scale 95 = .ok (.iload_n 2, 1) := by decide +kernel
theorem dX1_scale_96 : decode cX1_scale 96 = .ok (.invokevirtual 118, 3) := by decide +kernel
theorem dX1_scale_99 : decode cX1_scale 99 = .ok (.ifCond .eq 17, 3) := by decide +kernel
theorem dX1_scale_102 : decode cX1_scale 102 = .ok (.lload 9, 2) := by decide +kernel
theorem dX1_scale_104 : decode cX1_scale 104 = .ok (.lconst 0, 1) := by decide +kernel
theorem dX1_scale_105 : decode cX1_scale 105 = .ok (.lcmp, 1) := by decide +kernel
theorem dX1_scale_106 : decode cX1_scale 106 = .ok (.ifCond .eq 10, 3) := by decide +kernel
theorem dX1_scale_109 : decode cX1_scale 109 = .ok (.lload 11, 2) := by decide +kernel
theorem dX1_scale_111 : decode cX1_scale 111 = .ok (.lconst 0, 1) := by decide +kernel
theorem dX1_scale_112 : decode cX1_scale 112 = .ok (.lcmp, 1) := by decide +kernel
theorem dX1_scale_113 : decode cX1_scale 113 = .ok (.ifCond .ne 7, 3) := by decide +kernel
theorem dX1_scale_116 : decode cX1_scale 116 = .ok (.ldc2_w 104, 3) := by decide +kernel
theorem dX1_scale_119 : decode cX1_scale 119 = .ok (.lreturn, 1) := by decide +kernel
theorem dX1_scale_120 : decode cX1_scale 120 = .ok (.aload_n 0, 1) := by decide +kernel
theorem dX1_scale_121 : decode cX1_scale 121 = .ok (.iload_n 1, 1) := by decide +kernel
theorem dX1_scale_122 : decode cX1_scale 122 = .ok (.iload_n 2, 1) := by decide +kernel
theorem dX1_scale_123 : decode cX1_scale 123 = .ok (.invokevirtual 128, 3) := by decide +kernel
theorem dX1_scale_126 : decode cX1_scale 126 = .ok (.lload 9, 2) := by decide +kernel
theorem dX1_scale_128 : decode cX1_scale 128 = .ok (.lmul, 1) := by decide +kernel
theorem dX1_scale_129 : decode cX1_scale 129 = .ok (.iload_n 3, 1) := by decide +kernel
theorem dX1_scale_130 : decode cX1_scale 130 = .ok (.i2l, 1) := by decide +kernel
theorem dX1_scale_131 : decode cX1_scale 131 = .ok (.lload 5, 2) := by decide +kernel
theorem dX1_scale_133 : decode cX1_scale 133 = .ok (.lmul, 1) := by decide +kernel
theorem dX1_scale_134 : decode cX1_scale 134 = .ok (.aload_n 0, 1) := by decide +kernel
theorem dX1_scale_135 : decode cX1_scale 135 = .ok (.iload_n 1, 1) := by decide +kernel
theorem dX1_scale_136 : decode cX1_scale 136 = .ok (.iload_n 1, 1) := by decide +kernel
theorem dX1_scale_137 : decode cX1_scale 137 = .ok (.invokevirtual 128, 3) := by decide +kernel
theorem dX1_scale_140 : decode cX1_scale 140 = .ok (.lsub, 1) := by decide +kernel
theorem dX1_scale_141 : decode cX1_scale 141 = .ok (.aload_n 0, 1) := by decide +kernel
theorem dX1_scale_142 : decode cX1_scale 142 = .ok (.iload_n 1, 1) := by decide +kernel
theorem dX1_scale_143 : decode cX1_scale 143 = .ok (.iload_n 2, 1) := by decide +kernel
theorem dX1_scale_144 : decode cX1_scale 144 = .ok (.invokevirtual 131, 3) := by decide +kernel
theorem dX1_scale_147 : decode cX1_scale 147 = .ok (.lmul, 1) := by decide +kernel
theorem dX1_scale_148 : decode cX1_scale 148 = .ok (.ladd, 1) := by decide +kernel
theorem dX1_scale_149 : decode cX1_scale 149 = .ok (.lstore 13, 2) := by decide +kernel
theorem dX1_scale_151 : decode cX1_scale 151 = .ok (.aload_n 0, 1) := by decide +kernel
theorem dX1_scale_152 : decode cX1_scale 152 = .ok (.iload_n 2, 1) := by decide +kernel
theorem dX1_scale_153 : decode cX1_scale 153 = .ok (.iload_n 2, 1) := by decide +kernel
theorem dX1_scale_154 : decode cX1_scale 154 = .ok (.invokevirtual 128, 3) := by decide +kernel
theorem dX1_scale_157 : decode cX1_scale 157 = .ok (.lload 11, 2) := by decide +kernel
theorem dX1_scale_159 : decode cX1_scale 159 = .ok (.lmul, 1) := by decide +kernel
theorem dX1_scale_160 : decode cX1_scale 160 = .ok (.lload 5, 2) := by decide +kernel
theorem dX1_scale_162 : decode cX1_scale 162 = .ok (.lmul, 1) := by decide +kernel
theorem dX1_scale_163 : decode cX1_scale 163 = .ok (.lload 9, 2) := by decide +kernel
theorem dX1_scale_165 : decode cX1_scale 165 = .ok (.lmul, 1) := by decide +kernel
theorem dX1_scale_166 : decode cX1_scale 166 = .ok (.lload 13, 2) := by decide +kernel
theorem dX1_scale_168 : decode cX1_scale 168 = .ok (.lload 7, 2) := by decide +kernel
theorem dX1_scale_170 : decode cX1_scale 170 = .ok (.lmul, 1) := by decide +kernel
theorem dX1_scale_171 : decode cX1_scale 171 = .ok (.aload_n 0, 1) := by decide +kernel
theorem dX1_scale_172 : decode cX1_scale 172 = .ok (.iload_n 2, 1) := by decide +kernel
theorem dX1_scale_173 : decode cX1_scale 173 = .ok (.iload_n 1, 1) := by decide +kernel
theorem dX1_scale_174 : decode cX1_scale 174 = .ok (.invokevirtual 128, 3) := by decide +kernel
theorem dX1_scale_177 : decode cX1_scale 177 = .ok (.lload 5, 2) := by decide +kernel
theorem dX1_scale_179 : decode cX1_scale 179 = .ok (.lmul, 1) := by decide +kernel
theorem dX1_scale_180 : decode cX1_scale 180 = .ok (.lload 9, 2) := by decide +kernel
theorem dX1_scale_182 : decode cX1_scale 182 = .ok (.lmul, 1) := by decide +kernel
theorem dX1_scale_183 : decode cX1_scale 183 = .ok (.lsub, 1) := by decide +kernel
theorem dX1_scale_184 : decode cX1_scale 184 = .ok (.aload_n 0, 1) := by decide +kernel
theorem dX1_scale_185 : decode cX1_scale 185 = .ok (.iload_n 2, 1) := by decide +kernel
theorem dX1_scale_186 : decode cX1_scale 186 = .ok (.iload_n 2, 1) := by decide +kernel
theorem dX1_scale_187 : decode cX1_scale 187 = .ok (.invokevirtual 131, 3) := by decide +kernel
theorem dX1_scale_190 : decode cX1_scale 190 = .ok (.lmul, 1) := by decide +kernel
theorem dX1_scale_191 : decode cX1_scale 191 = .ok (.ladd, 1) := by decide +kernel
theorem dX1_scale_192 : decode cX1_scale 192 = .ok (.lstore 15, 2) := by decide +kernel
theorem dX1_scale_194 : decode cX1_scale 194 = .ok (.aload_n 0, 1) := by decide +kernel
theorem dX1_scale_195 : decode cX1_scale 195 = .ok (.lload 15, 2) := by decide +kernel
theorem dX1_scale_197 : decode cX1_scale 197 = .ok (.lload 7, 2) := by decide +kernel
theorem dX1_scale_199 : decode cX1_scale 199 = .ok (.lload 5, 2) := by decide +kernel
theorem dX1_scale_201 : decode cX1_scale 201 = .ok (.lmul, 1) := by decide +kernel
theorem dX1_scale_202 : decode cX1_scale 202 = .ok (.lload 9, 2) := by decide +kernel
theorem dX1_scale_204 : decode cX1_scale 204 = .ok (.lmul, 1) := by decide +kernel
theorem dX1_scale_205 : decode cX1_scale 205 = .ok (.lload 11, 2) := by decide +kernel
theorem dX1_scale_207 : decode cX1_scale 207 = .ok (.lmul, 1) := by decide +kernel
theorem dX1_scale_208 : decode cX1_scale 208 = .ok (.iload 4, 2) := by decide +kernel
theorem dX1_scale_210 : decode cX1_scale 210 = .ok (.invokevirtual 106, 3) := by decide +kernel
theorem dX1_scale_213 : decode cX1_scale 213 = .ok (.lreturn, 1) := by decide +kernel
theorem dX1_rankOf_0 : decode cX1_rankOf 0 = .ok (.lconst 0, 1) := by decide +kernel
theorem dX1_rankOf_1 : decode cX1_rankOf 1 = .ok (.lstore_n 3, 1) := by decide +kernel
theorem dX1_rankOf_2 : decode cX1_rankOf 2 = .ok (.iconst 0, 1) := by decide +kernel
theorem dX1_rankOf_3 : decode cX1_rankOf 3 = .ok (.istore 5, 2) := by decide +kernel
theorem dX1_rankOf_5 : decode cX1_rankOf 5 = .ok (.iload 5, 2) := by decide +kernel
theorem dX1_rankOf_7 : decode cX1_rankOf 7 = .ok (.aload_n 0, 1) := by decide +kernel
theorem dX1_rankOf_8 : decode cX1_rankOf 8 = .ok (.getfield 16, 3) := by decide +kernel
theorem dX1_rankOf_11 : decode cX1_rankOf 11 = .ok (.if_icmp .ge 57, 3) := by decide +kernel
theorem dX1_rankOf_14 : decode cX1_rankOf 14 = .ok (.aload_n 0, 1) := by decide +kernel
theorem dX1_rankOf_15 : decode cX1_rankOf 15 = .ok (.getfield 39, 3) := by decide +kernel
theorem dX1_rankOf_18 : decode cX1_rankOf 18 = .ok (.iload 5, 2) := by decide +kernel
theorem dX1_rankOf_20 : decode cX1_rankOf 20 = .ok (.iaload, 1) := by decide +kernel
theorem dX1_rankOf_21 : decode cX1_rankOf 21 = .ok (.iload_n 1, 1) := by decide +kernel
theorem dX1_rankOf_22 : decode cX1_rankOf 22 = .ok (.if_icmp .eq 6, 3) := by decide +kernel
theorem dX1_rankOf_25 : decode cX1_rankOf 25 = .ok (.goto 37, 3) := by decide +kernel
theorem dX1_rankOf_28 : decode cX1_rankOf 28 = .ok (.aload_n 0, 1) := by decide +kernel
theorem dX1_rankOf_29 : decode cX1_rankOf 29 = .ok (.iload 5, 2) := by decide +kernel
theorem dX1_rankOf_31 : decode cX1_rankOf 31 = .ok (.invokevirtual 97, 3) := by decide +kernel
theorem dX1_rankOf_34 : decode cX1_rankOf 34 = .ok (.istore 6, 2) := by decide +kernel
theorem dX1_rankOf_36 : decode cX1_rankOf 36 = .ok (.lload_n 3, 1) := by decide +kernel
theorem dX1_rankOf_37 : decode cX1_rankOf 37 = .ok (.iload 6, 2) := by decide +kernel
theorem dX1_rankOf_39 : decode cX1_rankOf 39 = .ok (.iload_n 2, 1) := by decide +kernel
theorem dX1_rankOf_40 : decode cX1_rankOf 40 = .ok (.if_icmp .ge 9, 3) := by decide +kernel
theorem dX1_rankOf_43 : decode cX1_rankOf 43 = .ok (.ldc2_w 134, 3) := by decide +kernel
theorem dX1_rankOf_46 : decode cX1_rankOf 46 = .ok (.goto 14, 3) := by decide +kernel
theorem dX1_rankOf_49 : decode cX1_rankOf 49 = .ok (.iload 6, 2) := by decide +kernel
theorem dX1_rankOf_51 : decode cX1_rankOf 51 = .ok (.iload_n 2, 1) := by decide +kernel
theorem dX1_rankOf_52 : decode cX1_rankOf 52 = .ok (.if_icmp .ne 7, 3) := by decide +kernel
theorem dX1_rankOf_55 : decode cX1_rankOf 55 = .ok (.lconst 1, 1) := by decide +kernel
theorem dX1_rankOf_56 : decode cX1_rankOf 56 = .ok (.goto 4, 3) := by decide +kernel
theorem dX1_rankOf_59 : decode cX1_rankOf 59 = .ok (.lconst 0, 1) := by decide +kernel
theorem dX1_rankOf_60 : decode cX1_rankOf 60 = .ok (.ladd, 1) := by decide +kernel
theorem dX1_rankOf_61 : decode cX1_rankOf 61 = .ok (.lstore_n 3, 1) := by decide +kernel
theorem dX1_rankOf_62 : decode cX1_rankOf 62 = .ok (.iinc 5 1, 3) := by decide +kernel
theorem dX1_rankOf_65 : decode cX1_rankOf 65 = .ok (.goto (-60), 3) := by decide +kernel
theorem dX1_rankOf_68 : decode cX1_rankOf 68 = .ok (.lload_n 3, 1) := by decide +kernel
theorem dX1_rankOf_69 : decode cX1_rankOf 69 = .ok (.lreturn, 1) := by decide +kernel
theorem dX1_rank_0 : decode cX1_rank 0 = .ok (.aload_n 0, 1) := by decide +kernel
theorem dX1_rank_1 : decode cX1_rank 1 = .ok (.iload_n 1, 1) := by decide +kernel
theorem dX1_rank_2 : decode cX1_rank 2 = .ok (.invokevirtual 63, 3) := by decide +kernel
theorem dX1_rank_5 : decode cX1_rank 5 = .ok (.ifCond .eq 11, 3) := by decide +kernel
theorem dX1_rank_8 : decode cX1_rank 8 = .ok (.aload_n 0, 1) := by decide +kernel
theorem dX1_rank_9 : decode cX1_rank 9 = .ok (.iload_n 1, 1) := by decide +kernel
theorem dX1_rank_10 : decode cX1_rank 10 = .ok (.invokevirtual 70, 3) := by decide +kernel
theorem dX1_rank_13 : decode cX1_rank 13 = .ok (.ifCond .ne 7, 3) := by decide +kernel
theorem dX1_rank_16 : decode cX1_rank 16 = .ok (.iconst (-1), 1) := by decide +kernel
theorem dX1_rank_17 : decode cX1_rank 17 = .ok (.goto 10, 3) := by decide +kernel
theorem dX1_rank_20 : decode cX1_rank 20 = .ok (.aload_n 0, 1) := by decide +kernel
theorem dX1_rank_21 : decode cX1_rank 21 = .ok (.iload_n 1, 1) := by decide +kernel
theorem dX1_rank_22 : decode cX1_rank 22 = .ok (.iload_n 2, 1) := by decide +kernel
theorem dX1_rank_23 : decode cX1_rank 23 = .ok (.invokevirtual 136, 3) := by decide +kernel
theorem dX1_rank_26 : decode cX1_rank 26 = .ok (.l2i, 1) := by decide +kernel
theorem dX1_rank_27 : decode cX1_rank 27 = .ok (.ireturn, 1) := by decide +kernel
theorem dX1_like_0 : decode cX1_like 0 = .ok (.aload_n 0, 1) := by decide +kernel
theorem dX1_like_1 : decode cX1_like 1 = .ok (.iload_n 1, 1) := by decide +kernel
theorem dX1_like_2 : decode cX1_like 2 = .ok (.invokevirtual 63, 3) := by decide +kernel
theorem dX1_like_5 : decode cX1_like 5 = .ok (.ifCond .eq 22, 3) := by decide +kernel
theorem dX1_like_8 : decode cX1_like 8 = .ok (.aload_n 0, 1) := by decide +kernel
theorem dX1_like_9 : decode cX1_like 9 = .ok (.iload_n 2, 1) := by decide +kernel
theorem dX1_like_10 : decode cX1_like 10 = .ok (.invokevirtual 63, 3) := by decide +kernel
theorem dX1_like_13 : decode cX1_like 13 = .ok (.ifCond .eq 14, 3) := by decide +kernel
theorem dX1_like_16 : decode cX1_like 16 = .ok (.aload_n 0, 1) := by decide +kernel
theorem dX1_like_17 : decode cX1_like 17 = .ok (.iload_n 3, 1) := by decide +kernel
theorem dX1_like_18 : decode cX1_like 18 = .ok (.iconst 0, 1) := by decide +kernel
theorem dX1_like_19 : decode cX1_like 19 = .ok (.bipush 120, 2) := by decide +kernel
theorem dX1_like_21 : decode cX1_like 21 = .ok (.invokevirtual 51, 3) := by decide +kernel
theorem dX1_like_24 : decode cX1_like 24 = .ok (.ifCond .ne 5, 3) := by decide +kernel
theorem dX1_like_27 : decode cX1_like 27 = .ok (.iconst (-1), 1) := by decide +kernel
theorem dX1_like_28 : decode cX1_like 28 = .ok (.ireturn, 1) := by decide +kernel
theorem dX1_like_29 : decode cX1_like 29 = .ok (.aload_n 0, 1) := by decide +kernel
theorem dX1_like_30 : decode cX1_like 30 = .ok (.iload_n 1, 1) := by decide +kernel
theorem dX1_like_31 : decode cX1_like 31 = .ok (.invokevirtual 70, 3) := by decide +kernel
theorem dX1_like_34 : decode cX1_like 34 = .ok (.i2l, 1) := by decide +kernel
theorem dX1_like_35 : decode cX1_like 35 = .ok (.lstore 4, 2) := by decide +kernel
theorem dX1_like_37 : decode cX1_like 37 = .ok (.aload_n 0, 1) := by decide +kernel
theorem dX1_like_38 : decode cX1_like 38 = .ok (.iload_n 2, 1) := by decide +kernel
theorem dX1_like_39 : decode cX1_like 39 = .ok (.invokevirtual 70, 3) := by decide +kernel
theorem dX1_like_42 : decode cX1_like 42 = .ok (.i2l, 1) := by decide +kernel
theorem dX1_like_43 : decode cX1_like 43 = .ok (.lstore 6, 2) := by decide +kernel
theorem dX1_like_45 : decode cX1_like 45 = .ok (.lload 4, 2) := by decide +kernel
theorem dX1_like_47 : decode cX1_like 47 = .ok (.lconst 0, 1) := by decide +kernel
theorem dX1_like_48 : decode cX1_like 48 = .ok (.lcmp, 1) := by decide +kernel
theorem dX1_like_49 : decode cX1_like 49 = .ok (.ifCond .eq 10, 3) := by decide +kernel
theorem dX1_like_52 : decode cX1_like 52 = .ok (.lload 6, 2) := by decide +kernel
theorem dX1_like_54 : decode cX1_like 54 = .ok (.lconst 0, 1) := by decide +kernel
theorem dX1_like_55 : decode cX1_like 55 = .ok (.lcmp, 1) := by decide +kernel
theorem dX1_like_56 : decode cX1_like 56 = .ok (.ifCond .ne 5, 3) := by decide +kernel
theorem dX1_like_59 : decode cX1_like 59 = .ok (.iconst (-1), 1) := by decide +kernel
theorem dX1_like_60 : decode cX1_like 60 = .ok (.ireturn, 1) := by decide +kernel
theorem dX1_like_61 : decode cX1_like 61 = .ok (.iconst (-1), 1) := by decide +kernel
theorem dX1_like_62 : decode cX1_like 62 = .ok (.istore 8, 2) := by decide +kernel
theorem dX1_like_64 : decode cX1_like 64 = .ok (.iconst (-1), 1) := by decide +kernel
theorem dX1_like_65 : decode cX1_like 65 = .ok (.istore 9, 2) := by decide +kernel
theorem dX1_like_67 : decode cX1_like 67 = .ok (.aload_n 0, 1) := by decide +kernel
theorem dX1_like_68 : decode cX1_like 68 = .ok (.iload_n 1, 1) := by decide +kernel
theorem dX1_like_69 : decode cX1_like 69 = .ok (.iload_n 3, 1) := by decide +kernel
theorem dX1_like_70 : decode cX1_like 70 = .ok (.invokevirtual 136, 3) := by decide +kernel
theorem dX1_like_73 : decode cX1_like 73 = .ok (.lload 6, 2) := by decide +kernel
theorem dX1_like_75 : decode cX1_like 75 = .ok (.lmul, 1) := by decide +kernel
theorem dX1_like_76 : decode cX1_like 76 = .ok (.lstore 10, 2) := by decide +kernel
theorem dX1_like_78 : decode cX1_like 78 = .ok (.iconst 0, 1) := by decide +kernel
theorem dX1_like_79 : decode cX1_like 79 = .ok (.istore 12, 2) := by decide +kernel
theorem dX1_like_81 : decode cX1_like 81 = .ok (.iload 12, 2) := by decide +kernel
theorem dX1_like_83 : decode cX1_like 83 = .ok (.aload_n 0, 1) := by decide +kernel
theorem dX1_like_84 : decode cX1_like 84 = .ok (.getfield 16, 3) := by decide +kernel
theorem dX1_like_87 : decode cX1_like 87 = .ok (.if_icmp .ge 79, 3) := by decide +kernel
theorem dX1_like_90 : decode cX1_like 90 = .ok (.aload_n 0, 1) := by decide +kernel
theorem dX1_like_91 : decode cX1_like 91 = .ok (.getfield 39, 3) := by decide +kernel
theorem dX1_like_94 : decode cX1_like 94 = .ok (.iload 12, 2) := by decide +kernel
theorem dX1_like_96 : decode cX1_like 96 = .ok (.iaload, 1) := by decide +kernel
theorem dX1_like_97 : decode cX1_like 97 = .ok (.iload_n 2, 1) := by decide +kernel
theorem dX1_like_98 : decode cX1_like 98 = .ok (.if_icmp .eq 6, 3) := by decide +kernel
theorem dX1_like_101 : decode cX1_like 101 = .ok (.goto 59, 3) := by decide +kernel
theorem dX1_like_104 : decode cX1_like 104 = .ok (.aload_n 0, 1) := by decide +kernel
theorem dX1_like_105 : decode cX1_like 105 = .ok (.iload 12, 2) := by decide +kernel
theorem dX1_like_107 : decode cX1_like 107 = .ok (.invokevirtual 97, 3) := by decide +kernel
theorem dX1_like_110 : decode cX1_like 110 = .ok (.istore 13, 2) := by decide +kernel
theorem dX1_like_112 : decode cX1_like 112 = .ok (.iload 13, 2) := by decide +kernel
theorem dX1_like_114 : decode cX1_like 114 = .ok (.iload 9, 2) := by decide +kernel
theorem dX1_like_116 : decode cX1_like 116 = .ok (.if_icmp .le 8, 3) := by decide +kernel
theorem dX1_like_119 : decode cX1_like 119 = .ok (.iload 13, 2) := by decide +kernel
theorem dX1_like_121 : decode cX1_like 121 = .ok (.goto 5, 3) := by decide +kernel
theorem dX1_like_124 : decode cX1_like 124 = .ok (.iload 9, 2) := by decide +kernel
theorem dX1_like_126 : decode cX1_like 126 = .ok (.istore 9, 2) := by decide +kernel
theorem dX1_like_128 : decode cX1_like 128 = .ok (.aload_n 0, 1) := by decide +kernel
theorem dX1_like_129 : decode cX1_like 129 = .ok (.iload_n 2, 1) := by decide +kernel
theorem dX1_like_130 : decode cX1_like 130 = .ok (.iload 13, 2) := by decide +kernel
theorem dX1_like_132 : decode cX1_like 132 = .ok (.invokevirtual 136, 3) := by decide +kernel
theorem dX1_like_135 : decode cX1_like 135 = .ok (.lload 4, 2) := by decide +kernel
theorem dX1_like_137 : decode cX1_like 137 = .ok (.lmul, 1) := by decide +kernel
theorem dX1_like_138 : decode cX1_like 138 = .ok (.lload 10, 2) := by decide +kernel
theorem dX1_like_140 : decode cX1_like 140 = .ok (.lcmp, 1) := by decide +kernel
theorem dX1_like_141 : decode cX1_like 141 = .ok (.ifCond .lt 19, 3) := by decide +kernel
theorem dX1_like_144 : decode cX1_like 144 = .ok (.iload 8, 2) := by decide +kernel
theorem dX1_like_146 : decode cX1_like 146 = .ok (.ifCond .lt 10, 3) := by decide +kernel
theorem dX1_like_149 : decode cX1_like 149 = .ok (.iload 13, 2) := by decide +kernel
theorem dX1_like_151 : decode cX1_like 151 = .ok (.iload 8, 2) := by decide +kernel
theorem dX1_like_153 : decode cX1_like 153 = .ok (.if_icmp .ge 7, 3) := by decide +kernel
theorem dX1_like_156 : decode cX1_like 156 = .ok (.iload 13, 2) := by decide +kernel
theorem dX1_like_158 : decode cX1_like 158 = .ok (.istore 8, 2) := by decide +kernel
theorem dX1_like_160 : decode cX1_like 160 = .ok (.iinc 12 1, 3) := by decide +kernel
theorem dX1_like_163 : decode cX1_like 163 = .ok (.goto (-82), 3) := by decide +kernel
theorem dX1_like_166 : decode cX1_like 166 = .ok (.iload 8, 2) := by decide +kernel
theorem dX1_like_168 : decode cX1_like 168 = .ok (.ifCond .ge 8, 3) := by decide +kernel
theorem dX1_like_171 : decode cX1_like 171 = .ok (.iload 9, 2) := by decide +kernel
theorem dX1_like_173 : decode cX1_like 173 = .ok (.goto 5, 3) := by decide +kernel
theorem dX1_like_176 : decode cX1_like 176 = .ok (.iload 8, 2) := by decide +kernel
theorem dX1_like_178 : decode cX1_like 178 = .ok (.ireturn, 1) := by decide +kernel
theorem dX1_judge_0 : decode cX1_judge 0 = .ok (.aload_n 0, 1) := by decide +kernel
theorem dX1_judge_1 : decode cX1_judge 1 = .ok (.iload_n 1, 1) := by decide +kernel
theorem dX1_judge_2 : decode cX1_judge 2 = .ok (.iconst 0, 1) := by decide +kernel
theorem dX1_judge_3 : decode cX1_judge 3 = .ok (.bipush 7, 2) := by decide +kernel
theorem dX1_judge_5 : decode cX1_judge 5 = .ok (.invokevirtual 51, 3) := by decide +kernel
theorem dX1_judge_8 : decode cX1_judge 8 = .ok (.ifCond .eq 19, 3) := by decide +kernel
theorem dX1_judge_11 : decode cX1_judge 11 = .ok (.aload_n 0, 1) := by decide +kernel
theorem dX1_judge_12 : decode cX1_judge 12 = .ok (.iload_n 2, 1) := by decide +kernel
theorem dX1_judge_13 : decode cX1_judge 13 = .ok (.invokevirtual 63, 3) := by decide +kernel
theorem dX1_judge_16 : decode cX1_judge 16 = .ok (.ifCond .eq 11, 3) := by decide +kernel
theorem dX1_judge_19 : decode cX1_judge 19 = .ok (.aload_n 0, 1) := by decide +kernel
theorem dX1_judge_20 : decode cX1_judge 20 = .ok (.iload_n 3, 1) := by decide +kernel
theorem dX1_judge_21 : decode cX1_judge 21 = .ok (.invokevirtual 59, 3) := by decide +kernel
theorem dX1_judge_24 : decode cX1_judge 24 = .ok (.ifCond .ne 5, 3) := by decide +kernel
theorem dX1_judge_27 : decode cX1_judge 27 = .ok (.iconst (-1), 1) := by decide +kernel
theorem dX1_judge_28 : decode cX1_judge 28 = .ok (.ireturn, 1) := by decide +kernel
theorem dX1_judge_29 : decode cX1_judge 29 = .ok (.aload_n 0, 1) := by decide +kernel
theorem dX1_judge_30 : decode cX1_judge 30 = .ok (.iload_n 2, 1) := by decide +kernel
theorem dX1_judge_31 : decode cX1_judge 31 = .ok (.iload_n 3, 1) := by decide +kernel
theorem dX1_judge_32 : decode cX1_judge 32 = .ok (.invokevirtual 66, 3) := by decide +kernel
theorem dX1_judge_35 : decode cX1_judge 35 = .ok (.istore 5, 2) := by decide +kernel
theorem dX1_judge_37 : decode cX1_judge 37 = .ok (.iload 5, 2) := by decide +kernel
theorem dX1_judge_39 : decode cX1_judge 39 = .ok (.ifCond .ge 5, 3) := by decide +kernel
theorem dX1_judge_42 : decode cX1_judge 42 = .ok (.iconst (-1), 1) := by decide +kernel
theorem dX1_judge_43 : decode cX1_judge 43 = .ok (.ireturn, 1) := by decide +kernel
theorem dX1_judge_44 : decode cX1_judge 44 = .ok (.aload_n 0, 1) := by decide +kernel
theorem dX1_judge_45 : decode cX1_judge 45 = .ok (.iload 4, 2) := by decide +kernel
theorem dX1_judge_47 : decode cX1_judge 47 = .ok (.iconst (-1), 1) := by decide +kernel
theorem dX1_judge_48 : decode cX1_judge 48 = .ok (.aload_n 0, 1) := by decide +kernel
theorem dX1_judge_49 : decode cX1_judge 49 = .ok (.getfield 23, 3) := by decide +kernel
theorem dX1_judge_52 : decode cX1_judge 52 = .ok (.iload_n 3, 1) := by decide +kernel
theorem dX1_judge_53 : decode cX1_judge 53 = .ok (.iaload, 1) := by decide +kernel
theorem dX1_judge_54 : decode cX1_judge 54 = .ok (.invokevirtual 51, 3) := by decide +kernel
theorem dX1_judge_57 : decode cX1_judge 57 = .ok (.ifCond .ne 6, 3) := by decide +kernel
theorem dX1_judge_60 : decode cX1_judge 60 = .ok (.bipush (-2), 2) := by decide +kernel
theorem dX1_judge_62 : decode cX1_judge 62 = .ok (.ireturn, 1) := by decide +kernel
theorem dX1_judge_63 : decode cX1_judge 63 = .ok (.aload_n 0, 1) := by decide +kernel
theorem dX1_judge_64 : decode cX1_judge 64 = .ok (.getfield 48, 3) := by decide +kernel
theorem dX1_judge_67 : decode cX1_judge 67 = .ok (.bipush 96, 2) := by decide +kernel
theorem dX1_judge_69 : decode cX1_judge 69 = .ok (.iload_n 1, 1) := by decide +kernel
theorem dX1_judge_70 : decode cX1_judge 70 = .ok (.imul, 1) := by decide +kernel
theorem dX1_judge_71 : decode cX1_judge 71 = .ok (.bipush 12, 2) := by decide +kernel
theorem dX1_judge_73 : decode cX1_judge 73 = .ok (.iload_n 2, 1) := by decide +kernel
theorem dX1_judge_74 : decode cX1_judge 74 = .ok (.imul, 1) := by decide +kernel
theorem dX1_judge_75 : decode cX1_judge 75 = .ok (.iadd, 1) := by decide +kernel
theorem dX1_judge_76 : decode cX1_judge 76 = .ok (.iload 5, 2) := by decide +kernel
theorem dX1_judge_78 : decode cX1_judge 78 = .ok (.iadd, 1) := by decide +kernel
theorem dX1_judge_79 : decode cX1_judge 79 = .ok (.iaload, 1) := by decide +kernel
theorem dX1_judge_80 : decode cX1_judge 80 = .ok (.istore 6, 2) := by decide +kernel
theorem dX1_judge_82 : decode cX1_judge 82 = .ok (.aload_n 0, 1) := by decide +kernel
theorem dX1_judge_83 : decode cX1_judge 83 = .ok (.getfield 48, 3) := by decide +kernel
theorem dX1_judge_86 : decode cX1_judge 86 = .ok (.bipush 96, 2) := by decide +kernel
theorem dX1_judge_88 : decode cX1_judge 88 = .ok (.iload_n 1, 1) := by decide +kernel
theorem dX1_judge_89 : decode cX1_judge 89 = .ok (.imul, 1) := by decide +kernel
theorem dX1_judge_90 : decode cX1_judge 90 = .ok (.bipush 12, 2) := by decide +kernel
theorem dX1_judge_92 : decode cX1_judge 92 = .ok (.iload_n 2, 1) := by decide +kernel
theorem dX1_judge_93 : decode cX1_judge 93 = .ok (.imul, 1) := by decide +kernel
theorem dX1_judge_94 : decode cX1_judge 94 = .ok (.iadd, 1) := by decide +kernel
theorem dX1_judge_95 : decode cX1_judge 95 = .ok (.iload 5, 2) := by decide +kernel
theorem dX1_judge_97 : decode cX1_judge 97 = .ok (.iadd, 1) := by decide +kernel
theorem dX1_judge_98 : decode cX1_judge 98 = .ok (.iload 4, 2) := by decide +kernel
theorem dX1_judge_100 : decode cX1_judge 100 = .ok (.iastore, 1) := by decide +kernel
theorem dX1_judge_101 : decode cX1_judge 101 = .ok (.iload 6, 2) := by decide +kernel
theorem dX1_judge_103 : decode cX1_judge 103 = .ok (.ireturn, 1) := by decide +kernel
theorem dX1_cutOf_0 : decode cX1_cutOf 0 = .ok (.lconst 0, 1) := by decide +kernel
theorem dX1_cutOf_1 : decode cX1_cutOf 1 = .ok (.lstore_n 2, 1) := by decide +kernel
theorem dX1_cutOf_2 : decode cX1_cutOf 2 = .ok (.iconst 0, 1) := by decide +kernel
theorem dX1_cutOf_3 : decode cX1_cutOf 3 = .ok (.istore 4, 2) := by decide +kernel
theorem dX1_cutOf_5 : decode cX1_cutOf 5 = .ok (.iload 4, 2) := by decide +kernel
theorem dX1_cutOf_7 : decode cX1_cutOf 7 = .ok (.aload_n 0, 1) := by decide +kernel
theorem dX1_cutOf_8 : decode cX1_cutOf 8 = .ok (.getfield 36, 3) := by decide +kernel
theorem dX1_cutOf_11 : decode cX1_cutOf 11 = .ok (.iload_n 1, 1) := by decide +kernel
theorem dX1_cutOf_12 : decode cX1_cutOf 12 = .ok (.iaload, 1) := by decide +kernel
theorem dX1_cutOf_13 : decode cX1_cutOf 13 = .ok (.if_icmp .ge 111, 3) := by decide +kernel
theorem dX1_cutOf_16 : decode cX1_cutOf 16 = .ok (.lconst 0, 1) := by decide +kernel
theorem dX1_cutOf_17 : decode cX1_cutOf 17 = .ok (.lstore 5, 2) := by decide +kernel
theorem dX1_cutOf_19 : decode cX1_cutOf 19 = .ok (.lconst 0, 1) := by decide +kernel
theorem dX1_cutOf_20 : decode cX1_cutOf 20 = .ok (.lstore 7, 2) := by decide +kernel
theorem dX1_cutOf_22 : decode cX1_cutOf 22 = .ok (.iconst 0, 1) := by decide +kernel
theorem dX1_cutOf_23 : decode cX1_cutOf 23 = .ok (.istore 9, 2) := by decide +kernel
theorem dX1_cutOf_25 : decode cX1_cutOf 25 = .ok (.iload 9, 2) := by decide +kernel
theorem dX1_cutOf_27 : decode cX1_cutOf 27 = .ok (.bipush 8, 2) := by decide +kernel
theorem dX1_cutOf_29 : decode cX1_cutOf 29 = .ok (.if_icmp .ge 51, 3) := by decide +kernel
theorem dX1_cutOf_32 : decode cX1_cutOf 32 = .ok (.aload_n 0, 1) := by decide +kernel
theorem dX1_cutOf_33 : decode cX1_cutOf 33 = .ok (.getfield 48, 3) := by decide +kernel
theorem dX1_cutOf_36 : decode cX1_cutOf 36 = .ok (.bipush 96, 2) := by decide +kernel
theorem dX1_cutOf_38 : decode cX1_cutOf 38 = .ok (.iload 9, 2) := by decide +kernel
theorem dX1_cutOf_40 : decode cX1_cutOf 40 = .ok (.imul, 1) := by decide +kernel
theorem dX1_cutOf_41 : decode cX1_cutOf 41 = .ok (.bipush 12, 2) := by decide +kernel
theorem dX1_cutOf_43 : decode cX1_cutOf 43 = .ok (.iload_n 1, 1) := by decide +kernel
theorem dX1_cutOf_44 : decode cX1_cutOf 44 = .ok (.imul, 1) := by decide +kernel
theorem dX1_cutOf_45 : decode cX1_cutOf 45 = .ok (.iadd, 1) := by decide +kernel
theorem dX1_cutOf_46 : decode cX1_cutOf 46 = .ok (.iload 4, 2) := by decide +kernel
theorem dX1_cutOf_48 : decode cX1_cutOf 48 = .ok (.iadd, 1) := by decide +kernel
theorem dX1_cutOf_49 : decode cX1_cutOf 49 = .ok (.iaload, 1) := by decide +kernel
theorem dX1_cutOf_50 : decode cX1_cutOf 50 = .ok (.istore 10, 2) := by decide +kernel
theorem dX1_cutOf_52 : decode cX1_cutOf 52 = .ok (.iload 10, 2) := by decide +kernel
theorem dX1_cutOf_54 : decode cX1_cutOf 54 = .ok (.ifCond .ge 6, 3) := by decide +kernel
theorem dX1_cutOf_57 : decode cX1_cutOf 57 = .ok (.goto 17, 3) := by decide +kernel
theorem dX1_cutOf_60 : decode cX1_cutOf 60 = .ok (.lload 5, 2) := by decide +kernel
theorem dX1_cutOf_62 : decode cX1_cutOf 62 = .ok (.iload 10, 2) := by decide +kernel
theorem dX1_cutOf_64 : decode cX1_cutOf 64 = .ok (.i2l, 1) := by decide +kernel
theorem dX1_cutOf_65 : decode cX1_cutOf 65 = .ok (.ladd, 1) := by decide +kernel
theorem dX1_cutOf_66 : decode cX1_cutOf 66 = .ok (.lstore 5, 2) := by decide +kernel
theorem dX1_cutOf_68 : decode cX1_cutOf 68 = .ok (.lload 7, 2) := by decide +kernel
theorem dX1_cutOf_70 : decode cX1_cutOf 70 = .ok (.lconst 1, 1) := by decide +kernel
theorem dX1_cutOf_71 : decode cX1_cutOf 71 = .ok (.ladd, 1) := by decide +kernel
theorem dX1_cutOf_72 : decode cX1_cutOf 72 = .ok (.lstore 7, 2) := by decide +kernel
theorem dX1_cutOf_74 : decode cX1_cutOf 74 = .ok (.iinc 9 1, 3) := by decide +kernel
theorem dX1_cutOf_77 : decode cX1_cutOf 77 = .ok (.goto (-52), 3) := by decide +kernel
theorem dX1_cutOf_80 : decode cX1_cutOf 80 = .ok (.lload 7, 2) := by decide +kernel
theorem dX1_cutOf_82 : decode cX1_cutOf 82 = .ok (.lconst 0, 1) := by decide +kernel
theorem dX1_cutOf_83 : decode cX1_cutOf 83 = .ok (.lcmp, 1) := by decide +kernel
theorem dX1_cutOf_84 : decode cX1_cutOf 84 = .ok (.ifCond .le 34, 3) := by decide +kernel
theorem dX1_cutOf_87 : decode cX1_cutOf 87 = .ok (.aload_n 0, 1) := by decide +kernel
theorem dX1_cutOf_88 : decode cX1_cutOf 88 = .ok (.aload_n 0, 1) := by decide +kernel
theorem dX1_cutOf_89 : decode cX1_cutOf 89 = .ok (.getfield 33, 3) := by decide +kernel
theorem dX1_cutOf_92 : decode cX1_cutOf 92 = .ok (.bipush 12, 2) := by decide +kernel
theorem dX1_cutOf_94 : decode cX1_cutOf 94 = .ok (.iload_n 1, 1) := by decide +kernel
theorem dX1_cutOf_95 : decode cX1_cutOf 95 = .ok (.imul, 1) := by decide +kernel
theorem dX1_cutOf_96 : decode cX1_cutOf 96 = .ok (.iload 4, 2) := by decide +kernel
theorem dX1_cutOf_98 : decode cX1_cutOf 98 = .ok (.iadd, 1) := by decide +kernel
theorem dX1_cutOf_99 : decode cX1_cutOf 99 = .ok (.iaload, 1) := by decide +kernel
theorem dX1_cutOf_100 : decode cX1_cutOf 100 = .ok (.invokevirtual 94, 3) := by decide +kernel
theorem dX1_cutOf_103 : decode cX1_cutOf 103 = .ok (.ifCond .eq 15, 3) := by decide +kernel
theorem dX1_cutOf_106 : decode cX1_cutOf 106 = .ok (.lload_n 2, 1) := by decide +kernel
theorem dX1_cutOf_107 : decode cX1_cutOf 107 = .ok (.ldc2_w 139, 3) := by decide +kernel
theorem dX1_cutOf_110 : decode cX1_cutOf 110 = .ok (.lload 7, 2) := by decide +kernel
theorem dX1_cutOf_112 : decode cX1_cutOf 112 = .ok (.ldiv, 1) := by decide +kernel
theorem dX1_cutOf_113 : decode cX1_cutOf 113 = .ok (.lload 5, 2) := by decide +kernel
theorem dX1_cutOf_115 : decode cX1_cutOf 115 = .ok (.lmul, 1) := by decide +kernel
theorem dX1_cutOf_116 : decode cX1_cutOf 116 = .ok (.ladd, 1) := by decide +kernel
theorem dX1_cutOf_117 : decode cX1_cutOf 117 = .ok (.lstore_n 2, 1) := by decide +kernel
theorem dX1_cutOf_118 : decode cX1_cutOf 118 = .ok (.iinc 4 1, 3) := by decide +kernel
theorem dX1_cutOf_121 : decode cX1_cutOf 121 = .ok (.goto (-116), 3) := by decide +kernel
theorem dX1_cutOf_124 : decode cX1_cutOf 124 = .ok (.lload_n 2, 1) := by decide +kernel
theorem dX1_cutOf_125 : decode cX1_cutOf 125 = .ok (.lreturn, 1) := by decide +kernel
theorem dX1_cut_0 : decode cX1_cut 0 = .ok (.aload_n 0, 1) := by decide +kernel
theorem dX1_cut_1 : decode cX1_cut 1 = .ok (.iload_n 1, 1) := by decide +kernel
theorem dX1_cut_2 : decode cX1_cut 2 = .ok (.invokevirtual 63, 3) := by decide +kernel
theorem dX1_cut_5 : decode cX1_cut 5 = .ok (.ifCond .eq 13, 3) := by decide +kernel
theorem dX1_cut_8 : decode cX1_cut 8 = .ok (.aload_n 0, 1) := by decide +kernel
theorem dX1_cut_9 : decode cX1_cut 9 = .ok (.iload_n 2, 1) := by decide +kernel
theorem dX1_cut_10 : decode cX1_cut 10 = .ok (.iconst 0, 1) := by decide +kernel
theorem dX1_cut_11 : decode cX1_cut 11 = .ok (.iconst 1, 1) := by decide +kernel
theorem dX1_cut_12 : decode cX1_cut 12 = .ok (.invokevirtual 51, 3) := by decide +kernel
theorem dX1_cut_15 : decode cX1_cut 15 = .ok (.ifCond .ne 7, 3) := by decide +kernel
theorem dX1_cut_18 : decode cX1_cut 18 = .ok (.ldc2_w 104, 3) := by decide +kernel
theorem dX1_cut_21 : decode cX1_cut 21 = .ok (.lreturn, 1) := by decide +kernel
theorem dX1_cut_22 : decode cX1_cut 22 = .ok (.aload_n 0, 1) := by decide +kernel
theorem dX1_cut_23 : decode cX1_cut 23 = .ok (.aload_n 0, 1) := by decide +kernel
theorem dX1_cut_24 : decode cX1_cut 24 = .ok (.iload_n 1, 1) := by decide +kernel
theorem dX1_cut_25 : decode cX1_cut 25 = .ok (.invokevirtual 141, 3) := by decide +kernel
theorem dX1_cut_28 : decode cX1_cut 28 = .ok (.ldc2_w 139, 3) := by decide +kernel
theorem dX1_cut_31 : decode cX1_cut 31 = .ok (.iload_n 2, 1) := by decide +kernel
theorem dX1_cut_32 : decode cX1_cut 32 = .ok (.invokevirtual 106, 3) := by decide +kernel
theorem dX1_cut_35 : decode cX1_cut 35 = .ok (.lreturn, 1) := by decide +kernel
theorem dX1_isPassed_0 : decode cX1_isPassed 0 = .ok (.ldc2_w 139, 3) := by decide +kernel
theorem dX1_isPassed_3 : decode cX1_isPassed 3 = .ok (.aload_n 0, 1) := by decide +kernel
theorem dX1_isPassed_4 : decode cX1_isPassed 4 = .ok (.iload_n 1, 1) := by decide +kernel
theorem dX1_isPassed_5 : decode cX1_isPassed 5 = .ok (.invokevirtual 97, 3) := by decide +kernel
theorem dX1_isPassed_8 : decode cX1_isPassed 8 = .ok (.i2l, 1) := by decide +kernel
theorem dX1_isPassed_9 : decode cX1_isPassed 9 = .ok (.lmul, 1) := by decide +kernel
theorem dX1_isPassed_10 : decode cX1_isPassed 10 = .ok (.aload_n 0, 1) := by decide +kernel
theorem dX1_isPassed_11 : decode cX1_isPassed 11 = .ok (.aload_n 0, 1) := by decide +kernel
theorem dX1_isPassed_12 : decode cX1_isPassed 12 = .ok (.getfield 39, 3) := by decide +kernel
theorem dX1_isPassed_15 : decode cX1_isPassed 15 = .ok (.iload_n 1, 1) := by decide +kernel
theorem dX1_isPassed_16 : decode cX1_isPassed 16 = .ok (.iaload, 1) := by decide +kernel
theorem dX1_isPassed_17 : decode cX1_isPassed 17 = .ok (.invokevirtual 141, 3) := by decide +kernel
theorem dX1_isPassed_20 : decode cX1_isPassed 20 = .ok (.lcmp, 1) := by decide +kernel
theorem dX1_isPassed_21 : decode cX1_isPassed 21 = .ok (.ifCond .lt 7, 3) := by decide +kernel
theorem dX1_isPassed_24 : decode cX1_isPassed 24 = .ok (.iconst 1, 1) := by decide +kernel
theorem dX1_isPassed_25 : decode cX1_isPassed 25 = .ok (.goto 4, 3) := by decide +kernel
theorem dX1_isPassed_28 : decode cX1_isPassed 28 = .ok (.iconst 0, 1) := by decide +kernel
theorem dX1_isPassed_29 : decode cX1_isPassed 29 = .ok (.ireturn, 1) := by decide +kernel
theorem dX1_passes_0 : decode cX1_passes 0 = .ok (.aload_n 0, 1) := by decide +kernel
theorem dX1_passes_1 : decode cX1_passes 1 = .ok (.iload_n 1, 1) := by decide +kernel
theorem dX1_passes_2 : decode cX1_passes 2 = .ok (.invokevirtual 74, 3) := by decide +kernel
theorem dX1_passes_5 : decode cX1_passes 5 = .ok (.ifCond .eq 19, 3) := by decide +kernel
theorem dX1_passes_8 : decode cX1_passes 8 = .ok (.aload_n 0, 1) := by decide +kernel
theorem dX1_passes_9 : decode cX1_passes 9 = .ok (.iload_n 1, 1) := by decide +kernel
theorem dX1_passes_10 : decode cX1_passes 10 = .ok (.invokevirtual 145, 3) := by decide +kernel
theorem dX1_passes_13 : decode cX1_passes 13 = .ok (.ifCond .eq 7, 3) := by decide +kernel
theorem dX1_passes_16 : decode cX1_passes 16 = .ok (.iconst 1, 1) := by decide +kernel
theorem dX1_passes_17 : decode cX1_passes 17 = .ok (.goto 8, 3) := by decide +kernel
theorem dX1_passes_20 : decode cX1_passes 20 = .ok (.iconst 0, 1) := by decide +kernel
theorem dX1_passes_21 : decode cX1_passes 21 = .ok (.goto 4, 3) := by decide +kernel
theorem dX1_passes_24 : decode cX1_passes 24 = .ok (.iconst (-1), 1) := by decide +kernel
theorem dX1_passes_25 : decode cX1_passes 25 = .ok (.ireturn, 1) := by decide +kernel
theorem dX1_border_0 : decode cX1_border 0 = .ok (.aload_n 0, 1) := by decide +kernel
theorem dX1_border_1 : decode cX1_border 1 = .ok (.iload_n 1, 1) := by decide +kernel
theorem dX1_border_2 : decode cX1_border 2 = .ok (.invokevirtual 63, 3) := by decide +kernel
theorem dX1_border_5 : decode cX1_border 5 = .ok (.ifCond .ne 5, 3) := by decide +kernel
theorem dX1_border_8 : decode cX1_border 8 = .ok (.iconst (-1), 1) := by decide +kernel
theorem dX1_border_9 : decode cX1_border 9 = .ok (.ireturn, 1) := by decide +kernel
theorem dX1_border_10 : decode cX1_border 10 = .ok (.iload_n 2, 1) := by decide +kernel
theorem dX1_border_11 : decode cX1_border 11 = .ok (.ifCond .ge 6, 3) := by decide +kernel
theorem dX1_border_14 : decode cX1_border 14 = .ok (.bipush (-2), 2) := by decide +kernel
theorem dX1_border_16 : decode cX1_border 16 = .ok (.ireturn, 1) := by decide +kernel
theorem dX1_border_17 : decode cX1_border 17 = .ok (.iconst 0, 1) := by decide +kernel
theorem dX1_border_18 : decode cX1_border 18 = .ok (.istore_n 3, 1) := by decide +kernel
theorem dX1_border_19 : decode cX1_border 19 = .ok (.iconst 0, 1) := by decide +kernel
theorem dX1_border_20 : decode cX1_border 20 = .ok (.istore 4, 2) := by decide +kernel
theorem dX1_border_22 : decode cX1_border 22 = .ok (.iload 4, 2) := by decide +kernel
theorem dX1_border_24 : decode cX1_border 24 = .ok (.aload_n 0, 1) := by decide +kernel
theorem dX1_border_25 : decode cX1_border 25 = .ok (.getfield 16, 3) := by decide +kernel
theorem dX1_border_28 : decode cX1_border 28 = .ok (.if_icmp .ge 75, 3) := by decide +kernel
theorem dX1_border_31 : decode cX1_border 31 = .ok (.aload_n 0, 1) := by decide +kernel
theorem dX1_border_32 : decode cX1_border 32 = .ok (.getfield 39, 3) := by decide +kernel
theorem dX1_border_35 : decode cX1_border 35 = .ok (.iload 4, 2) := by decide +kernel
theorem dX1_border_37 : decode cX1_border 37 = .ok (.iaload, 1) := by decide +kernel
theorem dX1_border_38 : decode cX1_border 38 = .ok (.iload_n 1, 1) := by decide +kernel
theorem dX1_border_39 : decode cX1_border 39 = .ok (.if_icmp .eq 6, 3) := by decide +kernel
theorem dX1_border_42 : decode cX1_border 42 = .ok (.goto 55, 3) := by decide +kernel
theorem dX1_border_45 : decode cX1_border 45 = .ok (.ldc2_w 139, 3) := by decide +kernel
theorem dX1_border_48 : decode cX1_border 48 = .ok (.aload_n 0, 1) := by decide +kernel
theorem dX1_border_49 : decode cX1_border 49 = .ok (.iload 4, 2) := by decide +kernel
theorem dX1_border_51 : decode cX1_border 51 = .ok (.invokevirtual 97, 3) := by decide +kernel
theorem dX1_border_54 : decode cX1_border 54 = .ok (.i2l, 1) := by decide +kernel
theorem dX1_border_55 : decode cX1_border 55 = .ok (.lmul, 1) := by decide +kernel
theorem dX1_border_56 : decode cX1_border 56 = .ok (.aload_n 0, 1) := by decide +kernel
theorem dX1_border_57 : decode cX1_border 57 = .ok (.iload_n 1, 1) := by decide +kernel
theorem dX1_border_58 : decode cX1_border 58 = .ok (.invokevirtual 141, 3) := by decide +kernel
theorem dX1_border_61 : decode cX1_border 61 = .ok (.lsub, 1) := by decide +kernel
theorem dX1_border_62 : decode cX1_border 62 = .ok (.lstore 5, 2) := by decide +kernel
theorem dX1_border_64 : decode cX1_border 64 = .ok (.iload_n 3, 1) := by decide +kernel
theorem dX1_border_65 : decode cX1_border 65 = .ok (.lload 5, 2) := by decide +kernel
theorem dX1_border_67 : decode cX1_border 67 = .ok (.lconst 0, 1) := by decide +kernel
theorem dX1_border_68 : decode cX1_border 68 = .ok (.lcmp, 1) := by decide +kernel
theorem dX1_border_69 : decode cX1_border 69 = .ok (.ifCond .ge 9, 3) := by decide +kernel
theorem dX1_border_72 : decode cX1_border 72 = .ok (.lload 5, 2) := by decide +kernel
theorem dX1_border_74 : decode cX1_border 74 = .ok (.lneg, 1) := by decide +kernel
theorem dX1_border_75 : decode cX1_border 75 = .ok (.goto 5, 3) := by decide +kernel
theorem dX1_border_78 : decode cX1_border 78 = .ok (.lload 5, 2) := by decide +kernel
theorem dX1_border_80 : decode cX1_border 80 = .ok (.ldc2_w 139, 3) := by decide +kernel
theorem dX1_border_83 : decode cX1_border 83 = .ok (.iload_n 2, 1) := by decide +kernel
theorem dX1_border_84 : decode cX1_border 84 = .ok (.i2l, 1) := by decide +kernel
theorem dX1_border_85 : decode cX1_border 85 = .ok (.lmul, 1) := by decide +kernel
theorem dX1_border_86 : decode cX1_border 86 = .ok (.lcmp, 1) := by decide +kernel
theorem dX1_border_87 : decode cX1_border 87 = .ok (.ifCond .gt 7, 3) := by decide +kernel
theorem dX1_border_90 : decode cX1_border 90 = .ok (.iconst 1, 1) := by decide +kernel
theorem dX1_border_91 : decode cX1_border 91 = .ok (.goto 4, 3) := by decide +kernel
theorem dX1_border_94 : decode cX1_border 94 = .ok (.iconst 0, 1) := by decide +kernel
theorem dX1_border_95 : decode cX1_border 95 = .ok (.iadd, 1) := by decide +kernel
theorem dX1_border_96 : decode cX1_border 96 = .ok (.istore_n 3, 1) := by decide +kernel
theorem dX1_border_97 : decode cX1_border 97 = .ok (.iinc 4 1, 3) := by decide +kernel
theorem dX1_border_100 : decode cX1_border 100 = .ok (.goto (-78), 3) := by decide +kernel
theorem dX1_border_103 : decode cX1_border 103 = .ok (.iload_n 3, 1) := by decide +kernel
theorem dX1_border_104 : decode cX1_border 104 = .ok (.ireturn, 1) := by decide +kernel
theorem dX1_alikeMany_0 : decode cX1_alikeMany 0 = .ok (.aload_n 0, 1) := by decide +kernel
theorem dX1_alikeMany_1 : decode cX1_alikeMany 1 = .ok (.getfield 39, 3) := by decide +kernel
theorem dX1_alikeMany_4 : decode cX1_alikeMany 4 = .ok (.iload_n 1, 1) := by decide +kernel
theorem dX1_alikeMany_5 : decode cX1_alikeMany 5 = .ok (.iaload, 1) := by decide +kernel
theorem dX1_alikeMany_6 : decode cX1_alikeMany 6 = .ok (.istore_n 3, 1) := by decide +kernel
theorem dX1_alikeMany_7 : decode cX1_alikeMany 7 = .ok (.iconst 0, 1) := by decide +kernel
theorem dX1_alikeMany_8 : decode cX1_alikeMany 8 = .ok (.istore 4, 2) := by decide +kernel
theorem dX1_alikeMany_10 : decode cX1_alikeMany 10 = .ok (.iconst 0, 1) := by decide +kernel
theorem dX1_alikeMany_11 : decode cX1_alikeMany 11 = .ok (.istore 5, 2) := by decide +kernel
theorem dX1_alikeMany_13 : decode cX1_alikeMany 13 = .ok (.iload 5, 2) := by decide +kernel
theorem dX1_alikeMany_15 : decode cX1_alikeMany 15 = .ok (.aload_n 0, 1) := by decide +kernel
theorem dX1_alikeMany_16 : decode cX1_alikeMany 16 = .ok (.getfield 36, 3) := by decide +kernel
theorem dX1_alikeMany_19 : decode cX1_alikeMany 19 = .ok (.iload_n 3, 1) := by decide +kernel
theorem dX1_alikeMany_20 : decode cX1_alikeMany 20 = .ok (.iaload, 1) := by decide +kernel
theorem dX1_alikeMany_21 : decode cX1_alikeMany 21 = .ok (.if_icmp .ge 88, 3) := by decide +kernel
theorem dX1_alikeMany_24 : decode cX1_alikeMany 24 = .ok (.iload 4, 2) := by decide +kernel
theorem dX1_alikeMany_26 : decode cX1_alikeMany 26 = .ok (.aload_n 0, 1) := by decide +kernel
theorem dX1_alikeMany_27 : decode cX1_alikeMany 27 = .ok (.getfield 45, 3) := by decide +kernel
theorem dX1_alikeMany_30 : decode cX1_alikeMany 30 = .ok (.bipush 12, 2) := by decide +kernel
theorem dX1_alikeMany_32 : decode cX1_alikeMany 32 = .ok (.iload_n 1, 1) := by decide +kernel
theorem dX1_alikeMany_33 : decode cX1_alikeMany 33 = .ok (.imul, 1) := by decide +kernel
theorem dX1_alikeMany_34 : decode cX1_alikeMany 34 = .ok (.iload 5, 2) := by decide +kernel
theorem dX1_alikeMany_36 : decode cX1_alikeMany 36 = .ok (.iadd, 1) := by decide +kernel
theorem dX1_alikeMany_37 : decode cX1_alikeMany 37 = .ok (.iaload, 1) := by decide +kernel
theorem dX1_alikeMany_38 : decode cX1_alikeMany 38 = .ok (.ifCond .lt 61, 3) := by decide +kernel
theorem dX1_alikeMany_41 : decode cX1_alikeMany 41 = .ok (.aload_n 0, 1) := by decide +kernel
theorem dX1_alikeMany_42 : decode cX1_alikeMany 42 = .ok (.getfield 45, 3) := by decide +kernel
theorem dX1_alikeMany_45 : decode cX1_alikeMany 45 = .ok (.bipush 12, 2) := by decide +kernel
theorem dX1_alikeMany_47 : decode cX1_alikeMany 47 = .ok (.iload_n 1, 1) := by decide +kernel
theorem dX1_alikeMany_48 : decode cX1_alikeMany 48 = .ok (.imul, 1) := by decide +kernel
theorem dX1_alikeMany_49 : decode cX1_alikeMany 49 = .ok (.iload 5, 2) := by decide +kernel
theorem dX1_alikeMany_51 : decode cX1_alikeMany 51 = .ok (.iadd, 1) := by decide +kernel
theorem dX1_alikeMany_52 : decode cX1_alikeMany 52 = .ok (.iaload, 1) := by decide +kernel
theorem dX1_alikeMany_53 : decode cX1_alikeMany 53 = .ok (.aload_n 0, 1) := by decide +kernel
theorem dX1_alikeMany_54 : decode cX1_alikeMany 54 = .ok (.getfield 45, 3) := by decide +kernel
theorem dX1_alikeMany_57 : decode cX1_alikeMany 57 = .ok (.bipush 12, 2) := by decide +kernel
theorem dX1_alikeMany_59 : decode cX1_alikeMany 59 = .ok (.iload_n 2, 1) := by decide +kernel
theorem dX1_alikeMany_60 : decode cX1_alikeMany 60 = .ok (.imul, 1) := by decide +kernel
theorem dX1_alikeMany_61 : decode cX1_alikeMany 61 = .ok (.iload 5, 2) := by decide +kernel
theorem dX1_alikeMany_63 : decode cX1_alikeMany 63 = .ok (.iadd, 1) := by decide +kernel
theorem dX1_alikeMany_64 : decode cX1_alikeMany 64 = .ok (.iaload, 1) := by decide +kernel
theorem dX1_alikeMany_65 : decode cX1_alikeMany 65 = .ok (.if_icmp .ne 34, 3) := by decide +kernel
theorem dX1_alikeMany_68 : decode cX1_alikeMany 68 = .ok (.aload_n 0, 1) := by decide +kernel
theorem dX1_alikeMany_69 : decode cX1_alikeMany 69 = .ok (.iload_n 1, 1) := by decide +kernel
theorem dX1_alikeMany_70 : decode cX1_alikeMany 70 = .ok (.iload 5, 2) := by decide +kernel
theorem dX1_alikeMany_72 : decode cX1_alikeMany 72 = .ok (.invokevirtual 88, 3) := by decide +kernel
theorem dX1_alikeMany_75 : decode cX1_alikeMany 75 = .ok (.aload_n 0, 1) := by decide +kernel
theorem dX1_alikeMany_76 : decode cX1_alikeMany 76 = .ok (.getfield 23, 3) := by decide +kernel
theorem dX1_alikeMany_79 : decode cX1_alikeMany 79 = .ok (.aload_n 0, 1) := by decide +kernel
theorem dX1_alikeMany_80 : decode cX1_alikeMany 80 = .ok (.getfield 33, 3) := by decide +kernel
theorem dX1_alikeMany_83 : decode cX1_alikeMany 83 = .ok (.bipush 12, 2) := by decide +kernel
theorem dX1_alikeMany_85 : decode cX1_alikeMany 85 = .ok (.iload_n 3, 1) := by decide +kernel
theorem dX1_alikeMany_86 : decode cX1_alikeMany 86 = .ok (.imul, 1) := by decide +kernel
theorem dX1_alikeMany_87 : decode cX1_alikeMany 87 = .ok (.iload 5, 2) := by decide +kernel
theorem dX1_alikeMany_89 : decode cX1_alikeMany 89 = .ok (.iadd, 1) := by decide +kernel
theorem dX1_alikeMany_90 : decode cX1_alikeMany 90 = .ok (.iaload, 1) := by decide +kernel
theorem dX1_alikeMany_91 : decode cX1_alikeMany 91 = .ok (.iaload, 1) := by decide +kernel
theorem dX1_alikeMany_92 : decode cX1_alikeMany 92 = .ok (.if_icmp .ge 7, 3) := by decide +kernel
theorem dX1_alikeMany_95 : decode cX1_alikeMany 95 = .ok (.iconst 1, 1) := by decide +kernel
theorem dX1_alikeMany_96 : decode cX1_alikeMany 96 = .ok (.goto 4, 3) := by decide +kernel
theorem dX1_alikeMany_99 : decode cX1_alikeMany 99 = .ok (.iconst 0, 1) := by decide +kernel
theorem dX1_alikeMany_100 : decode cX1_alikeMany 100 = .ok (.iadd, 1) := by decide +kernel
theorem dX1_alikeMany_101 : decode cX1_alikeMany 101 = .ok (.istore 4, 2) := by decide +kernel
theorem dX1_alikeMany_103 : decode cX1_alikeMany 103 = .ok (.iinc 5 1, 3) := by decide +kernel
theorem dX1_alikeMany_106 : decode cX1_alikeMany 106 = .ok (.goto (-93), 3) := by decide +kernel
theorem dX1_alikeMany_109 : decode cX1_alikeMany 109 = .ok (.iload 4, 2) := by decide +kernel
theorem dX1_alikeMany_111 : decode cX1_alikeMany 111 = .ok (.ireturn, 1) := by decide +kernel
theorem dX1_alike_0 : decode cX1_alike 0 = .ok (.aload_n 0, 1) := by decide +kernel
theorem dX1_alike_1 : decode cX1_alike 1 = .ok (.iload_n 1, 1) := by decide +kernel
theorem dX1_alike_2 : decode cX1_alike 2 = .ok (.invokevirtual 74, 3) := by decide +kernel
theorem dX1_alike_5 : decode cX1_alike 5 = .ok (.ifCond .eq 11, 3) := by decide +kernel
theorem dX1_alike_8 : decode cX1_alike 8 = .ok (.aload_n 0, 1) := by decide +kernel
theorem dX1_alike_9 : decode cX1_alike 9 = .ok (.iload_n 2, 1) := by decide +kernel
theorem dX1_alike_10 : decode cX1_alike 10 = .ok (.invokevirtual 74, 3) := by decide +kernel
theorem dX1_alike_13 : decode cX1_alike 13 = .ok (.ifCond .ne 5, 3) := by decide +kernel
theorem dX1_alike_16 : decode cX1_alike 16 = .ok (.iconst (-1), 1) := by decide +kernel
theorem dX1_alike_17 : decode cX1_alike 17 = .ok (.ireturn, 1) := by decide +kernel
theorem dX1_alike_18 : decode cX1_alike 18 = .ok (.iload_n 1, 1) := by decide +kernel
theorem dX1_alike_19 : decode cX1_alike 19 = .ok (.iload_n 2, 1) := by decide +kernel
theorem dX1_alike_20 : decode cX1_alike 20 = .ok (.if_icmp .eq 18, 3) := by decide +kernel
theorem dX1_alike_23 : decode cX1_alike 23 = .ok (.aload_n 0, 1) := by decide +kernel
theorem dX1_alike_24 : decode cX1_alike 24 = .ok (.getfield 39, 3) := by decide +kernel
theorem dX1_alike_27 : decode cX1_alike 27 = .ok (.iload_n 1, 1) := by decide +kernel
theorem dX1_alike_28 : decode cX1_alike 28 = .ok (.iaload, 1) := by decide +kernel
theorem dX1_alike_29 : decode cX1_alike 29 = .ok (.aload_n 0, 1) := by decide +kernel
theorem dX1_alike_30 : decode cX1_alike 30 = .ok (.getfield 39, 3) := by decide +kernel
theorem dX1_alike_33 : decode cX1_alike 33 = .ok (.iload_n 2, 1) := by decide +kernel
theorem dX1_alike_34 : decode cX1_alike 34 = .ok (.iaload, 1) := by decide +kernel
theorem dX1_alike_35 : decode cX1_alike 35 = .ok (.if_icmp .eq 8, 3) := by decide +kernel
theorem dX1_alike_38 : decode cX1_alike 38 = .ok (.bipush (-2), 2) := by decide +kernel
theorem dX1_alike_40 : decode cX1_alike 40 = .ok (.goto 9, 3) := by decide +kernel
theorem dX1_alike_43 : decode cX1_alike 43 = .ok (.aload_n 0, 1) := by decide +kernel
theorem dX1_alike_44 : decode cX1_alike 44 = .ok (.iload_n 1, 1) := by decide +kernel
theorem dX1_alike_45 : decode cX1_alike 45 = .ok (.iload_n 2, 1) := by decide +kernel
theorem dX1_alike_46 : decode cX1_alike 46 = .ok (.invokevirtual 148, 3) := by decide +kernel
theorem dX1_alike_49 : decode cX1_alike 49 = .ok (.ireturn, 1) := by decide +kernel
theorem dX1_pair_0 : decode cX1_pair 0 = .ok (.aload_n 0, 1) := by decide +kernel
theorem dX1_pair_1 : decode cX1_pair 1 = .ok (.iload_n 1, 1) := by decide +kernel
theorem dX1_pair_2 : decode cX1_pair 2 = .ok (.invokevirtual 63, 3) := by decide +kernel
theorem dX1_pair_5 : decode cX1_pair 5 = .ok (.ifCond .eq 7, 3) := by decide +kernel
theorem dX1_pair_8 : decode cX1_pair 8 = .ok (.iload_n 3, 1) := by decide +kernel
theorem dX1_pair_9 : decode cX1_pair 9 = .ok (.ifCond .ge 5, 3) := by decide +kernel
theorem dX1_pair_12 : decode cX1_pair 12 = .ok (.iconst (-1), 1) := by decide +kernel
theorem dX1_pair_13 : decode cX1_pair 13 = .ok (.ireturn, 1) := by decide +kernel
theorem dX1_pair_14 : decode cX1_pair 14 = .ok (.iload_n 2, 1) := by decide +kernel
theorem dX1_pair_15 : decode cX1_pair 15 = .ok (.iconst 1, 1) := by decide +kernel
theorem dX1_pair_16 : decode cX1_pair 16 = .ok (.if_icmp .ge 6, 3) := by decide +kernel
theorem dX1_pair_19 : decode cX1_pair 19 = .ok (.bipush (-2), 2) := by decide +kernel
theorem dX1_pair_21 : decode cX1_pair 21 = .ok (.ireturn, 1) := by decide +kernel
theorem dX1_pair_22 : decode cX1_pair 22 = .ok (.iload_n 3, 1) := by decide +kernel
theorem dX1_pair_23 : decode cX1_pair 23 = .ok (.istore 4, 2) := by decide +kernel
theorem dX1_pair_25 : decode cX1_pair 25 = .ok (.iconst 0, 1) := by decide +kernel
theorem dX1_pair_26 : decode cX1_pair 26 = .ok (.istore 5, 2) := by decide +kernel
theorem dX1_pair_28 : decode cX1_pair 28 = .ok (.iload 5, 2) := by decide +kernel
theorem dX1_pair_30 : decode cX1_pair 30 = .ok (.aload_n 0, 1) := by decide +kernel
theorem dX1_pair_31 : decode cX1_pair 31 = .ok (.getfield 16, 3) := by decide +kernel
theorem dX1_pair_34 : decode cX1_pair 34 = .ok (.if_icmp .ge 84, 3) := by decide +kernel
theorem dX1_pair_37 : decode cX1_pair 37 = .ok (.iload 5, 2) := by decide +kernel
theorem dX1_pair_39 : decode cX1_pair 39 = .ok (.iconst 1, 1) := by decide +kernel
theorem dX1_pair_40 : decode cX1_pair 40 = .ok (.iadd, 1) := by decide +kernel
theorem dX1_pair_41 : decode cX1_pair 41 = .ok (.istore 6, 2) := by decide +kernel
theorem dX1_pair_43 : decode cX1_pair 43 = .ok (.iload 6, 2) := by decide +kernel
theorem dX1_pair_45 : decode cX1_pair 45 = .ok (.aload_n 0, 1) := by decide +kernel
theorem dX1_pair_46 : decode cX1_pair 46 = .ok (.getfield 16, 3) := by decide +kernel
theorem dX1_pair_49 : decode cX1_pair 49 = .ok (.if_icmp .ge 63, 3) := by decide +kernel
theorem dX1_pair_52 : decode cX1_pair 52 = .ok (.aload_n 0, 1) := by decide +kernel
theorem dX1_pair_53 : decode cX1_pair 53 = .ok (.getfield 39, 3) := by decide +kernel
theorem dX1_pair_56 : decode cX1_pair 56 = .ok (.iload 5, 2) := by decide +kernel
theorem dX1_pair_58 : decode cX1_pair 58 = .ok (.iaload, 1) := by decide +kernel
theorem dX1_pair_59 : decode cX1_pair 59 = .ok (.iload_n 1, 1) := by decide +kernel
theorem dX1_pair_60 : decode cX1_pair 60 = .ok (.if_icmp .ne 46, 3) := by decide +kernel
theorem dX1_pair_63 : decode cX1_pair 63 = .ok (.aload_n 0, 1) := by decide +kernel
theorem dX1_pair_64 : decode cX1_pair 64 = .ok (.getfield 39, 3) := by decide +kernel
theorem dX1_pair_67 : decode cX1_pair 67 = .ok (.iload 6, 2) := by decide +kernel
theorem dX1_pair_69 : decode cX1_pair 69 = .ok (.iaload, 1) := by decide +kernel
theorem dX1_pair_70 : decode cX1_pair 70 = .ok (.iload_n 1, 1) := by decide +kernel
theorem dX1_pair_71 : decode cX1_pair 71 = .ok (.if_icmp .ne 35, 3) := by decide +kernel
theorem dX1_pair_74 : decode cX1_pair 74 = .ok (.aload_n 0, 1) := by decide +kernel
theorem dX1_pair_75 : decode cX1_pair 75 = .ok (.iload 5, 2) := by decide +kernel
theorem dX1_pair_77 : decode cX1_pair 77 = .ok (.iload 6, 2) := by decide +kernel
theorem dX1_pair_79 : decode cX1_pair 79 = .ok (.invokevirtual 148, 3) := by decide +kernel
theorem dX1_pair_82 : decode cX1_pair 82 = .ok (.iload_n 2, 1) := by decide +kernel
theorem dX1_pair_83 : decode cX1_pair 83 = .ok (.if_icmp .ge 6, 3) := by decide +kernel
theorem dX1_pair_86 : decode cX1_pair 86 = .ok (.goto 20, 3) := by decide +kernel
theorem dX1_pair_89 : decode cX1_pair 89 = .ok (.iload 4, 2) := by decide +kernel
theorem dX1_pair_91 : decode cX1_pair 91 = .ok (.ifCond .ne 12, 3) := by decide +kernel
theorem dX1_pair_94 : decode cX1_pair 94 = .ok (.bipush 64, 2) := by decide +kernel
theorem dX1_pair_96 : decode cX1_pair 96 = .ok (.iload 5, 2) := by decide +kernel
theorem dX1_pair_98 : decode cX1_pair 98 = .ok (.imul, 1) := by decide +kernel
theorem dX1_pair_99 : decode cX1_pair 99 = .ok (.iload 6, 2) := by decide +kernel
theorem dX1_pair_101 : decode cX1_pair 101 = .ok (.iadd, 1) := by decide +kernel
theorem dX1_pair_102 : decode cX1_pair 102 = .ok (.ireturn, 1) := by decide +kernel
theorem dX1_pair_103 : decode cX1_pair 103 = .ok (.iinc 4 (-1), 3) := by decide +kernel
theorem dX1_pair_106 : decode cX1_pair 106 = .ok (.iinc 6 1, 3) := by decide +kernel
theorem dX1_pair_109 : decode cX1_pair 109 = .ok (.goto (-66), 3) := by decide +kernel
theorem dX1_pair_112 : decode cX1_pair 112 = .ok (.iinc 5 1, 3) := by decide +kernel
theorem dX1_pair_115 : decode cX1_pair 115 = .ok (.goto (-87), 3) := by decide +kernel
theorem dX1_pair_118 : decode cX1_pair 118 = .ok (.iconst (-1), 1) := by decide +kernel
theorem dX1_pair_119 : decode cX1_pair 119 = .ok (.ireturn, 1) := by decide +kernel
theorem dX1_count_0 : decode cX1_count 0 = .ok (.iconst 0, 1) := by decide +kernel
theorem dX1_count_1 : decode cX1_count 1 = .ok (.istore_n 2, 1) := by decide +kernel
theorem dX1_count_2 : decode cX1_count 2 = .ok (.iload_n 1, 1) := by decide +kernel
theorem dX1_count_3 : decode cX1_count 3 = .ok (.tableswitch 187 0 5 #[37, 42, 47, 52, 118, 153], 37) := by decide +kernel
theorem dX1_count_40 : decode cX1_count 40 = .ok (.aload_n 0, 1) := by decide +kernel
theorem dX1_count_41 : decode cX1_count 41 = .ok (.getfield 7, 3) := by decide +kernel
theorem dX1_count_44 : decode cX1_count 44 = .ok (.ireturn, 1) := by decide +kernel
theorem dX1_count_45 : decode cX1_count 45 = .ok (.aload_n 0, 1) := by decide +kernel
theorem dX1_count_46 : decode cX1_count 46 = .ok (.getfield 13, 3) := by decide +kernel
theorem dX1_count_49 : decode cX1_count 49 = .ok (.ireturn, 1) := by decide +kernel
theorem dX1_count_50 : decode cX1_count 50 = .ok (.aload_n 0, 1) := by decide +kernel
theorem dX1_count_51 : decode cX1_count 51 = .ok (.getfield 16, 3) := by decide +kernel
theorem dX1_count_54 : decode cX1_count 54 = .ok (.ireturn, 1) := by decide +kernel
theorem dX1_count_55 : decode cX1_count 55 = .ok (.iconst 0, 1) := by decide +kernel
theorem dX1_count_56 : decode cX1_count 56 = .ok (.istore_n 3, 1) := by decide +kernel
theorem dX1_count_57 : decode cX1_count 57 = .ok (.iload_n 3, 1) := by decide +kernel
theorem dX1_count_58 : decode cX1_count 58 = .ok (.aload_n 0, 1) := by decide +kernel
theorem dX1_count_59 : decode cX1_count 59 = .ok (.getfield 16, 3) := by decide +kernel
theorem dX1_count_62 : decode cX1_count 62 = .ok (.if_icmp .ge 57, 3) := by decide +kernel
theorem dX1_count_65 : decode cX1_count 65 = .ok (.iconst 0, 1) := by decide +kernel
theorem dX1_count_66 : decode cX1_count 66 = .ok (.istore 4, 2) := by decide +kernel
theorem dX1_count_68 : decode cX1_count 68 = .ok (.iload 4, 2) := by decide +kernel
theorem dX1_count_70 : decode cX1_count 70 = .ok (.aload_n 0, 1) := by decide +kernel
theorem dX1_count_71 : decode cX1_count 71 = .ok (.getfield 36, 3) := by decide +kernel
theorem dX1_count_74 : decode cX1_count 74 = .ok (.aload_n 0, 1) := by decide +kernel
theorem dX1_count_75 : decode cX1_count 75 = .ok (.getfield 39, 3) := by decide +kernel
theorem dX1_count_78 : decode cX1_count 78 = .ok (.iload_n 3, 1) := by decide +kernel
theorem dX1_count_79 : decode cX1_count 79 = .ok (.iaload, 1) := by decide +kernel
theorem dX1_count_80 : decode cX1_count 80 = .ok (.iaload, 1) := by decide +kernel
theorem dX1_count_81 : decode cX1_count 81 = .ok (.if_icmp .ge 32, 3) := by decide +kernel
theorem dX1_count_84 : decode cX1_count 84 = .ok (.iload_n 2, 1) := by decide +kernel
theorem dX1_count_85 : decode cX1_count 85 = .ok (.aload_n 0, 1) := by decide +kernel
theorem dX1_count_86 : decode cX1_count 86 = .ok (.getfield 45, 3) := by decide +kernel
theorem dX1_count_89 : decode cX1_count 89 = .ok (.bipush 12, 2) := by decide +kernel
theorem dX1_count_91 : decode cX1_count 91 = .ok (.iload_n 3, 1) := by decide +kernel
theorem dX1_count_92 : decode cX1_count 92 = .ok (.imul, 1) := by decide +kernel
theorem dX1_count_93 : decode cX1_count 93 = .ok (.iload 4, 2) := by decide +kernel
theorem dX1_count_95 : decode cX1_count 95 = .ok (.iadd, 1) := by decide +kernel
theorem dX1_count_96 : decode cX1_count 96 = .ok (.iaload, 1) := by decide +kernel
theorem dX1_count_97 : decode cX1_count 97 = .ok (.ifCond .lt 7, 3) := by decide +kernel
theorem dX1_count_100 : decode cX1_count 100 = .ok (.iconst 1, 1) := by decide +kernel
theorem dX1_count_101 : decode cX1_count 101 = .ok (.goto 4, 3) := by decide +kernel
theorem dX1_count_104 : decode cX1_count 104 = .ok (.iconst 0, 1) := by decide +kernel
theorem dX1_count_105 : decode cX1_count 105 = .ok (.iadd, 1) := by decide +kernel
theorem dX1_count_106 : decode cX1_count 106 = .ok (.istore_n 2, 1) := by decide +kernel
theorem dX1_count_107 : decode cX1_count 107 = .ok (.iinc 4 1, 3) := by decide +kernel
theorem dX1_count_110 : decode cX1_count 110 = .ok (.goto (-42), 3) := by decide +kernel
theorem dX1_count_113 : decode cX1_count 113 = .ok (.iinc 3 1, 3) := by decide +kernel
theorem dX1_count_116 : decode cX1_count 116 = .ok (.goto (-59), 3) := by decide +kernel
theorem dX1_count_119 : decode cX1_count 119 = .ok (.iload_n 2, 1) := by decide +kernel
theorem dX1_count_120 : decode cX1_count 120 = .ok (.ireturn, 1) := by decide +kernel
theorem dX1_count_121 : decode cX1_count 121 = .ok (.iconst 0, 1) := by decide +kernel
theorem dX1_count_122 : decode cX1_count 122 = .ok (.istore_n 3, 1) := by decide +kernel
theorem dX1_count_123 : decode cX1_count 123 = .ok (.iload_n 3, 1) := by decide +kernel
theorem dX1_count_124 : decode cX1_count 124 = .ok (.aload_n 0, 1) := by decide +kernel
theorem dX1_count_125 : decode cX1_count 125 = .ok (.getfield 7, 3) := by decide +kernel
theorem dX1_count_128 : decode cX1_count 128 = .ok (.if_icmp .ge 26, 3) := by decide +kernel
theorem dX1_count_131 : decode cX1_count 131 = .ok (.iload_n 2, 1) := by decide +kernel
theorem dX1_count_132 : decode cX1_count 132 = .ok (.aload_n 0, 1) := by decide +kernel
theorem dX1_count_133 : decode cX1_count 133 = .ok (.getfield 29, 3) := by decide +kernel
theorem dX1_count_136 : decode cX1_count 136 = .ok (.iload_n 3, 1) := by decide +kernel
theorem dX1_count_137 : decode cX1_count 137 = .ok (.baload, 1) := by decide +kernel
theorem dX1_count_138 : decode cX1_count 138 = .ok (.ifCond .eq 7, 3) := by decide +kernel
theorem dX1_count_141 : decode cX1_count 141 = .ok (.iconst 1, 1) := by decide +kernel
theorem dX1_count_142 : decode cX1_count 142 = .ok (.goto 4, 3) := by decide +kernel
theorem dX1_count_145 : decode cX1_count 145 = .ok (.iconst 0, 1) := by decide +kernel
theorem dX1_count_146 : decode cX1_count 146 = .ok (.iadd, 1) := by decide +kernel
theorem dX1_count_147 : decode cX1_count 147 = .ok (.istore_n 2, 1) := by decide +kernel
theorem dX1_count_148 : decode cX1_count 148 = .ok (.iinc 3 1, 3) := by decide +kernel
theorem dX1_count_151 : decode cX1_count 151 = .ok (.goto (-28), 3) := by decide +kernel
theorem dX1_count_154 : decode cX1_count 154 = .ok (.iload_n 2, 1) := by decide +kernel
theorem dX1_count_155 : decode cX1_count 155 = .ok (.ireturn, 1) := by decide +kernel
theorem dX1_count_156 : decode cX1_count 156 = .ok (.iconst 0, 1) := by decide +kernel
theorem dX1_count_157 : decode cX1_count 157 = .ok (.istore_n 3, 1) := by decide +kernel
theorem dX1_count_158 : decode cX1_count 158 = .ok (.iload_n 3, 1) := by decide +kernel
theorem dX1_count_159 : decode cX1_count 159 = .ok (.aload_n 0, 1) := by decide +kernel
theorem dX1_count_160 : decode cX1_count 160 = .ok (.getfield 16, 3) := by decide +kernel
theorem dX1_count_163 : decode cX1_count 163 = .ok (.if_icmp .ge 25, 3) := by decide +kernel
theorem dX1_count_166 : decode cX1_count 166 = .ok (.iload_n 2, 1) := by decide +kernel
theorem dX1_count_167 : decode cX1_count 167 = .ok (.aload_n 0, 1) := by decide +kernel
theorem dX1_count_168 : decode cX1_count 168 = .ok (.iload_n 3, 1) := by decide +kernel
theorem dX1_count_169 : decode cX1_count 169 = .ok (.invokevirtual 145, 3) := by decide +kernel
theorem dX1_count_172 : decode cX1_count 172 = .ok (.ifCond .eq 7, 3) := by decide +kernel
theorem dX1_count_175 : decode cX1_count 175 = .ok (.iconst 1, 1) := by decide +kernel
theorem dX1_count_176 : decode cX1_count 176 = .ok (.goto 4, 3) := by decide +kernel
theorem dX1_count_179 : decode cX1_count 179 = .ok (.iconst 0, 1) := by decide +kernel
theorem dX1_count_180 : decode cX1_count 180 = .ok (.iadd, 1) := by decide +kernel
theorem dX1_count_181 : decode cX1_count 181 = .ok (.istore_n 2, 1) := by decide +kernel
theorem dX1_count_182 : decode cX1_count 182 = .ok (.iinc 3 1, 3) := by decide +kernel
theorem dX1_count_185 : decode cX1_count 185 = .ok (.goto (-27), 3) := by decide +kernel
theorem dX1_count_188 : decode cX1_count 188 = .ok (.iload_n 2, 1) := by decide +kernel
theorem dX1_count_189 : decode cX1_count 189 = .ok (.ireturn, 1) := by decide +kernel
theorem dX1_count_190 : decode cX1_count 190 = .ok (.iconst (-1), 1) := by decide +kernel
theorem dX1_count_191 : decode cX1_count 191 = .ok (.ireturn, 1) := by decide +kernel
theorem dJ6_bitCount_0f7a4_0 : decode cJ6_bitCount_0f7a4 0 = .ok (.iload_n 0, 1) := by decide +kernel
theorem dJ6_bitCount_0f7a4_1 : decode cJ6_bitCount_0f7a4 1 = .ok (.iload_n 0, 1) := by decide +kernel
theorem dJ6_bitCount_0f7a4_2 : decode cJ6_bitCount_0f7a4 2 = .ok (.iconst 1, 1) := by decide +kernel
theorem dJ6_bitCount_0f7a4_3 : decode cJ6_bitCount_0f7a4 3 = .ok (.iushr, 1) := by decide +kernel
theorem dJ6_bitCount_0f7a4_4 : decode cJ6_bitCount_0f7a4 4 = .ok (.ldc_w 265, 3) := by decide +kernel
theorem dJ6_bitCount_0f7a4_7 : decode cJ6_bitCount_0f7a4 7 = .ok (.iand, 1) := by decide +kernel
theorem dJ6_bitCount_0f7a4_8 : decode cJ6_bitCount_0f7a4 8 = .ok (.isub, 1) := by decide +kernel
theorem dJ6_bitCount_0f7a4_9 : decode cJ6_bitCount_0f7a4 9 = .ok (.istore_n 0, 1) := by decide +kernel
theorem dJ6_bitCount_0f7a4_10 : decode cJ6_bitCount_0f7a4 10 = .ok (.iload_n 0, 1) := by decide +kernel
theorem dJ6_bitCount_0f7a4_11 : decode cJ6_bitCount_0f7a4 11 = .ok (.ldc_w 266, 3) := by decide +kernel
theorem dJ6_bitCount_0f7a4_14 : decode cJ6_bitCount_0f7a4 14 = .ok (.iand, 1) := by decide +kernel
theorem dJ6_bitCount_0f7a4_15 : decode cJ6_bitCount_0f7a4 15 = .ok (.iload_n 0, 1) := by decide +kernel
theorem dJ6_bitCount_0f7a4_16 : decode cJ6_bitCount_0f7a4 16 = .ok (.iconst 2, 1) := by decide +kernel
theorem dJ6_bitCount_0f7a4_17 : decode cJ6_bitCount_0f7a4 17 = .ok (.iushr, 1) := by decide +kernel
theorem dJ6_bitCount_0f7a4_18 : decode cJ6_bitCount_0f7a4 18 = .ok (.ldc_w 266, 3) := by decide +kernel
theorem dJ6_bitCount_0f7a4_21 : decode cJ6_bitCount_0f7a4 21 = .ok (.iand, 1) := by decide +kernel
theorem dJ6_bitCount_0f7a4_22 : decode cJ6_bitCount_0f7a4 22 = .ok (.iadd, 1) := by decide +kernel
theorem dJ6_bitCount_0f7a4_23 : decode cJ6_bitCount_0f7a4 23 = .ok (.istore_n 0, 1) := by decide +kernel
theorem dJ6_bitCount_0f7a4_24 : decode cJ6_bitCount_0f7a4 24 = .ok (.iload_n 0, 1) := by decide +kernel
theorem dJ6_bitCount_0f7a4_25 : decode cJ6_bitCount_0f7a4 25 = .ok (.iload_n 0, 1) := by decide +kernel
theorem dJ6_bitCount_0f7a4_26 : decode cJ6_bitCount_0f7a4 26 = .ok (.iconst 4, 1) := by decide +kernel
theorem dJ6_bitCount_0f7a4_27 : decode cJ6_bitCount_0f7a4 27 = .ok (.iushr, 1) := by decide +kernel
theorem dJ6_bitCount_0f7a4_28 : decode cJ6_bitCount_0f7a4 28 = .ok (.iadd, 1) := by decide +kernel
theorem dJ6_bitCount_0f7a4_29 : decode cJ6_bitCount_0f7a4 29 = .ok (.ldc_w 267, 3) := by decide +kernel
theorem dJ6_bitCount_0f7a4_32 : decode cJ6_bitCount_0f7a4 32 = .ok (.iand, 1) := by decide +kernel
theorem dJ6_bitCount_0f7a4_33 : decode cJ6_bitCount_0f7a4 33 = .ok (.istore_n 0, 1) := by decide +kernel
theorem dJ6_bitCount_0f7a4_34 : decode cJ6_bitCount_0f7a4 34 = .ok (.iload_n 0, 1) := by decide +kernel
theorem dJ6_bitCount_0f7a4_35 : decode cJ6_bitCount_0f7a4 35 = .ok (.iload_n 0, 1) := by decide +kernel
theorem dJ6_bitCount_0f7a4_36 : decode cJ6_bitCount_0f7a4 36 = .ok (.bipush 8, 2) := by decide +kernel
theorem dJ6_bitCount_0f7a4_38 : decode cJ6_bitCount_0f7a4 38 = .ok (.iushr, 1) := by decide +kernel
theorem dJ6_bitCount_0f7a4_39 : decode cJ6_bitCount_0f7a4 39 = .ok (.iadd, 1) := by decide +kernel
theorem dJ6_bitCount_0f7a4_40 : decode cJ6_bitCount_0f7a4 40 = .ok (.istore_n 0, 1) := by decide +kernel
theorem dJ6_bitCount_0f7a4_41 : decode cJ6_bitCount_0f7a4 41 = .ok (.iload_n 0, 1) := by decide +kernel
theorem dJ6_bitCount_0f7a4_42 : decode cJ6_bitCount_0f7a4 42 = .ok (.iload_n 0, 1) := by decide +kernel
theorem dJ6_bitCount_0f7a4_43 : decode cJ6_bitCount_0f7a4 43 = .ok (.bipush 16, 2) := by decide +kernel
theorem dJ6_bitCount_0f7a4_45 : decode cJ6_bitCount_0f7a4 45 = .ok (.iushr, 1) := by decide +kernel
theorem dJ6_bitCount_0f7a4_46 : decode cJ6_bitCount_0f7a4 46 = .ok (.iadd, 1) := by decide +kernel
theorem dJ6_bitCount_0f7a4_47 : decode cJ6_bitCount_0f7a4 47 = .ok (.istore_n 0, 1) := by decide +kernel
theorem dJ6_bitCount_0f7a4_48 : decode cJ6_bitCount_0f7a4 48 = .ok (.iload_n 0, 1) := by decide +kernel
theorem dJ6_bitCount_0f7a4_49 : decode cJ6_bitCount_0f7a4 49 = .ok (.bipush 63, 2) := by decide +kernel
theorem dJ6_bitCount_0f7a4_51 : decode cJ6_bitCount_0f7a4 51 = .ok (.iand, 1) := by decide +kernel
theorem dJ6_bitCount_0f7a4_52 : decode cJ6_bitCount_0f7a4 52 = .ok (.ireturn, 1) := by decide +kernel
theorem dJ9_abs_067f4_0 : decode cJ9_abs_067f4 0 = .ok (.lload_n 0, 1) := by decide +kernel
theorem dJ9_abs_067f4_1 : decode cJ9_abs_067f4 1 = .ok (.lconst 0, 1) := by decide +kernel
theorem dJ9_abs_067f4_2 : decode cJ9_abs_067f4 2 = .ok (.lcmp, 1) := by decide +kernel
theorem dJ9_abs_067f4_3 : decode cJ9_abs_067f4 3 = .ok (.ifCond .ge 8, 3) := by decide +kernel
theorem dJ9_abs_067f4_6 : decode cJ9_abs_067f4 6 = .ok (.lload_n 0, 1) := by decide +kernel
theorem dJ9_abs_067f4_7 : decode cJ9_abs_067f4 7 = .ok (.lneg, 1) := by decide +kernel
theorem dJ9_abs_067f4_8 : decode cJ9_abs_067f4 8 = .ok (.goto 4, 3) := by decide +kernel
theorem dJ9_abs_067f4_11 : decode cJ9_abs_067f4 11 = .ok (.lload_n 0, 1) := by decide +kernel
theorem dJ9_abs_067f4_12 : decode cJ9_abs_067f4 12 = .ok (.lreturn, 1) := by decide +kernel
theorem dJ9_max_7cf53_0 : decode cJ9_max_7cf53 0 = .ok (.iload_n 0, 1) := by decide +kernel
theorem dJ9_max_7cf53_1 : decode cJ9_max_7cf53 1 = .ok (.iload_n 1, 1) := by decide +kernel
theorem dJ9_max_7cf53_2 : decode cJ9_max_7cf53 2 = .ok (.if_icmp .lt 7, 3) := by decide +kernel
theorem dJ9_max_7cf53_5 : decode cJ9_max_7cf53 5 = .ok (.iload_n 0, 1) := by decide +kernel
theorem dJ9_max_7cf53_6 : decode cJ9_max_7cf53 6 = .ok (.goto 4, 3) := by decide +kernel
theorem dJ9_max_7cf53_9 : decode cJ9_max_7cf53 9 = .ok (.iload_n 1, 1) := by decide +kernel
theorem dJ9_max_7cf53_10 : decode cJ9_max_7cf53 10 = .ok (.ireturn, 1) := by decide +kernel
theorem dJ9_min_7cf53_0 : decode cJ9_min_7cf53 0 = .ok (.iload_n 0, 1) := by decide +kernel
theorem dJ9_min_7cf53_1 : decode cJ9_min_7cf53 1 = .ok (.iload_n 1, 1) := by decide +kernel
theorem dJ9_min_7cf53_2 : decode cJ9_min_7cf53 2 = .ok (.if_icmp .gt 7, 3) := by decide +kernel
theorem dJ9_min_7cf53_5 : decode cJ9_min_7cf53 5 = .ok (.iload_n 0, 1) := by decide +kernel
theorem dJ9_min_7cf53_6 : decode cJ9_min_7cf53 6 = .ok (.goto 4, 3) := by decide +kernel
theorem dJ9_min_7cf53_9 : decode cJ9_min_7cf53 9 = .ok (.iload_n 1, 1) := by decide +kernel
theorem dJ9_min_7cf53_10 : decode cJ9_min_7cf53 10 = .ok (.ireturn, 1) := by decide +kernel
theorem dJ7_fill_53178_0 : decode cJ7_fill_53178 0 = .ok (.iconst 0, 1) := by decide +kernel
theorem dJ7_fill_53178_1 : decode cJ7_fill_53178 1 = .ok (.istore_n 2, 1) := by decide +kernel
theorem dJ7_fill_53178_2 : decode cJ7_fill_53178 2 = .ok (.aload_n 0, 1) := by decide +kernel
theorem dJ7_fill_53178_3 : decode cJ7_fill_53178 3 = .ok (.arraylength, 1) := by decide +kernel
theorem dJ7_fill_53178_4 : decode cJ7_fill_53178 4 = .ok (.istore_n 3, 1) := by decide +kernel
theorem dJ7_fill_53178_5 : decode cJ7_fill_53178 5 = .ok (.iload_n 2, 1) := by decide +kernel
theorem dJ7_fill_53178_6 : decode cJ7_fill_53178 6 = .ok (.iload_n 3, 1) := by decide +kernel
theorem dJ7_fill_53178_7 : decode cJ7_fill_53178 7 = .ok (.if_icmp .ge 13, 3) := by decide +kernel
theorem dJ7_fill_53178_10 : decode cJ7_fill_53178 10 = .ok (.aload_n 0, 1) := by decide +kernel
theorem dJ7_fill_53178_11 : decode cJ7_fill_53178 11 = .ok (.iload_n 2, 1) := by decide +kernel
theorem dJ7_fill_53178_12 : decode cJ7_fill_53178 12 = .ok (.iload_n 1, 1) := by decide +kernel
theorem dJ7_fill_53178_13 : decode cJ7_fill_53178 13 = .ok (.iastore, 1) := by decide +kernel
theorem dJ7_fill_53178_14 : decode cJ7_fill_53178 14 = .ok (.iinc 2 1, 3) := by decide +kernel
theorem dJ7_fill_53178_17 : decode cJ7_fill_53178 17 = .ok (.goto (-12), 3) := by decide +kernel
theorem dJ7_fill_53178_20 : decode cJ7_fill_53178 20 = .ok (.return_, 1) := by decide +kernel
end
section
theorem dL_law_0 : decode cL_law 0 = .ok (.new 7, 3) := by decide +kernel
theorem dL_law_3 : decode cL_law 3 = .ok (.dup, 1) := by decide +kernel
theorem dL_law_4 : decode cL_law 4 = .ok (.invokespecial 9, 3) := by decide +kernel
theorem dL_law_7 : decode cL_law 7 = .ok (.astore_n 1, 1) := by decide +kernel
theorem dL_law_8 : decode cL_law 8 = .ok (.new 10, 3) := by decide +kernel
theorem dL_law_11 : decode cL_law 11 = .ok (.dup, 1) := by decide +kernel
theorem dL_law_12 : decode cL_law 12 = .ok (.invokespecial 12, 3) := by decide +kernel
theorem dL_law_15 : decode cL_law 15 = .ok (.astore_n 2, 1) := by decide +kernel
theorem dL_law_16 : decode cL_law 16 = .ok (.iconst 0, 1) := by decide +kernel
theorem dL_law_17 : decode cL_law 17 = .ok (.istore_n 3, 1) := by decide +kernel
theorem dL_law_18 : decode cL_law 18 = .ok (.iload_n 3, 1) := by decide +kernel
theorem dL_law_19 : decode cL_law 19 = .ok (.aload_n 0, 1) := by decide +kernel
theorem dL_law_20 : decode cL_law 20 = .ok (.arraylength, 1) := by decide +kernel
theorem dL_law_21 : decode cL_law 21 = .ok (.iconst 5, 1) := by decide +kernel
theorem dL_law_22 : decode cL_law 22 = .ok (.isub, 1) := by decide +kernel
theorem dL_law_23 : decode cL_law 23 = .ok (.if_icmp .gt 1216, 3) := by decide +kernel
theorem dL_law_26 : decode cL_law 26 = .ok (.aload_n 0, 1) := by decide +kernel
theorem dL_law_27 : decode cL_law 27 = .ok (.iload_n 3, 1) := by decide +kernel
theorem dL_law_28 : decode cL_law 28 = .ok (.iaload, 1) := by decide +kernel
theorem dL_law_29 : decode cL_law 29 = .ok (.bipush 31, 2) := by decide +kernel
theorem dL_law_31 : decode cL_law 31 = .ok (.iand, 1) := by decide +kernel
theorem dL_law_32 : decode cL_law 32 = .ok (.tableswitch 1201 0 29 #[136, 179, 212, 245, 258, 291, 324, 357, 400, 433, 496, 529, 562, 585, 619, 643, 686, 719, 752, 785, 829, 883, 916, 959, 1012, 1046, 1069, 1102, 1135, 1178], 136) := by decide +kernel
theorem dL_law_168 : decode cL_law 168 = .ok (.aload_n 1, 1) := by decide +kernel
theorem dL_law_169 : decode cL_law 169 = .ok (.aload_n 0, 1) := by decide +kernel
theorem dL_law_170 : decode cL_law 170 = .ok (.iload_n 3, 1) := by decide +kernel
theorem dL_law_171 : decode cL_law 171 = .ok (.iconst 1, 1) := by decide +kernel
theorem dL_law_172 : decode cL_law 172 = .ok (.iadd, 1) := by decide +kernel
theorem dL_law_173 : decode cL_law 173 = .ok (.iaload, 1) := by decide +kernel
theorem dL_law_174 : decode cL_law 174 = .ok (.aload_n 0, 1) := by decide +kernel
theorem dL_law_175 : decode cL_law 175 = .ok (.iload_n 3, 1) := by decide +kernel
theorem dL_law_176 : decode cL_law 176 = .ok (.iconst 2, 1) := by decide +kernel
theorem dL_law_177 : decode cL_law 177 = .ok (.iadd, 1) := by decide +kernel
theorem dL_law_178 : decode cL_law 178 = .ok (.iaload, 1) := by decide +kernel
theorem dL_law_179 : decode cL_law 179 = .ok (.aload_n 0, 1) := by decide +kernel
theorem dL_law_180 : decode cL_law 180 = .ok (.iload_n 3, 1) := by decide +kernel
theorem dL_law_181 : decode cL_law 181 = .ok (.iconst 3, 1) := by decide +kernel
theorem dL_law_182 : decode cL_law 182 = .ok (.iadd, 1) := by decide +kernel
theorem dL_law_183 : decode cL_law 183 = .ok (.iaload, 1) := by decide +kernel
theorem dL_law_184 : decode cL_law 184 = .ok (.invokevirtual 13, 3) := by decide +kernel
theorem dL_law_187 : decode cL_law 187 = .ok (.aload_n 2, 1) := by decide +kernel
theorem dL_law_188 : decode cL_law 188 = .ok (.aload_n 0, 1) := by decide +kernel
theorem dL_law_189 : decode cL_law 189 = .ok (.iload_n 3, 1) := by decide +kernel
theorem dL_law_190 : decode cL_law 190 = .ok (.iconst 1, 1) := by decide +kernel
theorem dL_law_191 : decode cL_law 191 = .ok (.iadd, 1) := by decide +kernel
theorem dL_law_192 : decode cL_law 192 = .ok (.iaload, 1) := by decide +kernel
theorem dL_law_193 : decode cL_law 193 = .ok (.aload_n 0, 1) := by decide +kernel
theorem dL_law_194 : decode cL_law 194 = .ok (.iload_n 3, 1) := by decide +kernel
theorem dL_law_195 : decode cL_law 195 = .ok (.iconst 2, 1) := by decide +kernel
theorem dL_law_196 : decode cL_law 196 = .ok (.iadd, 1) := by decide +kernel
theorem dL_law_197 : decode cL_law 197 = .ok (.iaload, 1) := by decide +kernel
theorem dL_law_198 : decode cL_law 198 = .ok (.aload_n 0, 1) := by decide +kernel
theorem dL_law_199 : decode cL_law 199 = .ok (.iload_n 3, 1) := by decide +kernel
theorem dL_law_200 : decode cL_law 200 = .ok (.iconst 3, 1) := by decide +kernel
theorem dL_law_201 : decode cL_law 201 = .ok (.iadd, 1) := by decide +kernel
theorem dL_law_202 : decode cL_law 202 = .ok (.iaload, 1) := by decide +kernel
theorem dL_law_203 : decode cL_law 203 = .ok (.invokevirtual 17, 3) := by decide +kernel
theorem dL_law_206 : decode cL_law 206 = .ok (.if_icmp .eq 1027, 3) := by decide +kernel
theorem dL_law_209 : decode cL_law 209 = .ok (.iconst 0, 1) := by decide +kernel
theorem dL_law_210 : decode cL_law 210 = .ok (.ireturn, 1) := by decide +kernel
theorem dL_law_211 : decode cL_law 211 = .ok (.aload_n 1, 1) := by decide +kernel
theorem dL_law_212 : decode cL_law 212 = .ok (.aload_n 0, 1) := by decide +kernel
theorem dL_law_213 : decode cL_law 213 = .ok (.iload_n 3, 1) := by decide +kernel
theorem dL_law_214 : decode cL_law 214 = .ok (.iconst 1, 1) := by decide +kernel
theorem dL_law_215 : decode cL_law 215 = .ok (.iadd, 1) := by decide +kernel
theorem dL_law_216 : decode cL_law 216 = .ok (.iaload, 1) := by decide +kernel
theorem dL_law_217 : decode cL_law 217 = .ok (.aload_n 0, 1) := by decide +kernel
theorem dL_law_218 : decode cL_law 218 = .ok (.iload_n 3, 1) := by decide +kernel
theorem dL_law_219 : decode cL_law 219 = .ok (.iconst 2, 1) := by decide +kernel
theorem dL_law_220 : decode cL_law 220 = .ok (.iadd, 1) := by decide +kernel
theorem dL_law_221 : decode cL_law 221 = .ok (.iaload, 1) := by decide +kernel
theorem dL_law_222 : decode cL_law 222 = .ok (.invokevirtual 18, 3) := by decide +kernel
theorem dL_law_225 : decode cL_law 225 = .ok (.aload_n 2, 1) := by decide +kernel
theorem dL_law_226 : decode cL_law 226 = .ok (.aload_n 0, 1) := by decide +kernel
theorem dL_law_227 : decode cL_law 227 = .ok (.iload_n 3, 1) := by decide +kernel
theorem dL_law_228 : decode cL_law 228 = .ok (.iconst 1, 1) := by decide +kernel
theorem dL_law_229 : decode cL_law 229 = .ok (.iadd, 1) := by decide +kernel
theorem dL_law_230 : decode cL_law 230 = .ok (.iaload, 1) := by decide +kernel
theorem dL_law_231 : decode cL_law 231 = .ok (.aload_n 0, 1) := by decide +kernel
theorem dL_law_232 : decode cL_law 232 = .ok (.iload_n 3, 1) := by decide +kernel
theorem dL_law_233 : decode cL_law 233 = .ok (.iconst 2, 1) := by decide +kernel
theorem dL_law_234 : decode cL_law 234 = .ok (.iadd, 1) := by decide +kernel
theorem dL_law_235 : decode cL_law 235 = .ok (.iaload, 1) := by decide +kernel
theorem dL_law_236 : decode cL_law 236 = .ok (.invokevirtual 22, 3) := by decide +kernel
theorem dL_law_239 : decode cL_law 239 = .ok (.if_icmp .eq 994, 3) := by decide +kernel
theorem dL_law_242 : decode cL_law 242 = .ok (.iconst 0, 1) := by decide +kernel
theorem dL_law_243 : decode cL_law 243 = .ok (.ireturn, 1) := by decide +kernel
theorem dL_law_244 : decode cL_law 244 = .ok (.aload_n 1, 1) := by decide +kernel
theorem dL_law_245 : decode cL_law 245 = .ok (.aload_n 0, 1) := by decide +kernel
theorem dL_law_246 : decode cL_law 246 = .ok (.iload_n 3, 1) := by decide +kernel
theorem dL_law_247 : decode cL_law 247 = .ok (.iconst 1, 1) := by decide +kernel
theorem dL_law_248 : decode cL_law 248 = .ok (.iadd, 1) := by decide +kernel
theorem dL_law_249 : decode cL_law 249 = .ok (.iaload, 1) := by decide +kernel
theorem dL_law_250 : decode cL_law 250 = .ok (.aload_n 0, 1) := by decide +kernel
theorem dL_law_251 : decode cL_law 251 = .ok (.iload_n 3, 1) := by decide +kernel
theorem dL_law_252 : decode cL_law 252 = .ok (.iconst 2, 1) := by decide +kernel
theorem dL_law_253 : decode cL_law 253 = .ok (.iadd, 1) := by decide +kernel
theorem dL_law_254 : decode cL_law 254 = .ok (.iaload, 1) := by decide +kernel
theorem dL_law_255 : decode cL_law 255 = .ok (.invokevirtual 23, 3) := by decide +kernel
theorem dL_law_258 : decode cL_law 258 = .ok (.aload_n 2, 1) := by decide +kernel
theorem dL_law_259 : decode cL_law 259 = .ok (.aload_n 0, 1) := by decide +kernel
theorem dL_law_260 : decode cL_law 260 = .ok (.iload_n 3, 1) := by decide +kernel
theorem dL_law_261 : decode cL_law 261 = .ok (.iconst 1, 1) := by decide +kernel
theorem dL_law_262 : decode cL_law 262 = .ok (.iadd, 1) := by decide +kernel
theorem dL_law_263 : decode cL_law 263 = .ok (.iaload, 1) := by decide +kernel
theorem dL_law_264 : decode cL_law 264 = .ok (.aload_n 0, 1) := by decide +kernel
theorem dL_law_265 : decode cL_law 265 = .ok (.iload_n 3, 1) := by decide +kernel
theorem dL_law_266 : decode cL_law 266 = .ok (.iconst 2, 1) := by decide +kernel
theorem dL_law_267 : decode cL_law 267 = .ok (.iadd, 1) := by decide +kernel
theorem dL_law_268 : decode cL_law 268 = .ok (.iaload, 1) := by decide +kernel
theorem dL_law_269 : decode cL_law 269 = .ok (.invokevirtual 26, 3) := by decide +kernel
theorem dL_law_272 : decode cL_law 272 = .ok (.if_icmp .eq 961, 3) := by decide +kernel
theorem dL_law_275 : decode cL_law 275 = .ok (.iconst 0, 1) := by decide +kernel
theorem dL_law_276 : decode cL_law 276 = .ok (.ireturn, 1) := by decide +kernel
theorem dL_law_277 : decode cL_law 277 = .ok (.aload_n 1, 1) := by decide +kernel
theorem dL_law_278 : decode cL_law 278 = .ok (.invokevirtual 27, 3) := by decide +kernel
theorem dL_law_281 : decode cL_law 281 = .ok (.aload_n 2, 1) := by decide +kernel
theorem dL_law_282 : decode cL_law 282 = .ok (.invokevirtual 31, 3) := by decide +kernel
theorem dL_law_285 : decode cL_law 285 = .ok (.if_icmp .eq 948, 3) := by decide +kernel
theorem dL_law_288 : decode cL_law 288 = .ok (.iconst 0, 1) := by decide +kernel
theorem dL_law_289 : decode cL_law 289 = .ok (.ireturn, 1) := by decide +kernel
theorem dL_law_290 : decode cL_law 290 = .ok (.aload_n 1, 1) := by decide +kernel
theorem dL_law_291 : decode cL_law 291 = .ok (.aload_n 0, 1) := by decide +kernel
theorem dL_law_292 : decode cL_law 292 = .ok (.iload_n 3, 1) := by decide +kernel
theorem dL_law_293 : decode cL_law 293 = .ok (.iconst 1, 1) := by decide +kernel
theorem dL_law_294 : decode cL_law 294 = .ok (.iadd, 1) := by decide +kernel
theorem dL_law_295 : decode cL_law 295 = .ok (.iaload, 1) := by decide +kernel
theorem dL_law_296 : decode cL_law 296 = .ok (.aload_n 0, 1) := by decide +kernel
theorem dL_law_297 : decode cL_law 297 = .ok (.iload_n 3, 1) := by decide +kernel
theorem dL_law_298 : decode cL_law 298 = .ok (.iconst 2, 1) := by decide +kernel
theorem dL_law_299 : decode cL_law 299 = .ok (.iadd, 1) := by decide +kernel
theorem dL_law_300 : decode cL_law 300 = .ok (.iaload, 1) := by decide +kernel
theorem dL_law_301 : decode cL_law 301 = .ok (.invokevirtual 32, 3) := by decide +kernel
theorem dL_law_304 : decode cL_law 304 = .ok (.aload_n 2, 1) := by decide +kernel
theorem dL_law_305 : decode cL_law 305 = .ok (.aload_n 0, 1) := by decide +kernel
theorem dL_law_306 : decode cL_law 306 = .ok (.iload_n 3, 1) := by decide +kernel
theorem dL_law_307 : decode cL_law 307 = .ok (.iconst 1, 1) := by decide +kernel
theorem dL_law_308 : decode cL_law 308 = .ok (.iadd, 1) := by decide +kernel
theorem dL_law_309 : decode cL_law 309 = .ok (.iaload, 1) := by decide +kernel
theorem dL_law_310 : decode cL_law 310 = .ok (.aload_n 0, 1) := by decide +kernel
theorem dL_law_311 : decode cL_law 311 = .ok (.iload_n 3, 1) := by decide +kernel
theorem dL_law_312 : decode cL_law 312 = .ok (.iconst 2, 1) := by decide +kernel
theorem dL_law_313 : decode cL_law 313 = .ok (.iadd, 1) := by decide +kernel
theorem dL_law_314 : decode cL_law 314 = .ok (.iaload, 1) := by decide +kernel
theorem dL_law_315 : decode cL_law 315 = .ok (.invokevirtual 35, 3) := by decide +kernel
theorem dL_law_318 : decode cL_law 318 = .ok (.if_icmp .eq 915, 3) := by decide +kernel
theorem dL_law_321 : decode cL_law 321 = .ok (.iconst 0, 1) := by decide +kernel
theorem dL_law_322 : decode cL_law 322 = .ok (.ireturn, 1) := by decide +kernel
theorem dL_law_323 : decode cL_law 323 = .ok (.aload_n 1, 1) := by decide +kernel
theorem dL_law_324 : decode cL_law 324 = .ok (.aload_n 0, 1) := by decide +kernel
theorem dL_law_325 : decode cL_law 325 = .ok (.iload_n 3, 1) := by decide +kernel
theorem dL_law_326 : decode cL_law 326 = .ok (.iconst 1, 1) := by decide +kernel
theorem dL_law_327 : decode cL_law 327 = .ok (.iadd, 1) := by decide +kernel
theorem dL_law_328 : decode cL_law 328 = .ok (.iaload, 1) := by decide +kernel
theorem dL_law_329 : decode cL_law 329 = .ok (.aload_n 0, 1) := by decide +kernel
theorem dL_law_330 : decode cL_law 330 = .ok (.iload_n 3, 1) := by decide +kernel
theorem dL_law_331 : decode cL_law 331 = .ok (.iconst 2, 1) := by decide +kernel
theorem dL_law_332 : decode cL_law 332 = .ok (.iadd, 1) := by decide +kernel
theorem dL_law_333 : decode cL_law 333 = .ok (.iaload, 1) := by decide +kernel
theorem dL_law_334 : decode cL_law 334 = .ok (.invokevirtual 36, 3) := by decide +kernel
theorem dL_law_337 : decode cL_law 337 = .ok (.aload_n 2, 1) := by decide +kernel
theorem dL_law_338 : decode cL_law 338 = .ok (.aload_n 0, 1) := by decide +kernel
theorem dL_law_339 : decode cL_law 339 = .ok (.iload_n 3, 1) := by decide +kernel
theorem dL_law_340 : decode cL_law 340 = .ok (.iconst 1, 1) := by decide +kernel
theorem dL_law_341 : decode cL_law 341 = .ok (.iadd, 1) := by decide +kernel
theorem dL_law_342 : decode cL_law 342 = .ok (.iaload, 1) := by decide +kernel
theorem dL_law_343 : decode cL_law 343 = .ok (.aload_n 0, 1) := by decide +kernel
theorem dL_law_344 : decode cL_law 344 = .ok (.iload_n 3, 1) := by decide +kernel
theorem dL_law_345 : decode cL_law 345 = .ok (.iconst 2, 1) := by decide +kernel
theorem dL_law_346 : decode cL_law 346 = .ok (.iadd, 1) := by decide +kernel
theorem dL_law_347 : decode cL_law 347 = .ok (.iaload, 1) := by decide +kernel
theorem dL_law_348 : decode cL_law 348 = .ok (.invokevirtual 39, 3) := by decide +kernel
theorem dL_law_351 : decode cL_law 351 = .ok (.if_icmp .eq 882, 3) := by decide +kernel
theorem dL_law_354 : decode cL_law 354 = .ok (.iconst 0, 1) := by decide +kernel
theorem dL_law_355 : decode cL_law 355 = .ok (.ireturn, 1) := by decide +kernel
theorem dL_law_356 : decode cL_law 356 = .ok (.aload_n 1, 1) := by decide +kernel
theorem dL_law_357 : decode cL_law 357 = .ok (.aload_n 0, 1) := by decide +kernel
theorem dL_law_358 : decode cL_law 358 = .ok (.iload_n 3, 1) := by decide +kernel
theorem dL_law_359 : decode cL_law 359 = .ok (.iconst 1, 1) := by decide +kernel
theorem dL_law_360 : decode cL_law 360 = .ok (.iadd, 1) := by decide +kernel
theorem dL_law_361 : decode cL_law 361 = .ok (.iaload, 1) := by decide +kernel
theorem dL_law_362 : decode cL_law 362 = .ok (.aload_n 0, 1) := by decide +kernel
theorem dL_law_363 : decode cL_law 363 = .ok (.iload_n 3, 1) := by decide +kernel
theorem dL_law_364 : decode cL_law 364 = .ok (.iconst 2, 1) := by decide +kernel
theorem dL_law_365 : decode cL_law 365 = .ok (.iadd, 1) := by decide +kernel
theorem dL_law_366 : decode cL_law 366 = .ok (.iaload, 1) := by decide +kernel
theorem dL_law_367 : decode cL_law 367 = .ok (.invokevirtual 40, 3) := by decide +kernel
theorem dL_law_370 : decode cL_law 370 = .ok (.aload_n 2, 1) := by decide +kernel
theorem dL_law_371 : decode cL_law 371 = .ok (.aload_n 0, 1) := by decide +kernel
theorem dL_law_372 : decode cL_law 372 = .ok (.iload_n 3, 1) := by decide +kernel
theorem dL_law_373 : decode cL_law 373 = .ok (.iconst 1, 1) := by decide +kernel
theorem dL_law_374 : decode cL_law 374 = .ok (.iadd, 1) := by decide +kernel
theorem dL_law_375 : decode cL_law 375 = .ok (.iaload, 1) := by decide +kernel
theorem dL_law_376 : decode cL_law 376 = .ok (.aload_n 0, 1) := by decide +kernel
theorem dL_law_377 : decode cL_law 377 = .ok (.iload_n 3, 1) := by decide +kernel
theorem dL_law_378 : decode cL_law 378 = .ok (.iconst 2, 1) := by decide +kernel
theorem dL_law_379 : decode cL_law 379 = .ok (.iadd, 1) := by decide +kernel
theorem dL_law_380 : decode cL_law 380 = .ok (.iaload, 1) := by decide +kernel
theorem dL_law_381 : decode cL_law 381 = .ok (.invokevirtual 43, 3) := by decide +kernel
theorem dL_law_384 : decode cL_law 384 = .ok (.if_icmp .eq 849, 3) := by decide +kernel
theorem dL_law_387 : decode cL_law 387 = .ok (.iconst 0, 1) := by decide +kernel
theorem dL_law_388 : decode cL_law 388 = .ok (.ireturn, 1) := by decide +kernel
theorem dL_law_389 : decode cL_law 389 = .ok (.aload_n 1, 1) := by decide +kernel
theorem dL_law_390 : decode cL_law 390 = .ok (.aload_n 0, 1) := by decide +kernel
theorem dL_law_391 : decode cL_law 391 = .ok (.iload_n 3, 1) := by decide +kernel
theorem dL_law_392 : decode cL_law 392 = .ok (.iconst 1, 1) := by decide +kernel
theorem dL_law_393 : decode cL_law 393 = .ok (.iadd, 1) := by decide +kernel
theorem dL_law_394 : decode cL_law 394 = .ok (.iaload, 1) := by decide +kernel
theorem dL_law_395 : decode cL_law 395 = .ok (.aload_n 0, 1) := by decide +kernel
theorem dL_law_396 : decode cL_law 396 = .ok (.iload_n 3, 1) := by decide +kernel
theorem dL_law_397 : decode cL_law 397 = .ok (.iconst 2, 1) := by decide +kernel
theorem dL_law_398 : decode cL_law 398 = .ok (.iadd, 1) := by decide +kernel
theorem dL_law_399 : decode cL_law 399 = .ok (.iaload, 1) := by decide +kernel
theorem dL_law_400 : decode cL_law 400 = .ok (.aload_n 0, 1) := by decide +kernel
theorem dL_law_401 : decode cL_law 401 = .ok (.iload_n 3, 1) := by decide +kernel
theorem dL_law_402 : decode cL_law 402 = .ok (.iconst 3, 1) := by decide +kernel
theorem dL_law_403 : decode cL_law 403 = .ok (.iadd, 1) := by decide +kernel
theorem dL_law_404 : decode cL_law 404 = .ok (.iaload, 1) := by decide +kernel
theorem dL_law_405 : decode cL_law 405 = .ok (.invokevirtual 44, 3) := by decide +kernel
theorem dL_law_408 : decode cL_law 408 = .ok (.aload_n 2, 1) := by decide +kernel
theorem dL_law_409 : decode cL_law 409 = .ok (.aload_n 0, 1) := by decide +kernel
theorem dL_law_410 : decode cL_law 410 = .ok (.iload_n 3, 1) := by decide +kernel
theorem dL_law_411 : decode cL_law 411 = .ok (.iconst 1, 1) := by decide +kernel
theorem dL_law_412 : decode cL_law 412 = .ok (.iadd, 1) := by decide +kernel
theorem dL_law_413 : decode cL_law 413 = .ok (.iaload, 1) := by decide +kernel
theorem dL_law_414 : decode cL_law 414 = .ok (.aload_n 0, 1) := by decide +kernel
theorem dL_law_415 : decode cL_law 415 = .ok (.iload_n 3, 1) := by decide +kernel
theorem dL_law_416 : decode cL_law 416 = .ok (.iconst 2, 1) := by decide +kernel
theorem dL_law_417 : decode cL_law 417 = .ok (.iadd, 1) := by decide +kernel
theorem dL_law_418 : decode cL_law 418 = .ok (.iaload, 1) := by decide +kernel
theorem dL_law_419 : decode cL_law 419 = .ok (.aload_n 0, 1) := by decide +kernel
theorem dL_law_420 : decode cL_law 420 = .ok (.iload_n 3, 1) := by decide +kernel
theorem dL_law_421 : decode cL_law 421 = .ok (.iconst 3, 1) := by decide +kernel
theorem dL_law_422 : decode cL_law 422 = .ok (.iadd, 1) := by decide +kernel
theorem dL_law_423 : decode cL_law 423 = .ok (.iaload, 1) := by decide +kernel
theorem dL_law_424 : decode cL_law 424 = .ok (.invokevirtual 47, 3) := by decide +kernel
theorem dL_law_427 : decode cL_law 427 = .ok (.if_icmp .eq 806, 3) := by decide +kernel
theorem dL_law_430 : decode cL_law 430 = .ok (.iconst 0, 1) := by decide +kernel
theorem dL_law_431 : decode cL_law 431 = .ok (.ireturn, 1) := by decide +kernel
theorem dL_law_432 : decode cL_law 432 = .ok (.aload_n 1, 1) := by decide +kernel
theorem dL_law_433 : decode cL_law 433 = .ok (.aload_n 0, 1) := by decide +kernel
theorem dL_law_434 : decode cL_law 434 = .ok (.iload_n 3, 1) := by decide +kernel
theorem dL_law_435 : decode cL_law 435 = .ok (.iconst 1, 1) := by decide +kernel
theorem dL_law_436 : decode cL_law 436 = .ok (.iadd, 1) := by decide +kernel
theorem dL_law_437 : decode cL_law 437 = .ok (.iaload, 1) := by decide +kernel
theorem dL_law_438 : decode cL_law 438 = .ok (.aload_n 0, 1) := by decide +kernel
theorem dL_law_439 : decode cL_law 439 = .ok (.iload_n 3, 1) := by decide +kernel
theorem dL_law_440 : decode cL_law 440 = .ok (.iconst 2, 1) := by decide +kernel
theorem dL_law_441 : decode cL_law 441 = .ok (.iadd, 1) := by decide +kernel
theorem dL_law_442 : decode cL_law 442 = .ok (.iaload, 1) := by decide +kernel
theorem dL_law_443 : decode cL_law 443 = .ok (.invokevirtual 48, 3) := by decide +kernel
theorem dL_law_446 : decode cL_law 446 = .ok (.aload_n 2, 1) := by decide +kernel
theorem dL_law_447 : decode cL_law 447 = .ok (.aload_n 0, 1) := by decide +kernel
theorem dL_law_448 : decode cL_law 448 = .ok (.iload_n 3, 1) := by decide +kernel
theorem dL_law_449 : decode cL_law 449 = .ok (.iconst 1, 1) := by decide +kernel
theorem dL_law_450 : decode cL_law 450 = .ok (.iadd, 1) := by decide +kernel
theorem dL_law_451 : decode cL_law 451 = .ok (.iaload, 1) := by decide +kernel
theorem dL_law_452 : decode cL_law 452 = .ok (.aload_n 0, 1) := by decide +kernel
theorem dL_law_453 : decode cL_law 453 = .ok (.iload_n 3, 1) := by decide +kernel
theorem dL_law_454 : decode cL_law 454 = .ok (.iconst 2, 1) := by decide +kernel
theorem dL_law_455 : decode cL_law 455 = .ok (.iadd, 1) := by decide +kernel
theorem dL_law_456 : decode cL_law 456 = .ok (.iaload, 1) := by decide +kernel
theorem dL_law_457 : decode cL_law 457 = .ok (.invokevirtual 51, 3) := by decide +kernel
theorem dL_law_460 : decode cL_law 460 = .ok (.if_icmp .eq 773, 3) := by decide +kernel
theorem dL_law_463 : decode cL_law 463 = .ok (.iconst 0, 1) := by decide +kernel
theorem dL_law_464 : decode cL_law 464 = .ok (.ireturn, 1) := by decide +kernel
theorem dL_law_465 : decode cL_law 465 = .ok (.aload_n 1, 1) := by decide +kernel
theorem dL_law_466 : decode cL_law 466 = .ok (.aload_n 0, 1) := by decide +kernel
theorem dL_law_467 : decode cL_law 467 = .ok (.iload_n 3, 1) := by decide +kernel
theorem dL_law_468 : decode cL_law 468 = .ok (.iconst 1, 1) := by decide +kernel
theorem dL_law_469 : decode cL_law 469 = .ok (.iadd, 1) := by decide +kernel
theorem dL_law_470 : decode cL_law 470 = .ok (.iaload, 1) := by decide +kernel
theorem dL_law_471 : decode cL_law 471 = .ok (.aload_n 0, 1) := by decide +kernel
theorem dL_law_472 : decode cL_law 472 = .ok (.iload_n 3, 1) := by decide +kernel
theorem dL_law_473 : decode cL_law 473 = .ok (.iconst 2, 1) := by decide +kernel
theorem dL_law_474 : decode cL_law 474 = .ok (.iadd, 1) := by decide +kernel
theorem dL_law_475 : decode cL_law 475 = .ok (.iaload, 1) := by decide +kernel
theorem dL_law_476 : decode cL_law 476 = .ok (.i2l, 1) := by decide +kernel
theorem dL_law_477 : decode cL_law 477 = .ok (.bipush 32, 2) := by decide +kernel
theorem dL_law_479 : decode cL_law 479 = .ok (.lshl, 1) := by decide +kernel
theorem dL_law_480 : decode cL_law 480 = .ok (.aload_n 0, 1) := by decide +kernel
theorem dL_law_481 : decode cL_law 481 = .ok (.iload_n 3, 1) := by decide +kernel
theorem dL_law_482 : decode cL_law 482 = .ok (.iconst 3, 1) := by decide +kernel
theorem dL_law_483 : decode cL_law 483 = .ok (.iadd, 1) := by decide +kernel
theorem dL_law_484 : decode cL_law 484 = .ok (.iaload, 1) := by decide +kernel
theorem dL_law_485 : decode cL_law 485 = .ok (.i2l, 1) := by decide +kernel
theorem dL_law_486 : decode cL_law 486 = .ok (.ldc2_w 52, 3) := by decide +kernel
theorem dL_law_489 : decode cL_law 489 = .ok (.land, 1) := by decide +kernel
theorem dL_law_490 : decode cL_law 490 = .ok (.lor, 1) := by decide +kernel
theorem dL_law_491 : decode cL_law 491 = .ok (.invokevirtual 54, 3) := by decide +kernel
theorem dL_law_494 : decode cL_law 494 = .ok (.aload_n 2, 1) := by decide +kernel
theorem dL_law_495 : decode cL_law 495 = .ok (.aload_n 0, 1) := by decide +kernel
theorem dL_law_496 : decode cL_law 496 = .ok (.iload_n 3, 1) := by decide +kernel
theorem dL_law_497 : decode cL_law 497 = .ok (.iconst 1, 1) := by decide +kernel
theorem dL_law_498 : decode cL_law 498 = .ok (.iadd, 1) := by decide +kernel
theorem dL_law_499 : decode cL_law 499 = .ok (.iaload, 1) := by decide +kernel
theorem dL_law_500 : decode cL_law 500 = .ok (.aload_n 0, 1) := by decide +kernel
theorem dL_law_501 : decode cL_law 501 = .ok (.iload_n 3, 1) := by decide +kernel
theorem dL_law_502 : decode cL_law 502 = .ok (.iconst 2, 1) := by decide +kernel
theorem dL_law_503 : decode cL_law 503 = .ok (.iadd, 1) := by decide +kernel
theorem dL_law_504 : decode cL_law 504 = .ok (.iaload, 1) := by decide +kernel
theorem dL_law_505 : decode cL_law 505 = .ok (.i2l, 1) := by decide +kernel
theorem dL_law_506 : decode cL_law 506 = .ok (.bipush 32, 2) := by decide +kernel
theorem dL_law_508 : decode cL_law 508 = .ok (.lshl, 1) := by decide +kernel
theorem dL_law_509 : decode cL_law 509 = .ok (.aload_n 0, 1) := by decide +kernel
theorem dL_law_510 : decode cL_law 510 = .ok (.iload_n 3, 1) := by decide +kernel
theorem dL_law_511 : decode cL_law 511 = .ok (.iconst 3, 1) := by decide +kernel
theorem dL_law_512 : decode cL_law 512 = .ok (.iadd, 1) := by decide +kernel
theorem dL_law_513 : decode cL_law 513 = .ok (.iaload, 1) := by decide +kernel
theorem dL_law_514 : decode cL_law 514 = .ok (.i2l, 1) := by decide +kernel
theorem dL_law_515 : decode cL_law 515 = .ok (.ldc2_w 52, 3) := by decide +kernel
theorem dL_law_518 : decode cL_law 518 = .ok (.land, 1) := by decide +kernel
theorem dL_law_519 : decode cL_law 519 = .ok (.lor, 1) := by decide +kernel
theorem dL_law_520 : decode cL_law 520 = .ok (.invokevirtual 58, 3) := by decide +kernel
theorem dL_law_523 : decode cL_law 523 = .ok (.if_icmp .eq 710, 3) := by decide +kernel
theorem dL_law_526 : decode cL_law 526 = .ok (.iconst 0, 1) := by decide +kernel
theorem dL_law_527 : decode cL_law 527 = .ok (.ireturn, 1) := by decide +kernel
theorem dL_law_528 : decode cL_law 528 = .ok (.aload_n 1, 1) := by decide +kernel
theorem dL_law_529 : decode cL_law 529 = .ok (.aload_n 0, 1) := by decide +kernel
theorem dL_law_530 : decode cL_law 530 = .ok (.iload_n 3, 1) := by decide +kernel
theorem dL_law_531 : decode cL_law 531 = .ok (.iconst 1, 1) := by decide +kernel
theorem dL_law_532 : decode cL_law 532 = .ok (.iadd, 1) := by decide +kernel
theorem dL_law_533 : decode cL_law 533 = .ok (.iaload, 1) := by decide +kernel
theorem dL_law_534 : decode cL_law 534 = .ok (.aload_n 0, 1) := by decide +kernel
theorem dL_law_535 : decode cL_law 535 = .ok (.iload_n 3, 1) := by decide +kernel
theorem dL_law_536 : decode cL_law 536 = .ok (.iconst 2, 1) := by decide +kernel
theorem dL_law_537 : decode cL_law 537 = .ok (.iadd, 1) := by decide +kernel
theorem dL_law_538 : decode cL_law 538 = .ok (.iaload, 1) := by decide +kernel
theorem dL_law_539 : decode cL_law 539 = .ok (.invokevirtual 59, 3) := by decide +kernel
theorem dL_law_542 : decode cL_law 542 = .ok (.aload_n 2, 1) := by decide +kernel
theorem dL_law_543 : decode cL_law 543 = .ok (.aload_n 0, 1) := by decide +kernel
theorem dL_law_544 : decode cL_law 544 = .ok (.iload_n 3, 1) := by decide +kernel
theorem dL_law_545 : decode cL_law 545 = .ok (.iconst 1, 1) := by decide +kernel
theorem dL_law_546 : decode cL_law 546 = .ok (.iadd, 1) := by decide +kernel
theorem dL_law_547 : decode cL_law 547 = .ok (.iaload, 1) := by decide +kernel
theorem dL_law_548 : decode cL_law 548 = .ok (.aload_n 0, 1) := by decide +kernel
theorem dL_law_549 : decode cL_law 549 = .ok (.iload_n 3, 1) := by decide +kernel
theorem dL_law_550 : decode cL_law 550 = .ok (.iconst 2, 1) := by decide +kernel
theorem dL_law_551 : decode cL_law 551 = .ok (.iadd, 1) := by decide +kernel
theorem dL_law_552 : decode cL_law 552 = .ok (.iaload, 1) := by decide +kernel
theorem dL_law_553 : decode cL_law 553 = .ok (.invokevirtual 62, 3) := by decide +kernel
theorem dL_law_556 : decode cL_law 556 = .ok (.if_icmp .eq 677, 3) := by decide +kernel
theorem dL_law_559 : decode cL_law 559 = .ok (.iconst 0, 1) := by decide +kernel
theorem dL_law_560 : decode cL_law 560 = .ok (.ireturn, 1) := by decide +kernel
theorem dL_law_561 : decode cL_law 561 = .ok (.aload_n 1, 1) := by decide +kernel
theorem dL_law_562 : decode cL_law 562 = .ok (.aload_n 0, 1) := by decide +kernel
theorem dL_law_563 : decode cL_law 563 = .ok (.iload_n 3, 1) := by decide +kernel
theorem dL_law_564 : decode cL_law 564 = .ok (.iconst 1, 1) := by decide +kernel
theorem dL_law_565 : decode cL_law 565 = .ok (.iadd, 1) := by decide +kernel
theorem dL_law_566 : decode cL_law 566 = .ok (.iaload, 1) := by decide +kernel
theorem dL_law_567 : decode cL_law 567 = .ok (.aload_n 0, 1) := by decide +kernel
theorem dL_law_568 : decode cL_law 568 = .ok (.iload_n 3, 1) := by decide +kernel
theorem dL_law_569 : decode cL_law 569 = .ok (.iconst 2, 1) := by decide +kernel
theorem dL_law_570 : decode cL_law 570 = .ok (.iadd, 1) := by decide +kernel
theorem dL_law_571 : decode cL_law 571 = .ok (.iaload, 1) := by decide +kernel
theorem dL_law_572 : decode cL_law 572 = .ok (.invokevirtual 63, 3) := by decide +kernel
theorem dL_law_575 : decode cL_law 575 = .ok (.aload_n 2, 1) := by decide +kernel
theorem dL_law_576 : decode cL_law 576 = .ok (.aload_n 0, 1) := by decide +kernel
theorem dL_law_577 : decode cL_law 577 = .ok (.iload_n 3, 1) := by decide +kernel
theorem dL_law_578 : decode cL_law 578 = .ok (.iconst 1, 1) := by decide +kernel
theorem dL_law_579 : decode cL_law 579 = .ok (.iadd, 1) := by decide +kernel
theorem dL_law_580 : decode cL_law 580 = .ok (.iaload, 1) := by decide +kernel
theorem dL_law_581 : decode cL_law 581 = .ok (.aload_n 0, 1) := by decide +kernel
theorem dL_law_582 : decode cL_law 582 = .ok (.iload_n 3, 1) := by decide +kernel
theorem dL_law_583 : decode cL_law 583 = .ok (.iconst 2, 1) := by decide +kernel
theorem dL_law_584 : decode cL_law 584 = .ok (.iadd, 1) := by decide +kernel
theorem dL_law_585 : decode cL_law 585 = .ok (.iaload, 1) := by decide +kernel
theorem dL_law_586 : decode cL_law 586 = .ok (.invokevirtual 66, 3) := by decide +kernel
theorem dL_law_589 : decode cL_law 589 = .ok (.if_icmp .eq 644, 3) := by decide +kernel
theorem dL_law_592 : decode cL_law 592 = .ok (.iconst 0, 1) := by decide +kernel
theorem dL_law_593 : decode cL_law 593 = .ok (.ireturn, 1) := by decide +kernel
theorem dL_law_594 : decode cL_law 594 = .ok (.aload_n 1, 1) := by decide +kernel
theorem dL_law_595 : decode cL_law 595 = .ok (.aload_n 0, 1) := by decide +kernel
theorem dL_law_596 : decode cL_law 596 = .ok (.iload_n 3, 1) := by decide +kernel
theorem dL_law_597 : decode cL_law 597 = .ok (.iconst 1, 1) := by decide +kernel
theorem dL_law_598 : decode cL_law 598 = .ok (.iadd, 1) := by decide +kernel
theorem dL_law_599 : decode cL_law 599 = .ok (.iaload, 1) := by decide +kernel
theorem dL_law_600 : decode cL_law 600 = .ok (.invokevirtual 67, 3) := by decide +kernel
theorem dL_law_603 : decode cL_law 603 = .ok (.aload_n 2, 1) := by decide +kernel
theorem dL_law_604 : decode cL_law 604 = .ok (.aload_n 0, 1) := by decide +kernel
theorem dL_law_605 : decode cL_law 605 = .ok (.iload_n 3, 1) := by decide +kernel
theorem dL_law_606 : decode cL_law 606 = .ok (.iconst 1, 1) := by decide +kernel
theorem dL_law_607 : decode cL_law 607 = .ok (.iadd, 1) := by decide +kernel
theorem dL_law_608 : decode cL_law 608 = .ok (.iaload, 1) := by decide +kernel
theorem dL_law_609 : decode cL_law 609 = .ok (.invokevirtual 71, 3) := by decide +kernel
theorem dL_law_612 : decode cL_law 612 = .ok (.if_icmp .eq 621, 3) := by decide +kernel
theorem dL_law_615 : decode cL_law 615 = .ok (.iconst 0, 1) := by decide +kernel
theorem dL_law_616 : decode cL_law 616 = .ok (.ireturn, 1) := by decide +kernel
theorem dL_law_617 : decode cL_law 617 = .ok (.aload_n 1, 1) := by decide +kernel
theorem dL_law_618 : decode cL_law 618 = .ok (.aload_n 0, 1) := by decide +kernel
theorem dL_law_619 : decode cL_law 619 = .ok (.iload_n 3, 1) := by decide +kernel
theorem dL_law_620 : decode cL_law 620 = .ok (.iconst 1, 1) := by decide +kernel
theorem dL_law_621 : decode cL_law 621 = .ok (.iadd, 1) := by decide +kernel
theorem dL_law_622 : decode cL_law 622 = .ok (.iaload, 1) := by decide +kernel
theorem dL_law_623 : decode cL_law 623 = .ok (.aload_n 0, 1) := by decide +kernel
theorem dL_law_624 : decode cL_law 624 = .ok (.iload_n 3, 1) := by decide +kernel
theorem dL_law_625 : decode cL_law 625 = .ok (.iconst 2, 1) := by decide +kernel
theorem dL_law_626 : decode cL_law 626 = .ok (.iadd, 1) := by decide +kernel
theorem dL_law_627 : decode cL_law 627 = .ok (.iaload, 1) := by decide +kernel
theorem dL_law_628 : decode cL_law 628 = .ok (.invokevirtual 72, 3) := by decide +kernel
theorem dL_law_631 : decode cL_law 631 = .ok (.aload_n 2, 1) := by decide +kernel
theorem dL_law_632 : decode cL_law 632 = .ok (.aload_n 0, 1) := by decide +kernel
theorem dL_law_633 : decode cL_law 633 = .ok (.iload_n 3, 1) := by decide +kernel
theorem dL_law_634 : decode cL_law 634 = .ok (.iconst 1, 1) := by decide +kernel
theorem dL_law_635 : decode cL_law 635 = .ok (.iadd, 1) := by decide +kernel
theorem dL_law_636 : decode cL_law 636 = .ok (.iaload, 1) := by decide +kernel
theorem dL_law_637 : decode cL_law 637 = .ok (.aload_n 0, 1) := by decide +kernel
theorem dL_law_638 : decode cL_law 638 = .ok (.iload_n 3, 1) := by decide +kernel
theorem dL_law_639 : decode cL_law 639 = .ok (.iconst 2, 1) := by decide +kernel
theorem dL_law_640 : decode cL_law 640 = .ok (.iadd, 1) := by decide +kernel
theorem dL_law_641 : decode cL_law 641 = .ok (.iaload, 1) := by decide +kernel
theorem dL_law_642 : decode cL_law 642 = .ok (.invokevirtual 76, 3) := by decide +kernel
theorem dL_law_645 : decode cL_law 645 = .ok (.lcmp, 1) := by decide +kernel
theorem dL_law_646 : decode cL_law 646 = .ok (.ifCond .eq 587, 3) := by decide +kernel
theorem dL_law_649 : decode cL_law 649 = .ok (.iconst 0, 1) := by decide +kernel
theorem dL_law_650 : decode cL_law 650 = .ok (.ireturn, 1) := by decide +kernel
theorem dL_law_651 : decode cL_law 651 = .ok (.aload_n 1, 1) := by decide +kernel
theorem dL_law_652 : decode cL_law 652 = .ok (.aload_n 0, 1) := by decide +kernel
theorem dL_law_653 : decode cL_law 653 = .ok (.iload_n 3, 1) := by decide +kernel
theorem dL_law_654 : decode cL_law 654 = .ok (.iconst 1, 1) := by decide +kernel
theorem dL_law_655 : decode cL_law 655 = .ok (.iadd, 1) := by decide +kernel
theorem dL_law_656 : decode cL_law 656 = .ok (.iaload, 1) := by decide +kernel
theorem dL_law_657 : decode cL_law 657 = .ok (.invokevirtual 77, 3) := by decide +kernel
theorem dL_law_660 : decode cL_law 660 = .ok (.aload_n 2, 1) := by decide +kernel
theorem dL_law_661 : decode cL_law 661 = .ok (.aload_n 0, 1) := by decide +kernel
theorem dL_law_662 : decode cL_law 662 = .ok (.iload_n 3, 1) := by decide +kernel
theorem dL_law_663 : decode cL_law 663 = .ok (.iconst 1, 1) := by decide +kernel
theorem dL_law_664 : decode cL_law 664 = .ok (.iadd, 1) := by decide +kernel
theorem dL_law_665 : decode cL_law 665 = .ok (.iaload, 1) := by decide +kernel
theorem dL_law_666 : decode cL_law 666 = .ok (.invokevirtual 81, 3) := by decide +kernel
theorem dL_law_669 : decode cL_law 669 = .ok (.lcmp, 1) := by decide +kernel
theorem dL_law_670 : decode cL_law 670 = .ok (.ifCond .eq 563, 3) := by decide +kernel
theorem dL_law_673 : decode cL_law 673 = .ok (.iconst 0, 1) := by decide +kernel
theorem dL_law_674 : decode cL_law 674 = .ok (.ireturn, 1) := by decide +kernel
theorem dL_law_675 : decode cL_law 675 = .ok (.aload_n 1, 1) := by decide +kernel
theorem dL_law_676 : decode cL_law 676 = .ok (.aload_n 0, 1) := by decide +kernel
theorem dL_law_677 : decode cL_law 677 = .ok (.iload_n 3, 1) := by decide +kernel
theorem dL_law_678 : decode cL_law 678 = .ok (.iconst 1, 1) := by decide +kernel
theorem dL_law_679 : decode cL_law 679 = .ok (.iadd, 1) := by decide +kernel
theorem dL_law_680 : decode cL_law 680 = .ok (.iaload, 1) := by decide +kernel
theorem dL_law_681 : decode cL_law 681 = .ok (.aload_n 0, 1) := by decide +kernel
theorem dL_law_682 : decode cL_law 682 = .ok (.iload_n 3, 1) := by decide +kernel
theorem dL_law_683 : decode cL_law 683 = .ok (.iconst 2, 1) := by decide +kernel
theorem dL_law_684 : decode cL_law 684 = .ok (.iadd, 1) := by decide +kernel
theorem dL_law_685 : decode cL_law 685 = .ok (.iaload, 1) := by decide +kernel
theorem dL_law_686 : decode cL_law 686 = .ok (.aload_n 0, 1) := by decide +kernel
theorem dL_law_687 : decode cL_law 687 = .ok (.iload_n 3, 1) := by decide +kernel
theorem dL_law_688 : decode cL_law 688 = .ok (.iconst 3, 1) := by decide +kernel
theorem dL_law_689 : decode cL_law 689 = .ok (.iadd, 1) := by decide +kernel
theorem dL_law_690 : decode cL_law 690 = .ok (.iaload, 1) := by decide +kernel
theorem dL_law_691 : decode cL_law 691 = .ok (.invokevirtual 82, 3) := by decide +kernel
theorem dL_law_694 : decode cL_law 694 = .ok (.aload_n 2, 1) := by decide +kernel
theorem dL_law_695 : decode cL_law 695 = .ok (.aload_n 0, 1) := by decide +kernel
theorem dL_law_696 : decode cL_law 696 = .ok (.iload_n 3, 1) := by decide +kernel
theorem dL_law_697 : decode cL_law 697 = .ok (.iconst 1, 1) := by decide +kernel
theorem dL_law_698 : decode cL_law 698 = .ok (.iadd, 1) := by decide +kernel
theorem dL_law_699 : decode cL_law 699 = .ok (.iaload, 1) := by decide +kernel
theorem dL_law_700 : decode cL_law 700 = .ok (.aload_n 0, 1) := by decide +kernel
theorem dL_law_701 : decode cL_law 701 = .ok (.iload_n 3, 1) := by decide +kernel
theorem dL_law_702 : decode cL_law 702 = .ok (.iconst 2, 1) := by decide +kernel
theorem dL_law_703 : decode cL_law 703 = .ok (.iadd, 1) := by decide +kernel
theorem dL_law_704 : decode cL_law 704 = .ok (.iaload, 1) := by decide +kernel
theorem dL_law_705 : decode cL_law 705 = .ok (.aload_n 0, 1) := by decide +kernel
theorem dL_law_706 : decode cL_law 706 = .ok (.iload_n 3, 1) := by decide +kernel
theorem dL_law_707 : decode cL_law 707 = .ok (.iconst 3, 1) := by decide +kernel
theorem dL_law_708 : decode cL_law 708 = .ok (.iadd, 1) := by decide +kernel
theorem dL_law_709 : decode cL_law 709 = .ok (.iaload, 1) := by decide +kernel
theorem dL_law_710 : decode cL_law 710 = .ok (.invokevirtual 85, 3) := by decide +kernel
theorem dL_law_713 : decode cL_law 713 = .ok (.if_icmp .eq 520, 3) := by decide +kernel
theorem dL_law_716 : decode cL_law 716 = .ok (.iconst 0, 1) := by decide +kernel
theorem dL_law_717 : decode cL_law 717 = .ok (.ireturn, 1) := by decide +kernel
theorem dL_law_718 : decode cL_law 718 = .ok (.aload_n 1, 1) := by decide +kernel
theorem dL_law_719 : decode cL_law 719 = .ok (.aload_n 0, 1) := by decide +kernel
theorem dL_law_720 : decode cL_law 720 = .ok (.iload_n 3, 1) := by decide +kernel
theorem dL_law_721 : decode cL_law 721 = .ok (.iconst 1, 1) := by decide +kernel
theorem dL_law_722 : decode cL_law 722 = .ok (.iadd, 1) := by decide +kernel
theorem dL_law_723 : decode cL_law 723 = .ok (.iaload, 1) := by decide +kernel
theorem dL_law_724 : decode cL_law 724 = .ok (.aload_n 0, 1) := by decide +kernel
theorem dL_law_725 : decode cL_law 725 = .ok (.iload_n 3, 1) := by decide +kernel
theorem dL_law_726 : decode cL_law 726 = .ok (.iconst 2, 1) := by decide +kernel
theorem dL_law_727 : decode cL_law 727 = .ok (.iadd, 1) := by decide +kernel
theorem dL_law_728 : decode cL_law 728 = .ok (.iaload, 1) := by decide +kernel
theorem dL_law_729 : decode cL_law 729 = .ok (.invokevirtual 86, 3) := by decide +kernel
theorem dL_law_732 : decode cL_law 732 = .ok (.aload_n 2, 1) := by decide +kernel
theorem dL_law_733 : decode cL_law 733 = .ok (.aload_n 0, 1) := by decide +kernel
theorem dL_law_734 : decode cL_law 734 = .ok (.iload_n 3, 1) := by decide +kernel
theorem dL_law_735 : decode cL_law 735 = .ok (.iconst 1, 1) := by decide +kernel
theorem dL_law_736 : decode cL_law 736 = .ok (.iadd, 1) := by decide +kernel
theorem dL_law_737 : decode cL_law 737 = .ok (.iaload, 1) := by decide +kernel
theorem dL_law_738 : decode cL_law 738 = .ok (.aload_n 0, 1) := by decide +kernel
theorem dL_law_739 : decode cL_law 739 = .ok (.iload_n 3, 1) := by decide +kernel
theorem dL_law_740 : decode cL_law 740 = .ok (.iconst 2, 1) := by decide +kernel
theorem dL_law_741 : decode cL_law 741 = .ok (.iadd, 1) := by decide +kernel
theorem dL_law_742 : decode cL_law 742 = .ok (.iaload, 1) := by decide +kernel
theorem dL_law_743 : decode cL_law 743 = .ok (.invokevirtual 89, 3) := by decide +kernel
theorem dL_law_746 : decode cL_law 746 = .ok (.if_icmp .eq 487, 3) := by decide +kernel
theorem dL_law_749 : decode cL_law 749 = .ok (.iconst 0, 1) := by decide +kernel
theorem dL_law_750 : decode cL_law 750 = .ok (.ireturn, 1) := by decide +kernel
theorem dL_law_751 : decode cL_law 751 = .ok (.aload_n 1, 1) := by decide +kernel
theorem dL_law_752 : decode cL_law 752 = .ok (.aload_n 0, 1) := by decide +kernel
theorem dL_law_753 : decode cL_law 753 = .ok (.iload_n 3, 1) := by decide +kernel
theorem dL_law_754 : decode cL_law 754 = .ok (.iconst 1, 1) := by decide +kernel
theorem dL_law_755 : decode cL_law 755 = .ok (.iadd, 1) := by decide +kernel
theorem dL_law_756 : decode cL_law 756 = .ok (.iaload, 1) := by decide +kernel
theorem dL_law_757 : decode cL_law 757 = .ok (.aload_n 0, 1) := by decide +kernel
theorem dL_law_758 : decode cL_law 758 = .ok (.iload_n 3, 1) := by decide +kernel
theorem dL_law_759 : decode cL_law 759 = .ok (.iconst 2, 1) := by decide +kernel
theorem dL_law_760 : decode cL_law 760 = .ok (.iadd, 1) := by decide +kernel
theorem dL_law_761 : decode cL_law 761 = .ok (.iaload, 1) := by decide +kernel
theorem dL_law_762 : decode cL_law 762 = .ok (.invokevirtual 90, 3) := by decide +kernel
theorem dL_law_765 : decode cL_law 765 = .ok (.aload_n 2, 1) := by decide +kernel
theorem dL_law_766 : decode cL_law 766 = .ok (.aload_n 0, 1) := by decide +kernel
theorem dL_law_767 : decode cL_law 767 = .ok (.iload_n 3, 1) := by decide +kernel
theorem dL_law_768 : decode cL_law 768 = .ok (.iconst 1, 1) := by decide +kernel
theorem dL_law_769 : decode cL_law 769 = .ok (.iadd, 1) := by decide +kernel
theorem dL_law_770 : decode cL_law 770 = .ok (.iaload, 1) := by decide +kernel
theorem dL_law_771 : decode cL_law 771 = .ok (.aload_n 0, 1) := by decide +kernel
theorem dL_law_772 : decode cL_law 772 = .ok (.iload_n 3, 1) := by decide +kernel
theorem dL_law_773 : decode cL_law 773 = .ok (.iconst 2, 1) := by decide +kernel
theorem dL_law_774 : decode cL_law 774 = .ok (.iadd, 1) := by decide +kernel
theorem dL_law_775 : decode cL_law 775 = .ok (.iaload, 1) := by decide +kernel
theorem dL_law_776 : decode cL_law 776 = .ok (.invokevirtual 93, 3) := by decide +kernel
theorem dL_law_779 : decode cL_law 779 = .ok (.if_icmp .eq 454, 3) := by decide +kernel
theorem dL_law_782 : decode cL_law 782 = .ok (.iconst 0, 1) := by decide +kernel
theorem dL_law_783 : decode cL_law 783 = .ok (.ireturn, 1) := by decide +kernel
theorem dL_law_784 : decode cL_law 784 = .ok (.aload_n 1, 1) := by decide +kernel
theorem dL_law_785 : decode cL_law 785 = .ok (.aload_n 0, 1) := by decide +kernel
theorem dL_law_786 : decode cL_law 786 = .ok (.iload_n 3, 1) := by decide +kernel
theorem dL_law_787 : decode cL_law 787 = .ok (.iconst 1, 1) := by decide +kernel
theorem dL_law_788 : decode cL_law 788 = .ok (.iadd, 1) := by decide +kernel
theorem dL_law_789 : decode cL_law 789 = .ok (.iaload, 1) := by decide +kernel
theorem dL_law_790 : decode cL_law 790 = .ok (.aload_n 0, 1) := by decide +kernel
theorem dL_law_791 : decode cL_law 791 = .ok (.iload_n 3, 1) := by decide +kernel
theorem dL_law_792 : decode cL_law 792 = .ok (.iconst 2, 1) := by decide +kernel
theorem dL_law_793 : decode cL_law 793 = .ok (.iadd, 1) := by decide +kernel
theorem dL_law_794 : decode cL_law 794 = .ok (.iaload, 1) := by decide +kernel
theorem dL_law_795 : decode cL_law 795 = .ok (.invokevirtual 94, 3) := by decide +kernel
theorem dL_law_798 : decode cL_law 798 = .ok (.aload_n 2, 1) := by decide +kernel
theorem dL_law_799 : decode cL_law 799 = .ok (.aload_n 0, 1) := by decide +kernel
theorem dL_law_800 : decode cL_law 800 = .ok (.iload_n 3, 1) := by decide +kernel
theorem dL_law_801 : decode cL_law 801 = .ok (.iconst 1, 1) := by decide +kernel
theorem dL_law_802 : decode cL_law 802 = .ok (.iadd, 1) := by decide +kernel
theorem dL_law_803 : decode cL_law 803 = .ok (.iaload, 1) := by decide +kernel
theorem dL_law_804 : decode cL_law 804 = .ok (.aload_n 0, 1) := by decide +kernel
theorem dL_law_805 : decode cL_law 805 = .ok (.iload_n 3, 1) := by decide +kernel
theorem dL_law_806 : decode cL_law 806 = .ok (.iconst 2, 1) := by decide +kernel
theorem dL_law_807 : decode cL_law 807 = .ok (.iadd, 1) := by decide +kernel
theorem dL_law_808 : decode cL_law 808 = .ok (.iaload, 1) := by decide +kernel
theorem dL_law_809 : decode cL_law 809 = .ok (.invokevirtual 97, 3) := by decide +kernel
theorem dL_law_812 : decode cL_law 812 = .ok (.if_icmp .eq 421, 3) := by decide +kernel
theorem dL_law_815 : decode cL_law 815 = .ok (.iconst 0, 1) := by decide +kernel
theorem dL_law_816 : decode cL_law 816 = .ok (.ireturn, 1) := by decide +kernel
theorem dL_law_817 : decode cL_law 817 = .ok (.aload_n 1, 1) := by decide +kernel
theorem dL_law_818 : decode cL_law 818 = .ok (.aload_n 0, 1) := by decide +kernel
theorem dL_law_819 : decode cL_law 819 = .ok (.iload_n 3, 1) := by decide +kernel
theorem dL_law_820 : decode cL_law 820 = .ok (.iconst 1, 1) := by decide +kernel
theorem dL_law_821 : decode cL_law 821 = .ok (.iadd, 1) := by decide +kernel
theorem dL_law_822 : decode cL_law 822 = .ok (.iaload, 1) := by decide +kernel
theorem dL_law_823 : decode cL_law 823 = .ok (.aload_n 0, 1) := by decide +kernel
theorem dL_law_824 : decode cL_law 824 = .ok (.iload_n 3, 1) := by decide +kernel
theorem dL_law_825 : decode cL_law 825 = .ok (.iconst 2, 1) := by decide +kernel
theorem dL_law_826 : decode cL_law 826 = .ok (.iadd, 1) := by decide +kernel
theorem dL_law_827 : decode cL_law 827 = .ok (.iaload, 1) := by decide +kernel
theorem dL_law_828 : decode cL_law 828 = .ok (.aload_n 0, 1) := by decide +kernel
theorem dL_law_829 : decode cL_law 829 = .ok (.iload_n 3, 1) := by decide +kernel
theorem dL_law_830 : decode cL_law 830 = .ok (.iconst 3, 1) := by decide +kernel
theorem dL_law_831 : decode cL_law 831 = .ok (.iadd, 1) := by decide +kernel
theorem dL_law_832 : decode cL_law 832 = .ok (.iaload, 1) := by decide +kernel
theorem dL_law_833 : decode cL_law 833 = .ok (.invokevirtual 98, 3) := by decide +kernel
theorem dL_law_836 : decode cL_law 836 = .ok (.aload_n 2, 1) := by decide +kernel
theorem dL_law_837 : decode cL_law 837 = .ok (.aload_n 0, 1) := by decide +kernel
theorem dL_law_838 : decode cL_law 838 = .ok (.iload_n 3, 1) := by decide +kernel
theorem dL_law_839 : decode cL_law 839 = .ok (.iconst 1, 1) := by decide +kernel
theorem dL_law_840 : decode cL_law 840 = .ok (.iadd, 1) := by decide +kernel
theorem dL_law_841 : decode cL_law 841 = .ok (.iaload, 1) := by decide +kernel
theorem dL_law_842 : decode cL_law 842 = .ok (.aload_n 0, 1) := by decide +kernel
theorem dL_law_843 : decode cL_law 843 = .ok (.iload_n 3, 1) := by decide +kernel
theorem dL_law_844 : decode cL_law 844 = .ok (.iconst 2, 1) := by decide +kernel
theorem dL_law_845 : decode cL_law 845 = .ok (.iadd, 1) := by decide +kernel
theorem dL_law_846 : decode cL_law 846 = .ok (.iaload, 1) := by decide +kernel
theorem dL_law_847 : decode cL_law 847 = .ok (.aload_n 0, 1) := by decide +kernel
theorem dL_law_848 : decode cL_law 848 = .ok (.iload_n 3, 1) := by decide +kernel
theorem dL_law_849 : decode cL_law 849 = .ok (.iconst 3, 1) := by decide +kernel
theorem dL_law_850 : decode cL_law 850 = .ok (.iadd, 1) := by decide +kernel
theorem dL_law_851 : decode cL_law 851 = .ok (.iaload, 1) := by decide +kernel
theorem dL_law_852 : decode cL_law 852 = .ok (.invokevirtual 102, 3) := by decide +kernel
theorem dL_law_855 : decode cL_law 855 = .ok (.lcmp, 1) := by decide +kernel
theorem dL_law_856 : decode cL_law 856 = .ok (.ifCond .eq 377, 3) := by decide +kernel
theorem dL_law_859 : decode cL_law 859 = .ok (.iconst 0, 1) := by decide +kernel
theorem dL_law_860 : decode cL_law 860 = .ok (.ireturn, 1) := by decide +kernel
theorem dL_law_861 : decode cL_law 861 = .ok (.aload_n 1, 1) := by decide +kernel
theorem dL_law_862 : decode cL_law 862 = .ok (.aload_n 0, 1) := by decide +kernel
theorem dL_law_863 : decode cL_law 863 = .ok (.iload_n 3, 1) := by decide +kernel
theorem dL_law_864 : decode cL_law 864 = .ok (.iconst 1, 1) := by decide +kernel
theorem dL_law_865 : decode cL_law 865 = .ok (.iadd, 1) := by decide +kernel
theorem dL_law_866 : decode cL_law 866 = .ok (.iaload, 1) := by decide +kernel
theorem dL_law_867 : decode cL_law 867 = .ok (.aload_n 0, 1) := by decide +kernel
theorem dL_law_868 : decode cL_law 868 = .ok (.iload_n 3, 1) := by decide +kernel
theorem dL_law_869 : decode cL_law 869 = .ok (.iconst 2, 1) := by decide +kernel
theorem dL_law_870 : decode cL_law 870 = .ok (.iadd, 1) := by decide +kernel
theorem dL_law_871 : decode cL_law 871 = .ok (.iaload, 1) := by decide +kernel
theorem dL_law_872 : decode cL_law 872 = .ok (.aload_n 0, 1) := by decide +kernel
theorem dL_law_873 : decode cL_law 873 = .ok (.iload_n 3, 1) := by decide +kernel
theorem dL_law_874 : decode cL_law 874 = .ok (.iconst 3, 1) := by decide +kernel
theorem dL_law_875 : decode cL_law 875 = .ok (.iadd, 1) := by decide +kernel
theorem dL_law_876 : decode cL_law 876 = .ok (.iaload, 1) := by decide +kernel
theorem dL_law_877 : decode cL_law 877 = .ok (.aload_n 0, 1) := by decide +kernel
theorem dL_law_878 : decode cL_law 878 = .ok (.iload_n 3, 1) := by decide +kernel
theorem dL_law_879 : decode cL_law 879 = .ok (.iconst 4, 1) := by decide +kernel
theorem dL_law_880 : decode cL_law 880 = .ok (.iadd, 1) := by decide +kernel
theorem dL_law_881 : decode cL_law 881 = .ok (.iaload, 1) := by decide +kernel
theorem dL_law_882 : decode cL_law 882 = .ok (.invokevirtual 103, 3) := by decide +kernel
theorem dL_law_885 : decode cL_law 885 = .ok (.aload_n 2, 1) := by decide +kernel
theorem dL_law_886 : decode cL_law 886 = .ok (.aload_n 0, 1) := by decide +kernel
theorem dL_law_887 : decode cL_law 887 = .ok (.iload_n 3, 1) := by decide +kernel
theorem dL_law_888 : decode cL_law 888 = .ok (.iconst 1, 1) := by decide +kernel
theorem dL_law_889 : decode cL_law 889 = .ok (.iadd, 1) := by decide +kernel
theorem dL_law_890 : decode cL_law 890 = .ok (.iaload, 1) := by decide +kernel
theorem dL_law_891 : decode cL_law 891 = .ok (.aload_n 0, 1) := by decide +kernel
theorem dL_law_892 : decode cL_law 892 = .ok (.iload_n 3, 1) := by decide +kernel
theorem dL_law_893 : decode cL_law 893 = .ok (.iconst 2, 1) := by decide +kernel
theorem dL_law_894 : decode cL_law 894 = .ok (.iadd, 1) := by decide +kernel
theorem dL_law_895 : decode cL_law 895 = .ok (.iaload, 1) := by decide +kernel
theorem dL_law_896 : decode cL_law 896 = .ok (.aload_n 0, 1) := by decide +kernel
theorem dL_law_897 : decode cL_law 897 = .ok (.iload_n 3, 1) := by decide +kernel
theorem dL_law_898 : decode cL_law 898 = .ok (.iconst 3, 1) := by decide +kernel
theorem dL_law_899 : decode cL_law 899 = .ok (.iadd, 1) := by decide +kernel
theorem dL_law_900 : decode cL_law 900 = .ok (.iaload, 1) := by decide +kernel
theorem dL_law_901 : decode cL_law 901 = .ok (.aload_n 0, 1) := by decide +kernel
theorem dL_law_902 : decode cL_law 902 = .ok (.iload_n 3, 1) := by decide +kernel
theorem dL_law_903 : decode cL_law 903 = .ok (.iconst 4, 1) := by decide +kernel
theorem dL_law_904 : decode cL_law 904 = .ok (.iadd, 1) := by decide +kernel
theorem dL_law_905 : decode cL_law 905 = .ok (.iaload, 1) := by decide +kernel
theorem dL_law_906 : decode cL_law 906 = .ok (.invokevirtual 107, 3) := by decide +kernel
theorem dL_law_909 : decode cL_law 909 = .ok (.lcmp, 1) := by decide +kernel
theorem dL_law_910 : decode cL_law 910 = .ok (.ifCond .eq 323, 3) := by decide +kernel
theorem dL_law_913 : decode cL_law 913 = .ok (.iconst 0, 1) := by decide +kernel
theorem dL_law_914 : decode cL_law 914 = .ok (.ireturn, 1) := by decide +kernel
theorem dL_law_915 : decode cL_law 915 = .ok (.aload_n 1, 1) := by decide +kernel
theorem dL_law_916 : decode cL_law 916 = .ok (.aload_n 0, 1) := by decide +kernel
theorem dL_law_917 : decode cL_law 917 = .ok (.iload_n 3, 1) := by decide +kernel
theorem dL_law_918 : decode cL_law 918 = .ok (.iconst 1, 1) := by decide +kernel
theorem dL_law_919 : decode cL_law 919 = .ok (.iadd, 1) := by decide +kernel
theorem dL_law_920 : decode cL_law 920 = .ok (.iaload, 1) := by decide +kernel
theorem dL_law_921 : decode cL_law 921 = .ok (.aload_n 0, 1) := by decide +kernel
theorem dL_law_922 : decode cL_law 922 = .ok (.iload_n 3, 1) := by decide +kernel
theorem dL_law_923 : decode cL_law 923 = .ok (.iconst 2, 1) := by decide +kernel
theorem dL_law_924 : decode cL_law 924 = .ok (.iadd, 1) := by decide +kernel
theorem dL_law_925 : decode cL_law 925 = .ok (.iaload, 1) := by decide +kernel
theorem dL_law_926 : decode cL_law 926 = .ok (.invokevirtual 108, 3) := by decide +kernel
theorem dL_law_929 : decode cL_law 929 = .ok (.aload_n 2, 1) := by decide +kernel
theorem dL_law_930 : decode cL_law 930 = .ok (.aload_n 0, 1) := by decide +kernel
theorem dL_law_931 : decode cL_law 931 = .ok (.iload_n 3, 1) := by decide +kernel
theorem dL_law_932 : decode cL_law 932 = .ok (.iconst 1, 1) := by decide +kernel
theorem dL_law_933 : decode cL_law 933 = .ok (.iadd, 1) := by decide +kernel
theorem dL_law_934 : decode cL_law 934 = .ok (.iaload, 1) := by decide +kernel
theorem dL_law_935 : decode cL_law 935 = .ok (.aload_n 0, 1) := by decide +kernel
theorem dL_law_936 : decode cL_law 936 = .ok (.iload_n 3, 1) := by decide +kernel
theorem dL_law_937 : decode cL_law 937 = .ok (.iconst 2, 1) := by decide +kernel
theorem dL_law_938 : decode cL_law 938 = .ok (.iadd, 1) := by decide +kernel
theorem dL_law_939 : decode cL_law 939 = .ok (.iaload, 1) := by decide +kernel
theorem dL_law_940 : decode cL_law 940 = .ok (.invokevirtual 111, 3) := by decide +kernel
theorem dL_law_943 : decode cL_law 943 = .ok (.if_icmp .eq 290, 3) := by decide +kernel
theorem dL_law_946 : decode cL_law 946 = .ok (.iconst 0, 1) := by decide +kernel
theorem dL_law_947 : decode cL_law 947 = .ok (.ireturn, 1) := by decide +kernel
theorem dL_law_948 : decode cL_law 948 = .ok (.aload_n 1, 1) := by decide +kernel
theorem dL_law_949 : decode cL_law 949 = .ok (.aload_n 0, 1) := by decide +kernel
theorem dL_law_950 : decode cL_law 950 = .ok (.iload_n 3, 1) := by decide +kernel
theorem dL_law_951 : decode cL_law 951 = .ok (.iconst 1, 1) := by decide +kernel
theorem dL_law_952 : decode cL_law 952 = .ok (.iadd, 1) := by decide +kernel
theorem dL_law_953 : decode cL_law 953 = .ok (.iaload, 1) := by decide +kernel
theorem dL_law_954 : decode cL_law 954 = .ok (.aload_n 0, 1) := by decide +kernel
theorem dL_law_955 : decode cL_law 955 = .ok (.iload_n 3, 1) := by decide +kernel
theorem dL_law_956 : decode cL_law 956 = .ok (.iconst 2, 1) := by decide +kernel
theorem dL_law_957 : decode cL_law 957 = .ok (.iadd, 1) := by decide +kernel
theorem dL_law_958 : decode cL_law 958 = .ok (.iaload, 1) := by decide +kernel
theorem dL_law_959 : decode cL_law 959 = .ok (.aload_n 0, 1) := by decide +kernel
theorem dL_law_960 : decode cL_law 960 = .ok (.iload_n 3, 1) := by decide +kernel
theorem dL_law_961 : decode cL_law 961 = .ok (.iconst 3, 1) := by decide +kernel
theorem dL_law_962 : decode cL_law 962 = .ok (.iadd, 1) := by decide +kernel
theorem dL_law_963 : decode cL_law 963 = .ok (.iaload, 1) := by decide +kernel
theorem dL_law_964 : decode cL_law 964 = .ok (.invokevirtual 112, 3) := by decide +kernel
theorem dL_law_967 : decode cL_law 967 = .ok (.aload_n 2, 1) := by decide +kernel
theorem dL_law_968 : decode cL_law 968 = .ok (.aload_n 0, 1) := by decide +kernel
theorem dL_law_969 : decode cL_law 969 = .ok (.iload_n 3, 1) := by decide +kernel
theorem dL_law_970 : decode cL_law 970 = .ok (.iconst 1, 1) := by decide +kernel
theorem dL_law_971 : decode cL_law 971 = .ok (.iadd, 1) := by decide +kernel
theorem dL_law_972 : decode cL_law 972 = .ok (.iaload, 1) := by decide +kernel
theorem dL_law_973 : decode cL_law 973 = .ok (.aload_n 0, 1) := by decide +kernel
theorem dL_law_974 : decode cL_law 974 = .ok (.iload_n 3, 1) := by decide +kernel
theorem dL_law_975 : decode cL_law 975 = .ok (.iconst 2, 1) := by decide +kernel
theorem dL_law_976 : decode cL_law 976 = .ok (.iadd, 1) := by decide +kernel
theorem dL_law_977 : decode cL_law 977 = .ok (.iaload, 1) := by decide +kernel
theorem dL_law_978 : decode cL_law 978 = .ok (.aload_n 0, 1) := by decide +kernel
theorem dL_law_979 : decode cL_law 979 = .ok (.iload_n 3, 1) := by decide +kernel
theorem dL_law_980 : decode cL_law 980 = .ok (.iconst 3, 1) := by decide +kernel
theorem dL_law_981 : decode cL_law 981 = .ok (.iadd, 1) := by decide +kernel
theorem dL_law_982 : decode cL_law 982 = .ok (.iaload, 1) := by decide +kernel
theorem dL_law_983 : decode cL_law 983 = .ok (.invokevirtual 115, 3) := by decide +kernel
theorem dL_law_986 : decode cL_law 986 = .ok (.if_icmp .eq 247, 3) := by decide +kernel
theorem dL_law_989 : decode cL_law 989 = .ok (.iconst 0, 1) := by decide +kernel
theorem dL_law_990 : decode cL_law 990 = .ok (.ireturn, 1) := by decide +kernel
theorem dL_law_991 : decode cL_law 991 = .ok (.aload_n 1, 1) := by decide +kernel
theorem dL_law_992 : decode cL_law 992 = .ok (.aload_n 0, 1) := by decide +kernel
theorem dL_law_993 : decode cL_law 993 = .ok (.iload_n 3, 1) := by decide +kernel
theorem dL_law_994 : decode cL_law 994 = .ok (.iconst 1, 1) := by decide +kernel
theorem dL_law_995 : decode cL_law 995 = .ok (.iadd, 1) := by decide +kernel
theorem dL_law_996 : decode cL_law 996 = .ok (.iaload, 1) := by decide +kernel
theorem dL_law_997 : decode cL_law 997 = .ok (.aload_n 0, 1) := by decide +kernel
theorem dL_law_998 : decode cL_law 998 = .ok (.iload_n 3, 1) := by decide +kernel
theorem dL_law_999 : decode cL_law 999 = .ok (.iconst 2, 1) := by decide +kernel
theorem dL_law_1000 : decode cL_law 1000 = .ok (.iadd, 1) := by decide +kernel
theorem dL_law_1001 : decode cL_law 1001 = .ok (.iaload, 1) := by decide +kernel
theorem dL_law_1002 : decode cL_law 1002 = .ok (.aload_n 0, 1) := by decide +kernel
theorem dL_law_1003 : decode cL_law 1003 = .ok (.iload_n 3, 1) := by decide +kernel
theorem dL_law_1004 : decode cL_law 1004 = .ok (.iconst 3, 1) := by decide +kernel
theorem dL_law_1005 : decode cL_law 1005 = .ok (.iadd, 1) := by decide +kernel
theorem dL_law_1006 : decode cL_law 1006 = .ok (.iaload, 1) := by decide +kernel
theorem dL_law_1007 : decode cL_law 1007 = .ok (.aload_n 0, 1) := by decide +kernel
theorem dL_law_1008 : decode cL_law 1008 = .ok (.iload_n 3, 1) := by decide +kernel
theorem dL_law_1009 : decode cL_law 1009 = .ok (.iconst 4, 1) := by decide +kernel
theorem dL_law_1010 : decode cL_law 1010 = .ok (.iadd, 1) := by decide +kernel
theorem dL_law_1011 : decode cL_law 1011 = .ok (.iaload, 1) := by decide +kernel
theorem dL_law_1012 : decode cL_law 1012 = .ok (.invokevirtual 116, 3) := by decide +kernel
theorem dL_law_1015 : decode cL_law 1015 = .ok (.aload_n 2, 1) := by decide +kernel
theorem dL_law_1016 : decode cL_law 1016 = .ok (.aload_n 0, 1) := by decide +kernel
theorem dL_law_1017 : decode cL_law 1017 = .ok (.iload_n 3, 1) := by decide +kernel
theorem dL_law_1018 : decode cL_law 1018 = .ok (.iconst 1, 1) := by decide +kernel
theorem dL_law_1019 : decode cL_law 1019 = .ok (.iadd, 1) := by decide +kernel
theorem dL_law_1020 : decode cL_law 1020 = .ok (.iaload, 1) := by decide +kernel
theorem dL_law_1021 : decode cL_law 1021 = .ok (.aload_n 0, 1) := by decide +kernel
theorem dL_law_1022 : decode cL_law 1022 = .ok (.iload_n 3, 1) := by decide +kernel
theorem dL_law_1023 : decode cL_law 1023 = .ok (.iconst 2, 1) := by decide +kernel
theorem dL_law_1024 : decode cL_law 1024 = .ok (.iadd, 1) := by decide +kernel
theorem dL_law_1025 : decode cL_law 1025 = .ok (.iaload, 1) := by decide +kernel
theorem dL_law_1026 : decode cL_law 1026 = .ok (.aload_n 0, 1) := by decide +kernel
theorem dL_law_1027 : decode cL_law 1027 = .ok (.iload_n 3, 1) := by decide +kernel
theorem dL_law_1028 : decode cL_law 1028 = .ok (.iconst 3, 1) := by decide +kernel
theorem dL_law_1029 : decode cL_law 1029 = .ok (.iadd, 1) := by decide +kernel
theorem dL_law_1030 : decode cL_law 1030 = .ok (.iaload, 1) := by decide +kernel
theorem dL_law_1031 : decode cL_law 1031 = .ok (.aload_n 0, 1) := by decide +kernel
theorem dL_law_1032 : decode cL_law 1032 = .ok (.iload_n 3, 1) := by decide +kernel
theorem dL_law_1033 : decode cL_law 1033 = .ok (.iconst 4, 1) := by decide +kernel
theorem dL_law_1034 : decode cL_law 1034 = .ok (.iadd, 1) := by decide +kernel
theorem dL_law_1035 : decode cL_law 1035 = .ok (.iaload, 1) := by decide +kernel
theorem dL_law_1036 : decode cL_law 1036 = .ok (.invokevirtual 120, 3) := by decide +kernel
theorem dL_law_1039 : decode cL_law 1039 = .ok (.if_icmp .eq 194, 3) := by decide +kernel
theorem dL_law_1042 : decode cL_law 1042 = .ok (.iconst 0, 1) := by decide +kernel
theorem dL_law_1043 : decode cL_law 1043 = .ok (.ireturn, 1) := by decide +kernel
theorem dL_law_1044 : decode cL_law 1044 = .ok (.aload_n 1, 1) := by decide +kernel
theorem dL_law_1045 : decode cL_law 1045 = .ok (.aload_n 0, 1) := by decide +kernel
theorem dL_law_1046 : decode cL_law 1046 = .ok (.iload_n 3, 1) := by decide +kernel
theorem dL_law_1047 : decode cL_law 1047 = .ok (.iconst 1, 1) := by decide +kernel
theorem dL_law_1048 : decode cL_law 1048 = .ok (.iadd, 1) := by decide +kernel
theorem dL_law_1049 : decode cL_law 1049 = .ok (.iaload, 1) := by decide +kernel
theorem dL_law_1050 : decode cL_law 1050 = .ok (.aload_n 0, 1) := by decide +kernel
theorem dL_law_1051 : decode cL_law 1051 = .ok (.iload_n 3, 1) := by decide +kernel
theorem dL_law_1052 : decode cL_law 1052 = .ok (.iconst 2, 1) := by decide +kernel
theorem dL_law_1053 : decode cL_law 1053 = .ok (.iadd, 1) := by decide +kernel
theorem dL_law_1054 : decode cL_law 1054 = .ok (.iaload, 1) := by decide +kernel
theorem dL_law_1055 : decode cL_law 1055 = .ok (.invokevirtual 121, 3) := by decide +kernel
theorem dL_law_1058 : decode cL_law 1058 = .ok (.aload_n 2, 1) := by decide +kernel
theorem dL_law_1059 : decode cL_law 1059 = .ok (.aload_n 0, 1) := by decide +kernel
theorem dL_law_1060 : decode cL_law 1060 = .ok (.iload_n 3, 1) := by decide +kernel
theorem dL_law_1061 : decode cL_law 1061 = .ok (.iconst 1, 1) := by decide +kernel
theorem dL_law_1062 : decode cL_law 1062 = .ok (.iadd, 1) := by decide +kernel
theorem dL_law_1063 : decode cL_law 1063 = .ok (.iaload, 1) := by decide +kernel
theorem dL_law_1064 : decode cL_law 1064 = .ok (.aload_n 0, 1) := by decide +kernel
theorem dL_law_1065 : decode cL_law 1065 = .ok (.iload_n 3, 1) := by decide +kernel
theorem dL_law_1066 : decode cL_law 1066 = .ok (.iconst 2, 1) := by decide +kernel
theorem dL_law_1067 : decode cL_law 1067 = .ok (.iadd, 1) := by decide +kernel
theorem dL_law_1068 : decode cL_law 1068 = .ok (.iaload, 1) := by decide +kernel
theorem dL_law_1069 : decode cL_law 1069 = .ok (.invokevirtual 124, 3) := by decide +kernel
theorem dL_law_1072 : decode cL_law 1072 = .ok (.lcmp, 1) := by decide +kernel
theorem dL_law_1073 : decode cL_law 1073 = .ok (.ifCond .eq 160, 3) := by decide +kernel
theorem dL_law_1076 : decode cL_law 1076 = .ok (.iconst 0, 1) := by decide +kernel
theorem dL_law_1077 : decode cL_law 1077 = .ok (.ireturn, 1) := by decide +kernel
theorem dL_law_1078 : decode cL_law 1078 = .ok (.aload_n 1, 1) := by decide +kernel
theorem dL_law_1079 : decode cL_law 1079 = .ok (.aload_n 0, 1) := by decide +kernel
theorem dL_law_1080 : decode cL_law 1080 = .ok (.iload_n 3, 1) := by decide +kernel
theorem dL_law_1081 : decode cL_law 1081 = .ok (.iconst 1, 1) := by decide +kernel
theorem dL_law_1082 : decode cL_law 1082 = .ok (.iadd, 1) := by decide +kernel
theorem dL_law_1083 : decode cL_law 1083 = .ok (.iaload, 1) := by decide +kernel
theorem dL_law_1084 : decode cL_law 1084 = .ok (.invokevirtual 125, 3) := by decide +kernel
theorem dL_law_1087 : decode cL_law 1087 = .ok (.aload_n 2, 1) := by decide +kernel
theorem dL_law_1088 : decode cL_law 1088 = .ok (.aload_n 0, 1) := by decide +kernel
theorem dL_law_1089 : decode cL_law 1089 = .ok (.iload_n 3, 1) := by decide +kernel
theorem dL_law_1090 : decode cL_law 1090 = .ok (.iconst 1, 1) := by decide +kernel
theorem dL_law_1091 : decode cL_law 1091 = .ok (.iadd, 1) := by decide +kernel
theorem dL_law_1092 : decode cL_law 1092 = .ok (.iaload, 1) := by decide +kernel
theorem dL_law_1093 : decode cL_law 1093 = .ok (.invokevirtual 128, 3) := by decide +kernel
theorem dL_law_1096 : decode cL_law 1096 = .ok (.if_icmp .eq 137, 3) := by decide +kernel
theorem dL_law_1099 : decode cL_law 1099 = .ok (.iconst 0, 1) := by decide +kernel
theorem dL_law_1100 : decode cL_law 1100 = .ok (.ireturn, 1) := by decide +kernel
theorem dL_law_1101 : decode cL_law 1101 = .ok (.aload_n 1, 1) := by decide +kernel
theorem dL_law_1102 : decode cL_law 1102 = .ok (.aload_n 0, 1) := by decide +kernel
theorem dL_law_1103 : decode cL_law 1103 = .ok (.iload_n 3, 1) := by decide +kernel
theorem dL_law_1104 : decode cL_law 1104 = .ok (.iconst 1, 1) := by decide +kernel
theorem dL_law_1105 : decode cL_law 1105 = .ok (.iadd, 1) := by decide +kernel
theorem dL_law_1106 : decode cL_law 1106 = .ok (.iaload, 1) := by decide +kernel
theorem dL_law_1107 : decode cL_law 1107 = .ok (.aload_n 0, 1) := by decide +kernel
theorem dL_law_1108 : decode cL_law 1108 = .ok (.iload_n 3, 1) := by decide +kernel
theorem dL_law_1109 : decode cL_law 1109 = .ok (.iconst 2, 1) := by decide +kernel
theorem dL_law_1110 : decode cL_law 1110 = .ok (.iadd, 1) := by decide +kernel
theorem dL_law_1111 : decode cL_law 1111 = .ok (.iaload, 1) := by decide +kernel
theorem dL_law_1112 : decode cL_law 1112 = .ok (.invokevirtual 129, 3) := by decide +kernel
theorem dL_law_1115 : decode cL_law 1115 = .ok (.aload_n 2, 1) := by decide +kernel
theorem dL_law_1116 : decode cL_law 1116 = .ok (.aload_n 0, 1) := by decide +kernel
theorem dL_law_1117 : decode cL_law 1117 = .ok (.iload_n 3, 1) := by decide +kernel
theorem dL_law_1118 : decode cL_law 1118 = .ok (.iconst 1, 1) := by decide +kernel
theorem dL_law_1119 : decode cL_law 1119 = .ok (.iadd, 1) := by decide +kernel
theorem dL_law_1120 : decode cL_law 1120 = .ok (.iaload, 1) := by decide +kernel
theorem dL_law_1121 : decode cL_law 1121 = .ok (.aload_n 0, 1) := by decide +kernel
theorem dL_law_1122 : decode cL_law 1122 = .ok (.iload_n 3, 1) := by decide +kernel
theorem dL_law_1123 : decode cL_law 1123 = .ok (.iconst 2, 1) := by decide +kernel
theorem dL_law_1124 : decode cL_law 1124 = .ok (.iadd, 1) := by decide +kernel
theorem dL_law_1125 : decode cL_law 1125 = .ok (.iaload, 1) := by decide +kernel
theorem dL_law_1126 : decode cL_law 1126 = .ok (.invokevirtual 132, 3) := by decide +kernel
theorem dL_law_1129 : decode cL_law 1129 = .ok (.if_icmp .eq 104, 3) := by decide +kernel
theorem dL_law_1132 : decode cL_law 1132 = .ok (.iconst 0, 1) := by decide +kernel
theorem dL_law_1133 : decode cL_law 1133 = .ok (.ireturn, 1) := by decide +kernel
theorem dL_law_1134 : decode cL_law 1134 = .ok (.aload_n 1, 1) := by decide +kernel
theorem dL_law_1135 : decode cL_law 1135 = .ok (.aload_n 0, 1) := by decide +kernel
theorem dL_law_1136 : decode cL_law 1136 = .ok (.iload_n 3, 1) := by decide +kernel
theorem dL_law_1137 : decode cL_law 1137 = .ok (.iconst 1, 1) := by decide +kernel
theorem dL_law_1138 : decode cL_law 1138 = .ok (.iadd, 1) := by decide +kernel
theorem dL_law_1139 : decode cL_law 1139 = .ok (.iaload, 1) := by decide +kernel
theorem dL_law_1140 : decode cL_law 1140 = .ok (.aload_n 0, 1) := by decide +kernel
theorem dL_law_1141 : decode cL_law 1141 = .ok (.iload_n 3, 1) := by decide +kernel
theorem dL_law_1142 : decode cL_law 1142 = .ok (.iconst 2, 1) := by decide +kernel
theorem dL_law_1143 : decode cL_law 1143 = .ok (.iadd, 1) := by decide +kernel
theorem dL_law_1144 : decode cL_law 1144 = .ok (.iaload, 1) := by decide +kernel
theorem dL_law_1145 : decode cL_law 1145 = .ok (.invokevirtual 133, 3) := by decide +kernel
theorem dL_law_1148 : decode cL_law 1148 = .ok (.aload_n 2, 1) := by decide +kernel
theorem dL_law_1149 : decode cL_law 1149 = .ok (.aload_n 0, 1) := by decide +kernel
theorem dL_law_1150 : decode cL_law 1150 = .ok (.iload_n 3, 1) := by decide +kernel
theorem dL_law_1151 : decode cL_law 1151 = .ok (.iconst 1, 1) := by decide +kernel
theorem dL_law_1152 : decode cL_law 1152 = .ok (.iadd, 1) := by decide +kernel
theorem dL_law_1153 : decode cL_law 1153 = .ok (.iaload, 1) := by decide +kernel
theorem dL_law_1154 : decode cL_law 1154 = .ok (.aload_n 0, 1) := by decide +kernel
theorem dL_law_1155 : decode cL_law 1155 = .ok (.iload_n 3, 1) := by decide +kernel
theorem dL_law_1156 : decode cL_law 1156 = .ok (.iconst 2, 1) := by decide +kernel
theorem dL_law_1157 : decode cL_law 1157 = .ok (.iadd, 1) := by decide +kernel
theorem dL_law_1158 : decode cL_law 1158 = .ok (.iaload, 1) := by decide +kernel
theorem dL_law_1159 : decode cL_law 1159 = .ok (.invokevirtual 136, 3) := by decide +kernel
theorem dL_law_1162 : decode cL_law 1162 = .ok (.if_icmp .eq 71, 3) := by decide +kernel
theorem dL_law_1165 : decode cL_law 1165 = .ok (.iconst 0, 1) := by decide +kernel
theorem dL_law_1166 : decode cL_law 1166 = .ok (.ireturn, 1) := by decide +kernel
theorem dL_law_1167 : decode cL_law 1167 = .ok (.aload_n 1, 1) := by decide +kernel
theorem dL_law_1168 : decode cL_law 1168 = .ok (.aload_n 0, 1) := by decide +kernel
theorem dL_law_1169 : decode cL_law 1169 = .ok (.iload_n 3, 1) := by decide +kernel
theorem dL_law_1170 : decode cL_law 1170 = .ok (.iconst 1, 1) := by decide +kernel
theorem dL_law_1171 : decode cL_law 1171 = .ok (.iadd, 1) := by decide +kernel
theorem dL_law_1172 : decode cL_law 1172 = .ok (.iaload, 1) := by decide +kernel
theorem dL_law_1173 : decode cL_law 1173 = .ok (.aload_n 0, 1) := by decide +kernel
theorem dL_law_1174 : decode cL_law 1174 = .ok (.iload_n 3, 1) := by decide +kernel
theorem dL_law_1175 : decode cL_law 1175 = .ok (.iconst 2, 1) := by decide +kernel
theorem dL_law_1176 : decode cL_law 1176 = .ok (.iadd, 1) := by decide +kernel
theorem dL_law_1177 : decode cL_law 1177 = .ok (.iaload, 1) := by decide +kernel
theorem dL_law_1178 : decode cL_law 1178 = .ok (.aload_n 0, 1) := by decide +kernel
theorem dL_law_1179 : decode cL_law 1179 = .ok (.iload_n 3, 1) := by decide +kernel
theorem dL_law_1180 : decode cL_law 1180 = .ok (.iconst 3, 1) := by decide +kernel
theorem dL_law_1181 : decode cL_law 1181 = .ok (.iadd, 1) := by decide +kernel
theorem dL_law_1182 : decode cL_law 1182 = .ok (.iaload, 1) := by decide +kernel
theorem dL_law_1183 : decode cL_law 1183 = .ok (.invokevirtual 137, 3) := by decide +kernel
theorem dL_law_1186 : decode cL_law 1186 = .ok (.aload_n 2, 1) := by decide +kernel
theorem dL_law_1187 : decode cL_law 1187 = .ok (.aload_n 0, 1) := by decide +kernel
theorem dL_law_1188 : decode cL_law 1188 = .ok (.iload_n 3, 1) := by decide +kernel
theorem dL_law_1189 : decode cL_law 1189 = .ok (.iconst 1, 1) := by decide +kernel
theorem dL_law_1190 : decode cL_law 1190 = .ok (.iadd, 1) := by decide +kernel
theorem dL_law_1191 : decode cL_law 1191 = .ok (.iaload, 1) := by decide +kernel
theorem dL_law_1192 : decode cL_law 1192 = .ok (.aload_n 0, 1) := by decide +kernel
theorem dL_law_1193 : decode cL_law 1193 = .ok (.iload_n 3, 1) := by decide +kernel
theorem dL_law_1194 : decode cL_law 1194 = .ok (.iconst 2, 1) := by decide +kernel
theorem dL_law_1195 : decode cL_law 1195 = .ok (.iadd, 1) := by decide +kernel
theorem dL_law_1196 : decode cL_law 1196 = .ok (.iaload, 1) := by decide +kernel
theorem dL_law_1197 : decode cL_law 1197 = .ok (.aload_n 0, 1) := by decide +kernel
theorem dL_law_1198 : decode cL_law 1198 = .ok (.iload_n 3, 1) := by decide +kernel
theorem dL_law_1199 : decode cL_law 1199 = .ok (.iconst 3, 1) := by decide +kernel
theorem dL_law_1200 : decode cL_law 1200 = .ok (.iadd, 1) := by decide +kernel
theorem dL_law_1201 : decode cL_law 1201 = .ok (.iaload, 1) := by decide +kernel
theorem dL_law_1202 : decode cL_law 1202 = .ok (.invokevirtual 140, 3) := by decide +kernel
theorem dL_law_1205 : decode cL_law 1205 = .ok (.if_icmp .eq 28, 3) := by decide +kernel
theorem dL_law_1208 : decode cL_law 1208 = .ok (.iconst 0, 1) := by decide +kernel
theorem dL_law_1209 : decode cL_law 1209 = .ok (.ireturn, 1) := by decide +kernel
theorem dL_law_1210 : decode cL_law 1210 = .ok (.aload_n 1, 1) := by decide +kernel
theorem dL_law_1211 : decode cL_law 1211 = .ok (.aload_n 0, 1) := by decide +kernel
theorem dL_law_1212 : decode cL_law 1212 = .ok (.iload_n 3, 1) := by decide +kernel
theorem dL_law_1213 : decode cL_law 1213 = .ok (.iconst 1, 1) := by decide +kernel
theorem dL_law_1214 : decode cL_law 1214 = .ok (.iadd, 1) := by decide +kernel
theorem dL_law_1215 : decode cL_law 1215 = .ok (.iaload, 1) := by decide +kernel
theorem dL_law_1216 : decode cL_law 1216 = .ok (.invokevirtual 141, 3) := by decide +kernel
theorem dL_law_1219 : decode cL_law 1219 = .ok (.aload_n 2, 1) := by decide +kernel
theorem dL_law_1220 : decode cL_law 1220 = .ok (.aload_n 0, 1) := by decide +kernel
theorem dL_law_1221 : decode cL_law 1221 = .ok (.iload_n 3, 1) := by decide +kernel
theorem dL_law_1222 : decode cL_law 1222 = .ok (.iconst 1, 1) := by decide +kernel
theorem dL_law_1223 : decode cL_law 1223 = .ok (.iadd, 1) := by decide +kernel
theorem dL_law_1224 : decode cL_law 1224 = .ok (.iaload, 1) := by decide +kernel
theorem dL_law_1225 : decode cL_law 1225 = .ok (.invokevirtual 144, 3) := by decide +kernel
theorem dL_law_1228 : decode cL_law 1228 = .ok (.if_icmp .eq 5, 3) := by decide +kernel
theorem dL_law_1231 : decode cL_law 1231 = .ok (.iconst 0, 1) := by decide +kernel
theorem dL_law_1232 : decode cL_law 1232 = .ok (.ireturn, 1) := by decide +kernel
theorem dL_law_1233 : decode cL_law 1233 = .ok (.iinc 3 5, 3) := by decide +kernel
theorem dL_law_1236 : decode cL_law 1236 = .ok (.goto (-1218), 3) := by decide +kernel
theorem dL_law_1239 : decode cL_law 1239 = .ok (.iconst 1, 1) := by decide +kernel
theorem dL_law_1240 : decode cL_law 1240 = .ok (.ireturn, 1) := by decide +kernel
end
section
/-- a number that may be wanting: 0 is none (-1), k + 1 is k -/
def gv (x : Nat) : Int32 := if x = 0 then -1 else nI (x - 1)
theorem gv_0 : gv 0 = -1 := rfl
theorem gv_s (k : Nat) : gv (k + 1) = nI k := by simp [gv]
/-- row r of a state, its place j becomes v -/
def zu (Z : Nat → Nat → Nat) (r j v : Nat) : Nat → Nat → Nat := fun r' i => if r' = r then (if i = j then v else Z r' i) else Z r' i
theorem zu_in (Z : Nat → Nat → Nat) (r j v i : Nat) : zu Z r j v r i = if i = j then v else Z r i := by simp [zu]
theorem zu_out (Z : Nat → Nat → Nat) {r r' : Nat} (h : r' ≠ r) (j v : Nat) : zu Z r j v r' = Z r' := by funext i; simp [zu, h]
theorem upd_nI (f : Nat → Nat) (j v : Nat) : upd (fun i => nI (f i)) j (nI v) = fun i => nI (if i = j then v else f i) := by
  funext i; by_cases h : i = j <;> simp [upd, h]
theorem upd_gv (f : Nat → Nat) (j v : Nat) : upd (fun i => gv (f i)) j (gv v) = fun i => gv (if i = j then v else f i) := by
  funext i; by_cases h : i = j <;> simp [upd, h]
abbrev inR (x : Int32) (lo hi : Nat) : Prop := (lo : Int) ≤ x.toInt ∧ x.toInt < (hi : Int)
theorem inR_of {x : Int32} {lo hi : Nat} (h : inR x lo hi) : ∃ j : Nat, lo ≤ j ∧ j < hi ∧ x = nI j := by
  obtain ⟨h1, h2⟩ := h
  have h3 : ¬ x < 0 := by
    rw [Int32.lt_iff_toInt_lt]
    have : (0 : Int32).toInt = 0 := rfl
    omega
  obtain ⟨j, hj, e⟩ := nI_of h3
  subst e
  rw [nI_toInt hj] at h1 h2
  exact ⟨j, by omega, by omega, rfl⟩
theorem inR_nI {j lo hi : Nat} (hj : j < 2 ^ 31) : inR (nI j) lo hi ↔ lo ≤ j ∧ j < hi := by
  show (lo : Int) ≤ (nI j).toInt ∧ (nI j).toInt < (hi : Int) ↔ _
  rw [nI_toInt hj]
  omega
/-- a truth told as 0 or 1 -/
def isB (r : Int32) (C : Prop) : Prop := (r = 0 ∧ ¬ C) ∨ (r = 1 ∧ C)
/-- the tables' words that stay true over calls -/
def lw_ok : List Cond := lw_tbl.filter goodWord
theorem ok_of {w : Cond} (h : w ∈ lw_tbl) (g : goodWord w = true) : w ∈ lw_ok := List.mem_filter.mpr ⟨h, g⟩
theorem ok_good {w : Cond} (h : w ∈ lw_ok) : goodWord w = true := (List.mem_filter.mp h).2
theorem ok_tbl {w : Cond} (h : w ∈ lw_ok) : w ∈ lw_tbl := (List.mem_filter.mp h).1
theorem okX0 : ∀ w ∈ wsX00, w ∈ lw_ok := fun w hw => ok_of (inX0 w hw) (List.all_eq_true.mp (by decide +kernel : wsX00.all goodWord = true) w hw)
theorem okX1 : ∀ w ∈ wsX10, w ∈ lw_ok := fun w hw => ok_of (inX1 w hw) (List.all_eq_true.mp (by decide +kernel : wsX10.all goodWord = true) w hw)
/-- a method's words: its own code, and all the tables' -/
abbrev wS (y : MethodName) (bytes : ByteArray) (n : Nat) (ret : Option FieldType) : List Cond := Cond.code y bytes n ret :: lw_ok
theorem wS_in {y : MethodName} {bytes : ByteArray} {n : Nat} {ret : Option FieldType} (h : Cond.code y bytes n ret ∈ lw_tbl) : ∀ w ∈ wS y bytes n ret, w ∈ lw_ok := by
  intro w hw
  rcases List.mem_cons.mp hw with e | h2
  · rw [e]; exact ok_of h rfl
  · exact h2
abbrev rmF (f lc : Nat) : Room := { frames := f, cells := 0, slots := 0, locals := lc }
/-- what a call of an instance method of class C rests on -/
def cfV (y : MethodName) (bytes : ByteArray) (n : Nat) (ret : Option FieldType) (k : Nat) (C : String) : Prop :=
  Cond.code y bytes n ret ∈ lw_tbl ∧ Cond.instanceMethod y ∈ lw_tbl ∧ Cond.selects C y y ∈ lw_tbl ∧ Cond.initialized C ∈ lw_tbl ∧ (y.cls = C ∧ y.cls ≠ "java/lang/invoke/MethodHandle" ∧ y.cls ≠ "java/lang/invoke/VarHandle" ∧ (parseMethodDescriptor y.desc).map (fun d => d.parameters.length) = some k)
def cfS (y : MethodName) (bytes : ByteArray) (n : Nat) (ret : Option FieldType) (k : Nat) : Prop :=
  Cond.code y bytes n ret ∈ lw_tbl ∧ Cond.static y ∈ lw_tbl ∧ Cond.initialized y.cls ∈ lw_tbl ∧ (y.cls ≠ "java/lang/invoke/MethodHandle" ∧ y.cls ≠ "java/lang/invoke/VarHandle" ∧ (parseMethodDescriptor y.desc).map (fun d => d.parameters.length) = some k)
theorem goodV {y : MethodName} {bytes : ByteArray} {n k : Nat} {ret : Option FieldType} {own C : String} {index : Nat} (hf : cfV y bytes n ret k C) (hl : Cond.methodLink own index y ∈ lw_tbl) : GoodIn lw_ok (wsV own index C y (wS y bytes n ret)) := by
  intro w hw
  have hm : w ∈ lw_ok := by
    rcases List.mem_append.mp (show w ∈ ([.methodLink own index y, .instanceMethod y, .selects C y y, .initialized C] : List Cond) ++ wS y bytes n ret from hw) with h | h
    · simp only [List.mem_cons, List.not_mem_nil, or_false] at h
      rcases h with e | e | e | e
      · rw [e]; exact ok_of hl rfl
      · rw [e]; exact ok_of hf.2.1 rfl
      · rw [e]; exact ok_of hf.2.2.1 rfl
      · rw [e]; exact ok_of hf.2.2.2.1 rfl
    · exact wS_in hf.1 w h
  exact ⟨hm, good_of_word (ok_good hm)⟩
theorem goodS {y : MethodName} {bytes : ByteArray} {n k : Nat} {ret : Option FieldType} {own : String} {index : Nat} (hf : cfS y bytes n ret k) (hl : Cond.methodLink own index y ∈ lw_tbl) : GoodIn lw_ok (va_wsS own index y (wS y bytes n ret)) := by
  intro w hw
  have hm : w ∈ lw_ok := by
    rcases List.mem_append.mp (show w ∈ ([.methodLink own index y, .static y, .initialized y.cls] : List Cond) ++ wS y bytes n ret from hw) with h | h
    · simp only [List.mem_cons, List.not_mem_nil, or_false] at h
      rcases h with e | e | e
      · rw [e]; exact ok_of hl rfl
      · rw [e]; exact ok_of hf.2.1 rfl
      · rw [e]; exact ok_of hf.2.2.1 rfl
    · exact wS_in hf.1 w h
  exact ⟨hm, good_of_word (ok_good hm)⟩
def cw (cy : ClassId) (o : Nat) (a : Nat → Nat) (Z X : Nat → Nat → Nat) : va_W := [(o, .inr (0, [.int (nI (Z 0 0)), .int (nI (Z 0 1)), .int (nI (Z 0 2)), .int (nI (Z 0 3)), .int (nI (Z 0 4)), .ref (a 5), .ref (a 6), .ref (a 7), .ref (a 8), .ref (a 9), .ref (a 10), .ref (a 11), .ref (a 12), .ref (a 13), .ref (a 14), .ref (a 15), .ref (a 16), .ref (a 17)])), (a 5, .inl (cy, 30, .inl (fun i => nI (Z 5 i)))), (a 6, .inl (cy, 30, .inl (fun i => nI (Z 6 i)))), (a 7, .inl (cy, 30, .inl (fun i => nI (Z 7 i)))), (a 8, .inl (cy, 8, .inl (fun i => nI (Z 8 i)))), (a 9, .inl (cy, 8, .inl (fun i => nI (Z 9 i)))), (a 10, .inl (cy, 96, .inl (fun i => nI (Z 10 i)))), (a 11, .inl (cy, 60, .inl (fun i => nI (Z 11 i)))), (a 12, .inl (cy, 60, .inl (fun i => nI (Z 12 i)))), (a 13, .inl (cy, 720, .inl (fun i => gv (Z 13 i)))), (a 14, .inl (cy, 768, .inl (fun i => gv (Z 14 i)))), (a 15, .inl (cy, 60, .inl (fun i => nI (X 0 i)))), (a 16, .inl (cy, 4, .inl (fun i => nI (X 1 i)))), (a 17, .inl (cy, 4, .inl (fun i => nI (X 2 i))))]
def mw (cy cz : ClassId) (o : Nat) (a : Nat → Nat) (Z : Nat → Nat → Nat) (G T K : Nat → Nat) : va_W := [(o, .inr (1, [.int (nI (Z 0 0)), .int (nI (Z 0 1)), .int (nI (Z 0 2)), .ref (a 3), .ref (a 4), .ref (a 5), .ref (a 6), .ref (a 7), .ref (a 8), .ref (a 9), .ref (a 10), .ref (a 11), .ref (a 12)])), (a 3, .inl (cy, 30, .inl (fun i => nI (Z 5 i)))), (a 4, .inl (cy, 30, .inl (fun i => nI (Z 6 i)))), (a 5, .inl (cy, 30, .inl (fun i => nI (Z 7 i)))), (a 6, .inl (cz, 30, .inl (fun i => nI (K i)))), (a 7, .inl (cy, 96, .inl (fun i => nI (Z 10 i)))), (a 8, .inl (cy, 8, .inl (fun i => nI (Z 8 i)))), (a 9, .inl (cy, 60, .inl (fun i => nI (Z 11 i)))), (a 10, .inl (cy, 60, .inl (fun i => nI (Z 12 i)))), (a 11, .inl (cy, 720, .inl (fun i => gv (G i)))), (a 12, .inl (cy, 768, .inl (fun i => gv (T i))))]
/-- the worlds of a method that only reads -/
def cR (dC : Nat → ClassId) (dI : Nat → Nat → Nat) (cy : ClassId) (o : Nat) (a : Nat → Nat) (Z X : Nat → Nat → Nat) (U : State) : Prop := va_P (dC, dI) vwCl (cw cy o a Z X) U.heap ∧ va_K (dC, dI) vwCl [(cy, .int)] U
def mR (dC : Nat → ClassId) (dI : Nat → Nat → Nat) (cy cz : ClassId) (o : Nat) (a : Nat → Nat) (Z : Nat → Nat → Nat) (G T K : Nat → Nat) (U : State) : Prop := va_P (dC, dI) vwCl (mw cy cz o a Z G T K) U.heap ∧ va_K (dC, dI) vwCl [(cy, .int), (cz, .boolean)] U
/-- the worlds of a method that writes: its start and its end -/
def cS (dC : Nat → ClassId) (dI : Nat → Nat → Nat) (cy : ClassId) (o : Nat) (a : Nat → Nat) (Z X : Nat → Nat → Nat) (sz : Nat) (U : State) : Prop := U.heap.size = sz ∧ va_P (dC, dI) vwCl (cw cy o a Z X) U.heap ∧ va_K (dC, dI) vwCl [(cy, .int)] U ∧ va_D (fun _ => True) (cw cy o a Z X)
def cE (dC : Nat → ClassId) (dI : Nat → Nat → Nat) (cy : ClassId) (o : Nat) (a : Nat → Nat) (A : Nat → Prop) (u : (Nat → Nat → Nat) × (Nat → Nat → Nat)) (t : State) : Prop := va_P (dC, dI) vwCl (cw cy o a u.1 u.2) t.heap ∧ va_K (dC, dI) vwCl [(cy, .int)] t ∧ va_D A (cw cy o a u.1 u.2)
abbrev cA (cy : ClassId) (o : Nat) (a : Nat → Nat) (Z X : Nat → Nat → Nat) (sz : Nat) : Nat → Prop := va_A (cw cy o a Z X) sz
section BASE
variable {p : Program} {l : Launch} {e : Env} {R : Room} {s : State} {m : MethodId} {args : Array Value} {below : List Frame} {meth : Method} {c : Code} {H : Heap} {locs : List Loc} {cells slots : Nat} {Q : State → Prop}
variable {cc : ByteArray} {pc : Nat} {ls : Array Slot} {rest : List Value} {H0 : Heap} {A : Nat → Prop}
variable {dC : Nat → ClassId} {dI : Nat → Nat → Nat} {cy cz : ClassId} {o : Nat} {a : Nat → Nat} {Z X : Nat → Nat → Nat} {G T K : Nat → Nat}
theorem c_g0 (hx : p.tables.exec = Jvm.exec) (hb : c.code = cc) (hts : ∀ w ∈ lw_ok, w.before args s = true) (hown : s.vm.findClass RX0 = some m.cls) {tys : List (ClassId × FieldType)} (hK : va_K (dC, dI) vwCl tys s) (hP : va_P (dC, dI) vwCl (cw cy o a Z X) H) (hdg : decode cc pc = .ok (.getfield 61, 3)) (kk : W p l e R s m args below meth c H locs cells slots Q (F0 m (pc + 3) ls (.int (nI (Z 0 0)) :: rest))) : W p l e R s m args below meth c H locs cells slots Q (F0 m pc ls (.ref o :: rest)) :=
  va_get (D := (dC, dI)) (ci := 0) (C := RX0) (T := TX0) (N := 18) hx hb hts okX0 hown hK hP 0 rfl rfl 0 (by decide) (hts _ (ok_of tF_RX0_61 rfl)) (fun _ h => h) rfl hdg kk
theorem c_g1 (hx : p.tables.exec = Jvm.exec) (hb : c.code = cc) (hts : ∀ w ∈ lw_ok, w.before args s = true) (hown : s.vm.findClass RX0 = some m.cls) {tys : List (ClassId × FieldType)} (hK : va_K (dC, dI) vwCl tys s) (hP : va_P (dC, dI) vwCl (cw cy o a Z X) H) (hdg : decode cc pc = .ok (.getfield 78, 3)) (kk : W p l e R s m args below meth c H locs cells slots Q (F0 m (pc + 3) ls (.int (nI (Z 0 1)) :: rest))) : W p l e R s m args below meth c H locs cells slots Q (F0 m pc ls (.ref o :: rest)) :=
  va_get (D := (dC, dI)) (ci := 0) (C := RX0) (T := TX0) (N := 18) hx hb hts okX0 hown hK hP 0 rfl rfl 1 (by decide) (hts _ (ok_of tF_RX0_78 rfl)) (fun _ h => h) rfl hdg kk
theorem c_g2 (hx : p.tables.exec = Jvm.exec) (hb : c.code = cc) (hts : ∀ w ∈ lw_ok, w.before args s = true) (hown : s.vm.findClass RX0 = some m.cls) {tys : List (ClassId × FieldType)} (hK : va_K (dC, dI) vwCl tys s) (hP : va_P (dC, dI) vwCl (cw cy o a Z X) H) (hdg : decode cc pc = .ok (.getfield 90, 3)) (kk : W p l e R s m args below meth c H locs cells slots Q (F0 m (pc + 3) ls (.int (nI (Z 0 2)) :: rest))) : W p l e R s m args below meth c H locs cells slots Q (F0 m pc ls (.ref o :: rest)) :=
  va_get (D := (dC, dI)) (ci := 0) (C := RX0) (T := TX0) (N := 18) hx hb hts okX0 hown hK hP 0 rfl rfl 2 (by decide) (hts _ (ok_of tF_RX0_90 rfl)) (fun _ h => h) rfl hdg kk
theorem c_g3 (hx : p.tables.exec = Jvm.exec) (hb : c.code = cc) (hts : ∀ w ∈ lw_ok, w.before args s = true) (hown : s.vm.findClass RX0 = some m.cls) {tys : List (ClassId × FieldType)} (hK : va_K (dC, dI) vwCl tys s) (hP : va_P (dC, dI) vwCl (cw cy o a Z X) H) (hdg : decode cc pc = .ok (.getfield 71, 3)) (kk : W p l e R s m args below meth c H locs cells slots Q (F0 m (pc + 3) ls (.int (nI (Z 0 3)) :: rest))) : W p l e R s m args below meth c H locs cells slots Q (F0 m pc ls (.ref o :: rest)) :=
  va_get (D := (dC, dI)) (ci := 0) (C := RX0) (T := TX0) (N := 18) hx hb hts okX0 hown hK hP 0 rfl rfl 3 (by decide) (hts _ (ok_of tF_RX0_71 rfl)) (fun _ h => h) rfl hdg kk
theorem c_g4 (hx : p.tables.exec = Jvm.exec) (hb : c.code = cc) (hts : ∀ w ∈ lw_ok, w.before args s = true) (hown : s.vm.findClass RX0 = some m.cls) {tys : List (ClassId × FieldType)} (hK : va_K (dC, dI) vwCl tys s) (hP : va_P (dC, dI) vwCl (cw cy o a Z X) H) (hdg : decode cc pc = .ok (.getfield 65, 3)) (kk : W p l e R s m args below meth c H locs cells slots Q (F0 m (pc + 3) ls (.int (nI (Z 0 4)) :: rest))) : W p l e R s m args below meth c H locs cells slots Q (F0 m pc ls (.ref o :: rest)) :=
  va_get (D := (dC, dI)) (ci := 0) (C := RX0) (T := TX0) (N := 18) hx hb hts okX0 hown hK hP 0 rfl rfl 4 (by decide) (hts _ (ok_of tF_RX0_65 rfl)) (fun _ h => h) rfl hdg kk
theorem c_g5 (hx : p.tables.exec = Jvm.exec) (hb : c.code = cc) (hts : ∀ w ∈ lw_ok, w.before args s = true) (hown : s.vm.findClass RX0 = some m.cls) {tys : List (ClassId × FieldType)} (hK : va_K (dC, dI) vwCl tys s) (hP : va_P (dC, dI) vwCl (cw cy o a Z X) H) (hdg : decode cc pc = .ok (.getfield 11, 3)) (kk : W p l e R s m args below meth c H locs cells slots Q (F0 m (pc + 3) ls (.ref (a 5) :: rest))) : W p l e R s m args below meth c H locs cells slots Q (F0 m pc ls (.ref o :: rest)) :=
  va_get (D := (dC, dI)) (ci := 0) (C := RX0) (T := TX0) (N := 18) hx hb hts okX0 hown hK hP 0 rfl rfl 5 (by decide) (hts _ (ok_of tF_RX0_11 rfl)) (fun _ h => h) rfl hdg kk
theorem c_l5 (hx : p.tables.exec = Jvm.exec) (hb : c.code = cc) (hK : va_K (dC, dI) vwCl [(cy, .int)] s) (hP : va_P (dC, dI) vwCl (cw cy o a Z X) H) {j : Nat} (hj : j < 30) (hdg : decode cc pc = .ok (.iaload, 1)) (kk : W p l e R s m args below meth c H locs cells slots Q (F0 m (pc + 1) ls (.int (nI (Z 5 j)) :: rest))) : W p l e R s m args below meth c H locs cells slots Q (F0 m pc ls (.int (nI j) :: .ref (a 5) :: rest)) :=
  va_iald hx hb hK hP 1 0 rfl rfl (vp_in_nI hj (by decide)) hdg (by rw [nI_clamp (Nat.lt_trans hj (by decide))]; exact kk)
theorem c_g6 (hx : p.tables.exec = Jvm.exec) (hb : c.code = cc) (hts : ∀ w ∈ lw_ok, w.before args s = true) (hown : s.vm.findClass RX0 = some m.cls) {tys : List (ClassId × FieldType)} (hK : va_K (dC, dI) vwCl tys s) (hP : va_P (dC, dI) vwCl (cw cy o a Z X) H) (hdg : decode cc pc = .ok (.getfield 15, 3)) (kk : W p l e R s m args below meth c H locs cells slots Q (F0 m (pc + 3) ls (.ref (a 6) :: rest))) : W p l e R s m args below meth c H locs cells slots Q (F0 m pc ls (.ref o :: rest)) :=
  va_get (D := (dC, dI)) (ci := 0) (C := RX0) (T := TX0) (N := 18) hx hb hts okX0 hown hK hP 0 rfl rfl 6 (by decide) (hts _ (ok_of tF_RX0_15 rfl)) (fun _ h => h) rfl hdg kk
theorem c_l6 (hx : p.tables.exec = Jvm.exec) (hb : c.code = cc) (hK : va_K (dC, dI) vwCl [(cy, .int)] s) (hP : va_P (dC, dI) vwCl (cw cy o a Z X) H) {j : Nat} (hj : j < 30) (hdg : decode cc pc = .ok (.iaload, 1)) (kk : W p l e R s m args below meth c H locs cells slots Q (F0 m (pc + 1) ls (.int (nI (Z 6 j)) :: rest))) : W p l e R s m args below meth c H locs cells slots Q (F0 m pc ls (.int (nI j) :: .ref (a 6) :: rest)) :=
  va_iald hx hb hK hP 2 0 rfl rfl (vp_in_nI hj (by decide)) hdg (by rw [nI_clamp (Nat.lt_trans hj (by decide))]; exact kk)
theorem c_g7 (hx : p.tables.exec = Jvm.exec) (hb : c.code = cc) (hts : ∀ w ∈ lw_ok, w.before args s = true) (hown : s.vm.findClass RX0 = some m.cls) {tys : List (ClassId × FieldType)} (hK : va_K (dC, dI) vwCl tys s) (hP : va_P (dC, dI) vwCl (cw cy o a Z X) H) (hdg : decode cc pc = .ok (.getfield 18, 3)) (kk : W p l e R s m args below meth c H locs cells slots Q (F0 m (pc + 3) ls (.ref (a 7) :: rest))) : W p l e R s m args below meth c H locs cells slots Q (F0 m pc ls (.ref o :: rest)) :=
  va_get (D := (dC, dI)) (ci := 0) (C := RX0) (T := TX0) (N := 18) hx hb hts okX0 hown hK hP 0 rfl rfl 7 (by decide) (hts _ (ok_of tF_RX0_18 rfl)) (fun _ h => h) rfl hdg kk
theorem c_l7 (hx : p.tables.exec = Jvm.exec) (hb : c.code = cc) (hK : va_K (dC, dI) vwCl [(cy, .int)] s) (hP : va_P (dC, dI) vwCl (cw cy o a Z X) H) {j : Nat} (hj : j < 30) (hdg : decode cc pc = .ok (.iaload, 1)) (kk : W p l e R s m args below meth c H locs cells slots Q (F0 m (pc + 1) ls (.int (nI (Z 7 j)) :: rest))) : W p l e R s m args below meth c H locs cells slots Q (F0 m pc ls (.int (nI j) :: .ref (a 7) :: rest)) :=
  va_iald hx hb hK hP 3 0 rfl rfl (vp_in_nI hj (by decide)) hdg (by rw [nI_clamp (Nat.lt_trans hj (by decide))]; exact kk)
theorem c_g8 (hx : p.tables.exec = Jvm.exec) (hb : c.code = cc) (hts : ∀ w ∈ lw_ok, w.before args s = true) (hown : s.vm.findClass RX0 = some m.cls) {tys : List (ClassId × FieldType)} (hK : va_K (dC, dI) vwCl tys s) (hP : va_P (dC, dI) vwCl (cw cy o a Z X) H) (hdg : decode cc pc = .ok (.getfield 21, 3)) (kk : W p l e R s m args below meth c H locs cells slots Q (F0 m (pc + 3) ls (.ref (a 8) :: rest))) : W p l e R s m args below meth c H locs cells slots Q (F0 m pc ls (.ref o :: rest)) :=
  va_get (D := (dC, dI)) (ci := 0) (C := RX0) (T := TX0) (N := 18) hx hb hts okX0 hown hK hP 0 rfl rfl 8 (by decide) (hts _ (ok_of tF_RX0_21 rfl)) (fun _ h => h) rfl hdg kk
theorem c_l8 (hx : p.tables.exec = Jvm.exec) (hb : c.code = cc) (hK : va_K (dC, dI) vwCl [(cy, .int)] s) (hP : va_P (dC, dI) vwCl (cw cy o a Z X) H) {j : Nat} (hj : j < 8) (hdg : decode cc pc = .ok (.iaload, 1)) (kk : W p l e R s m args below meth c H locs cells slots Q (F0 m (pc + 1) ls (.int (nI (Z 8 j)) :: rest))) : W p l e R s m args below meth c H locs cells slots Q (F0 m pc ls (.int (nI j) :: .ref (a 8) :: rest)) :=
  va_iald hx hb hK hP 4 0 rfl rfl (vp_in_nI hj (by decide)) hdg (by rw [nI_clamp (Nat.lt_trans hj (by decide))]; exact kk)
theorem c_g9 (hx : p.tables.exec = Jvm.exec) (hb : c.code = cc) (hts : ∀ w ∈ lw_ok, w.before args s = true) (hown : s.vm.findClass RX0 = some m.cls) {tys : List (ClassId × FieldType)} (hK : va_K (dC, dI) vwCl tys s) (hP : va_P (dC, dI) vwCl (cw cy o a Z X) H) (hdg : decode cc pc = .ok (.getfield 24, 3)) (kk : W p l e R s m args below meth c H locs cells slots Q (F0 m (pc + 3) ls (.ref (a 9) :: rest))) : W p l e R s m args below meth c H locs cells slots Q (F0 m pc ls (.ref o :: rest)) :=
  va_get (D := (dC, dI)) (ci := 0) (C := RX0) (T := TX0) (N := 18) hx hb hts okX0 hown hK hP 0 rfl rfl 9 (by decide) (hts _ (ok_of tF_RX0_24 rfl)) (fun _ h => h) rfl hdg kk
theorem c_l9 (hx : p.tables.exec = Jvm.exec) (hb : c.code = cc) (hK : va_K (dC, dI) vwCl [(cy, .int)] s) (hP : va_P (dC, dI) vwCl (cw cy o a Z X) H) {j : Nat} (hj : j < 8) (hdg : decode cc pc = .ok (.iaload, 1)) (kk : W p l e R s m args below meth c H locs cells slots Q (F0 m (pc + 1) ls (.int (nI (Z 9 j)) :: rest))) : W p l e R s m args below meth c H locs cells slots Q (F0 m pc ls (.int (nI j) :: .ref (a 9) :: rest)) :=
  va_iald hx hb hK hP 5 0 rfl rfl (vp_in_nI hj (by decide)) hdg (by rw [nI_clamp (Nat.lt_trans hj (by decide))]; exact kk)
theorem c_g10 (hx : p.tables.exec = Jvm.exec) (hb : c.code = cc) (hts : ∀ w ∈ lw_ok, w.before args s = true) (hown : s.vm.findClass RX0 = some m.cls) {tys : List (ClassId × FieldType)} (hK : va_K (dC, dI) vwCl tys s) (hP : va_P (dC, dI) vwCl (cw cy o a Z X) H) (hdg : decode cc pc = .ok (.getfield 27, 3)) (kk : W p l e R s m args below meth c H locs cells slots Q (F0 m (pc + 3) ls (.ref (a 10) :: rest))) : W p l e R s m args below meth c H locs cells slots Q (F0 m pc ls (.ref o :: rest)) :=
  va_get (D := (dC, dI)) (ci := 0) (C := RX0) (T := TX0) (N := 18) hx hb hts okX0 hown hK hP 0 rfl rfl 10 (by decide) (hts _ (ok_of tF_RX0_27 rfl)) (fun _ h => h) rfl hdg kk
theorem c_l10 (hx : p.tables.exec = Jvm.exec) (hb : c.code = cc) (hK : va_K (dC, dI) vwCl [(cy, .int)] s) (hP : va_P (dC, dI) vwCl (cw cy o a Z X) H) {j : Nat} (hj : j < 96) (hdg : decode cc pc = .ok (.iaload, 1)) (kk : W p l e R s m args below meth c H locs cells slots Q (F0 m (pc + 1) ls (.int (nI (Z 10 j)) :: rest))) : W p l e R s m args below meth c H locs cells slots Q (F0 m pc ls (.int (nI j) :: .ref (a 10) :: rest)) :=
  va_iald hx hb hK hP 6 0 rfl rfl (vp_in_nI hj (by decide)) hdg (by rw [nI_clamp (Nat.lt_trans hj (by decide))]; exact kk)
theorem c_g11 (hx : p.tables.exec = Jvm.exec) (hb : c.code = cc) (hts : ∀ w ∈ lw_ok, w.before args s = true) (hown : s.vm.findClass RX0 = some m.cls) {tys : List (ClassId × FieldType)} (hK : va_K (dC, dI) vwCl tys s) (hP : va_P (dC, dI) vwCl (cw cy o a Z X) H) (hdg : decode cc pc = .ok (.getfield 30, 3)) (kk : W p l e R s m args below meth c H locs cells slots Q (F0 m (pc + 3) ls (.ref (a 11) :: rest))) : W p l e R s m args below meth c H locs cells slots Q (F0 m pc ls (.ref o :: rest)) :=
  va_get (D := (dC, dI)) (ci := 0) (C := RX0) (T := TX0) (N := 18) hx hb hts okX0 hown hK hP 0 rfl rfl 11 (by decide) (hts _ (ok_of tF_RX0_30 rfl)) (fun _ h => h) rfl hdg kk
theorem c_l11 (hx : p.tables.exec = Jvm.exec) (hb : c.code = cc) (hK : va_K (dC, dI) vwCl [(cy, .int)] s) (hP : va_P (dC, dI) vwCl (cw cy o a Z X) H) {j : Nat} (hj : j < 60) (hdg : decode cc pc = .ok (.iaload, 1)) (kk : W p l e R s m args below meth c H locs cells slots Q (F0 m (pc + 1) ls (.int (nI (Z 11 j)) :: rest))) : W p l e R s m args below meth c H locs cells slots Q (F0 m pc ls (.int (nI j) :: .ref (a 11) :: rest)) :=
  va_iald hx hb hK hP 7 0 rfl rfl (vp_in_nI hj (by decide)) hdg (by rw [nI_clamp (Nat.lt_trans hj (by decide))]; exact kk)
theorem c_g12 (hx : p.tables.exec = Jvm.exec) (hb : c.code = cc) (hts : ∀ w ∈ lw_ok, w.before args s = true) (hown : s.vm.findClass RX0 = some m.cls) {tys : List (ClassId × FieldType)} (hK : va_K (dC, dI) vwCl tys s) (hP : va_P (dC, dI) vwCl (cw cy o a Z X) H) (hdg : decode cc pc = .ok (.getfield 33, 3)) (kk : W p l e R s m args below meth c H locs cells slots Q (F0 m (pc + 3) ls (.ref (a 12) :: rest))) : W p l e R s m args below meth c H locs cells slots Q (F0 m pc ls (.ref o :: rest)) :=
  va_get (D := (dC, dI)) (ci := 0) (C := RX0) (T := TX0) (N := 18) hx hb hts okX0 hown hK hP 0 rfl rfl 12 (by decide) (hts _ (ok_of tF_RX0_33 rfl)) (fun _ h => h) rfl hdg kk
theorem c_l12 (hx : p.tables.exec = Jvm.exec) (hb : c.code = cc) (hK : va_K (dC, dI) vwCl [(cy, .int)] s) (hP : va_P (dC, dI) vwCl (cw cy o a Z X) H) {j : Nat} (hj : j < 60) (hdg : decode cc pc = .ok (.iaload, 1)) (kk : W p l e R s m args below meth c H locs cells slots Q (F0 m (pc + 1) ls (.int (nI (Z 12 j)) :: rest))) : W p l e R s m args below meth c H locs cells slots Q (F0 m pc ls (.int (nI j) :: .ref (a 12) :: rest)) :=
  va_iald hx hb hK hP 8 0 rfl rfl (vp_in_nI hj (by decide)) hdg (by rw [nI_clamp (Nat.lt_trans hj (by decide))]; exact kk)
theorem c_g13 (hx : p.tables.exec = Jvm.exec) (hb : c.code = cc) (hts : ∀ w ∈ lw_ok, w.before args s = true) (hown : s.vm.findClass RX0 = some m.cls) {tys : List (ClassId × FieldType)} (hK : va_K (dC, dI) vwCl tys s) (hP : va_P (dC, dI) vwCl (cw cy o a Z X) H) (hdg : decode cc pc = .ok (.getfield 36, 3)) (kk : W p l e R s m args below meth c H locs cells slots Q (F0 m (pc + 3) ls (.ref (a 13) :: rest))) : W p l e R s m args below meth c H locs cells slots Q (F0 m pc ls (.ref o :: rest)) :=
  va_get (D := (dC, dI)) (ci := 0) (C := RX0) (T := TX0) (N := 18) hx hb hts okX0 hown hK hP 0 rfl rfl 13 (by decide) (hts _ (ok_of tF_RX0_36 rfl)) (fun _ h => h) rfl hdg kk
theorem c_l13 (hx : p.tables.exec = Jvm.exec) (hb : c.code = cc) (hK : va_K (dC, dI) vwCl [(cy, .int)] s) (hP : va_P (dC, dI) vwCl (cw cy o a Z X) H) {j : Nat} (hj : j < 720) (hdg : decode cc pc = .ok (.iaload, 1)) (kk : W p l e R s m args below meth c H locs cells slots Q (F0 m (pc + 1) ls (.int (gv (Z 13 j)) :: rest))) : W p l e R s m args below meth c H locs cells slots Q (F0 m pc ls (.int (nI j) :: .ref (a 13) :: rest)) :=
  va_iald hx hb hK hP 9 0 rfl rfl (vp_in_nI hj (by decide)) hdg (by rw [nI_clamp (Nat.lt_trans hj (by decide))]; exact kk)
theorem c_g14 (hx : p.tables.exec = Jvm.exec) (hb : c.code = cc) (hts : ∀ w ∈ lw_ok, w.before args s = true) (hown : s.vm.findClass RX0 = some m.cls) {tys : List (ClassId × FieldType)} (hK : va_K (dC, dI) vwCl tys s) (hP : va_P (dC, dI) vwCl (cw cy o a Z X) H) (hdg : decode cc pc = .ok (.getfield 39, 3)) (kk : W p l e R s m args below meth c H locs cells slots Q (F0 m (pc + 3) ls (.ref (a 14) :: rest))) : W p l e R s m args below meth c H locs cells slots Q (F0 m pc ls (.ref o :: rest)) :=
  va_get (D := (dC, dI)) (ci := 0) (C := RX0) (T := TX0) (N := 18) hx hb hts okX0 hown hK hP 0 rfl rfl 14 (by decide) (hts _ (ok_of tF_RX0_39 rfl)) (fun _ h => h) rfl hdg kk
theorem c_l14 (hx : p.tables.exec = Jvm.exec) (hb : c.code = cc) (hK : va_K (dC, dI) vwCl [(cy, .int)] s) (hP : va_P (dC, dI) vwCl (cw cy o a Z X) H) {j : Nat} (hj : j < 768) (hdg : decode cc pc = .ok (.iaload, 1)) (kk : W p l e R s m args below meth c H locs cells slots Q (F0 m (pc + 1) ls (.int (gv (Z 14 j)) :: rest))) : W p l e R s m args below meth c H locs cells slots Q (F0 m pc ls (.int (nI j) :: .ref (a 14) :: rest)) :=
  va_iald hx hb hK hP 10 0 rfl rfl (vp_in_nI hj (by decide)) hdg (by rw [nI_clamp (Nat.lt_trans hj (by decide))]; exact kk)
theorem c_g15 (hx : p.tables.exec = Jvm.exec) (hb : c.code = cc) (hts : ∀ w ∈ lw_ok, w.before args s = true) (hown : s.vm.findClass RX0 = some m.cls) {tys : List (ClassId × FieldType)} (hK : va_K (dC, dI) vwCl tys s) (hP : va_P (dC, dI) vwCl (cw cy o a Z X) H) (hdg : decode cc pc = .ok (.getfield 42, 3)) (kk : W p l e R s m args below meth c H locs cells slots Q (F0 m (pc + 3) ls (.ref (a 15) :: rest))) : W p l e R s m args below meth c H locs cells slots Q (F0 m pc ls (.ref o :: rest)) :=
  va_get (D := (dC, dI)) (ci := 0) (C := RX0) (T := TX0) (N := 18) hx hb hts okX0 hown hK hP 0 rfl rfl 15 (by decide) (hts _ (ok_of tF_RX0_42 rfl)) (fun _ h => h) rfl hdg kk
theorem c_l15 (hx : p.tables.exec = Jvm.exec) (hb : c.code = cc) (hK : va_K (dC, dI) vwCl [(cy, .int)] s) (hP : va_P (dC, dI) vwCl (cw cy o a Z X) H) {j : Nat} (hj : j < 60) (hdg : decode cc pc = .ok (.iaload, 1)) (kk : W p l e R s m args below meth c H locs cells slots Q (F0 m (pc + 1) ls (.int (nI (X 0 j)) :: rest))) : W p l e R s m args below meth c H locs cells slots Q (F0 m pc ls (.int (nI j) :: .ref (a 15) :: rest)) :=
  va_iald hx hb hK hP 11 0 rfl rfl (vp_in_nI hj (by decide)) hdg (by rw [nI_clamp (Nat.lt_trans hj (by decide))]; exact kk)
theorem c_g16 (hx : p.tables.exec = Jvm.exec) (hb : c.code = cc) (hts : ∀ w ∈ lw_ok, w.before args s = true) (hown : s.vm.findClass RX0 = some m.cls) {tys : List (ClassId × FieldType)} (hK : va_K (dC, dI) vwCl tys s) (hP : va_P (dC, dI) vwCl (cw cy o a Z X) H) (hdg : decode cc pc = .ok (.getfield 45, 3)) (kk : W p l e R s m args below meth c H locs cells slots Q (F0 m (pc + 3) ls (.ref (a 16) :: rest))) : W p l e R s m args below meth c H locs cells slots Q (F0 m pc ls (.ref o :: rest)) :=
  va_get (D := (dC, dI)) (ci := 0) (C := RX0) (T := TX0) (N := 18) hx hb hts okX0 hown hK hP 0 rfl rfl 16 (by decide) (hts _ (ok_of tF_RX0_45 rfl)) (fun _ h => h) rfl hdg kk
theorem c_l16 (hx : p.tables.exec = Jvm.exec) (hb : c.code = cc) (hK : va_K (dC, dI) vwCl [(cy, .int)] s) (hP : va_P (dC, dI) vwCl (cw cy o a Z X) H) {j : Nat} (hj : j < 4) (hdg : decode cc pc = .ok (.iaload, 1)) (kk : W p l e R s m args below meth c H locs cells slots Q (F0 m (pc + 1) ls (.int (nI (X 1 j)) :: rest))) : W p l e R s m args below meth c H locs cells slots Q (F0 m pc ls (.int (nI j) :: .ref (a 16) :: rest)) :=
  va_iald hx hb hK hP 12 0 rfl rfl (vp_in_nI hj (by decide)) hdg (by rw [nI_clamp (Nat.lt_trans hj (by decide))]; exact kk)
theorem c_g17 (hx : p.tables.exec = Jvm.exec) (hb : c.code = cc) (hts : ∀ w ∈ lw_ok, w.before args s = true) (hown : s.vm.findClass RX0 = some m.cls) {tys : List (ClassId × FieldType)} (hK : va_K (dC, dI) vwCl tys s) (hP : va_P (dC, dI) vwCl (cw cy o a Z X) H) (hdg : decode cc pc = .ok (.getfield 48, 3)) (kk : W p l e R s m args below meth c H locs cells slots Q (F0 m (pc + 3) ls (.ref (a 17) :: rest))) : W p l e R s m args below meth c H locs cells slots Q (F0 m pc ls (.ref o :: rest)) :=
  va_get (D := (dC, dI)) (ci := 0) (C := RX0) (T := TX0) (N := 18) hx hb hts okX0 hown hK hP 0 rfl rfl 17 (by decide) (hts _ (ok_of tF_RX0_48 rfl)) (fun _ h => h) rfl hdg kk
theorem c_l17 (hx : p.tables.exec = Jvm.exec) (hb : c.code = cc) (hK : va_K (dC, dI) vwCl [(cy, .int)] s) (hP : va_P (dC, dI) vwCl (cw cy o a Z X) H) {j : Nat} (hj : j < 4) (hdg : decode cc pc = .ok (.iaload, 1)) (kk : W p l e R s m args below meth c H locs cells slots Q (F0 m (pc + 1) ls (.int (nI (X 2 j)) :: rest))) : W p l e R s m args below meth c H locs cells slots Q (F0 m pc ls (.int (nI j) :: .ref (a 17) :: rest)) :=
  va_iald hx hb hK hP 13 0 rfl rfl (vp_in_nI hj (by decide)) hdg (by rw [nI_clamp (Nat.lt_trans hj (by decide))]; exact kk)
theorem c_set5 {j v : Nat} : (cw cy o a Z X).set 1 (a 5, .inl (cy, 30, .inl (upd (fun i => nI (Z 5 i)) j (nI v)))) = cw cy o a (zu Z 5 j v) X := by
  rw [upd_nI]; rfl
theorem c_s5 (hx : p.tables.exec = Jvm.exec) (hb : c.code = cc) (hK : va_K (dC, dI) vwCl [(cy, .int)] s) (hP : va_P (dC, dI) vwCl (cw cy o a Z X) H) (hD : va_D A (cw cy o a Z X)) (hS : va_S A H0 H locs) {j v : Nat} (hj : j < 30) (hdg : decode cc pc = .ok (.iastore, 1)) (kk : ∀ (H1 : Heap) (locs1 : List Loc), va_P (dC, dI) vwCl (cw cy o a (zu Z 5 j v) X) H1 → va_D A (cw cy o a (zu Z 5 j v) X) → va_S A H0 H1 locs1 → W p l e R s m args below meth c H1 locs1 cells slots Q (F0 m (pc + 1) ls rest)) : W p l e R s m args below meth c H locs cells slots Q (F0 m pc ls (.int (nI v) :: .int (nI j) :: .ref (a 5) :: rest)) := by
  refine va_iast hx hb hK hP hD hS 1 0 rfl rfl (vp_in_nI hj (by decide)) hdg (fun H1 locs1 h1 h2 h3 => ?_)
  rw [nI_clamp (Nat.lt_trans hj (by decide)), c_set5] at h1 h2
  exact kk H1 locs1 h1 h2 h3
theorem c_set6 {j v : Nat} : (cw cy o a Z X).set 2 (a 6, .inl (cy, 30, .inl (upd (fun i => nI (Z 6 i)) j (nI v)))) = cw cy o a (zu Z 6 j v) X := by
  rw [upd_nI]; rfl
theorem c_s6 (hx : p.tables.exec = Jvm.exec) (hb : c.code = cc) (hK : va_K (dC, dI) vwCl [(cy, .int)] s) (hP : va_P (dC, dI) vwCl (cw cy o a Z X) H) (hD : va_D A (cw cy o a Z X)) (hS : va_S A H0 H locs) {j v : Nat} (hj : j < 30) (hdg : decode cc pc = .ok (.iastore, 1)) (kk : ∀ (H1 : Heap) (locs1 : List Loc), va_P (dC, dI) vwCl (cw cy o a (zu Z 6 j v) X) H1 → va_D A (cw cy o a (zu Z 6 j v) X) → va_S A H0 H1 locs1 → W p l e R s m args below meth c H1 locs1 cells slots Q (F0 m (pc + 1) ls rest)) : W p l e R s m args below meth c H locs cells slots Q (F0 m pc ls (.int (nI v) :: .int (nI j) :: .ref (a 6) :: rest)) := by
  refine va_iast hx hb hK hP hD hS 2 0 rfl rfl (vp_in_nI hj (by decide)) hdg (fun H1 locs1 h1 h2 h3 => ?_)
  rw [nI_clamp (Nat.lt_trans hj (by decide)), c_set6] at h1 h2
  exact kk H1 locs1 h1 h2 h3
theorem c_set7 {j v : Nat} : (cw cy o a Z X).set 3 (a 7, .inl (cy, 30, .inl (upd (fun i => nI (Z 7 i)) j (nI v)))) = cw cy o a (zu Z 7 j v) X := by
  rw [upd_nI]; rfl
theorem c_s7 (hx : p.tables.exec = Jvm.exec) (hb : c.code = cc) (hK : va_K (dC, dI) vwCl [(cy, .int)] s) (hP : va_P (dC, dI) vwCl (cw cy o a Z X) H) (hD : va_D A (cw cy o a Z X)) (hS : va_S A H0 H locs) {j v : Nat} (hj : j < 30) (hdg : decode cc pc = .ok (.iastore, 1)) (kk : ∀ (H1 : Heap) (locs1 : List Loc), va_P (dC, dI) vwCl (cw cy o a (zu Z 7 j v) X) H1 → va_D A (cw cy o a (zu Z 7 j v) X) → va_S A H0 H1 locs1 → W p l e R s m args below meth c H1 locs1 cells slots Q (F0 m (pc + 1) ls rest)) : W p l e R s m args below meth c H locs cells slots Q (F0 m pc ls (.int (nI v) :: .int (nI j) :: .ref (a 7) :: rest)) := by
  refine va_iast hx hb hK hP hD hS 3 0 rfl rfl (vp_in_nI hj (by decide)) hdg (fun H1 locs1 h1 h2 h3 => ?_)
  rw [nI_clamp (Nat.lt_trans hj (by decide)), c_set7] at h1 h2
  exact kk H1 locs1 h1 h2 h3
theorem c_set8 {j v : Nat} : (cw cy o a Z X).set 4 (a 8, .inl (cy, 8, .inl (upd (fun i => nI (Z 8 i)) j (nI v)))) = cw cy o a (zu Z 8 j v) X := by
  rw [upd_nI]; rfl
theorem c_s8 (hx : p.tables.exec = Jvm.exec) (hb : c.code = cc) (hK : va_K (dC, dI) vwCl [(cy, .int)] s) (hP : va_P (dC, dI) vwCl (cw cy o a Z X) H) (hD : va_D A (cw cy o a Z X)) (hS : va_S A H0 H locs) {j v : Nat} (hj : j < 8) (hdg : decode cc pc = .ok (.iastore, 1)) (kk : ∀ (H1 : Heap) (locs1 : List Loc), va_P (dC, dI) vwCl (cw cy o a (zu Z 8 j v) X) H1 → va_D A (cw cy o a (zu Z 8 j v) X) → va_S A H0 H1 locs1 → W p l e R s m args below meth c H1 locs1 cells slots Q (F0 m (pc + 1) ls rest)) : W p l e R s m args below meth c H locs cells slots Q (F0 m pc ls (.int (nI v) :: .int (nI j) :: .ref (a 8) :: rest)) := by
  refine va_iast hx hb hK hP hD hS 4 0 rfl rfl (vp_in_nI hj (by decide)) hdg (fun H1 locs1 h1 h2 h3 => ?_)
  rw [nI_clamp (Nat.lt_trans hj (by decide)), c_set8] at h1 h2
  exact kk H1 locs1 h1 h2 h3
theorem c_set9 {j v : Nat} : (cw cy o a Z X).set 5 (a 9, .inl (cy, 8, .inl (upd (fun i => nI (Z 9 i)) j (nI v)))) = cw cy o a (zu Z 9 j v) X := by
  rw [upd_nI]; rfl
theorem c_s9 (hx : p.tables.exec = Jvm.exec) (hb : c.code = cc) (hK : va_K (dC, dI) vwCl [(cy, .int)] s) (hP : va_P (dC, dI) vwCl (cw cy o a Z X) H) (hD : va_D A (cw cy o a Z X)) (hS : va_S A H0 H locs) {j v : Nat} (hj : j < 8) (hdg : decode cc pc = .ok (.iastore, 1)) (kk : ∀ (H1 : Heap) (locs1 : List Loc), va_P (dC, dI) vwCl (cw cy o a (zu Z 9 j v) X) H1 → va_D A (cw cy o a (zu Z 9 j v) X) → va_S A H0 H1 locs1 → W p l e R s m args below meth c H1 locs1 cells slots Q (F0 m (pc + 1) ls rest)) : W p l e R s m args below meth c H locs cells slots Q (F0 m pc ls (.int (nI v) :: .int (nI j) :: .ref (a 9) :: rest)) := by
  refine va_iast hx hb hK hP hD hS 5 0 rfl rfl (vp_in_nI hj (by decide)) hdg (fun H1 locs1 h1 h2 h3 => ?_)
  rw [nI_clamp (Nat.lt_trans hj (by decide)), c_set9] at h1 h2
  exact kk H1 locs1 h1 h2 h3
theorem c_set10 {j v : Nat} : (cw cy o a Z X).set 6 (a 10, .inl (cy, 96, .inl (upd (fun i => nI (Z 10 i)) j (nI v)))) = cw cy o a (zu Z 10 j v) X := by
  rw [upd_nI]; rfl
theorem c_s10 (hx : p.tables.exec = Jvm.exec) (hb : c.code = cc) (hK : va_K (dC, dI) vwCl [(cy, .int)] s) (hP : va_P (dC, dI) vwCl (cw cy o a Z X) H) (hD : va_D A (cw cy o a Z X)) (hS : va_S A H0 H locs) {j v : Nat} (hj : j < 96) (hdg : decode cc pc = .ok (.iastore, 1)) (kk : ∀ (H1 : Heap) (locs1 : List Loc), va_P (dC, dI) vwCl (cw cy o a (zu Z 10 j v) X) H1 → va_D A (cw cy o a (zu Z 10 j v) X) → va_S A H0 H1 locs1 → W p l e R s m args below meth c H1 locs1 cells slots Q (F0 m (pc + 1) ls rest)) : W p l e R s m args below meth c H locs cells slots Q (F0 m pc ls (.int (nI v) :: .int (nI j) :: .ref (a 10) :: rest)) := by
  refine va_iast hx hb hK hP hD hS 6 0 rfl rfl (vp_in_nI hj (by decide)) hdg (fun H1 locs1 h1 h2 h3 => ?_)
  rw [nI_clamp (Nat.lt_trans hj (by decide)), c_set10] at h1 h2
  exact kk H1 locs1 h1 h2 h3
theorem c_set11 {j v : Nat} : (cw cy o a Z X).set 7 (a 11, .inl (cy, 60, .inl (upd (fun i => nI (Z 11 i)) j (nI v)))) = cw cy o a (zu Z 11 j v) X := by
  rw [upd_nI]; rfl
theorem c_s11 (hx : p.tables.exec = Jvm.exec) (hb : c.code = cc) (hK : va_K (dC, dI) vwCl [(cy, .int)] s) (hP : va_P (dC, dI) vwCl (cw cy o a Z X) H) (hD : va_D A (cw cy o a Z X)) (hS : va_S A H0 H locs) {j v : Nat} (hj : j < 60) (hdg : decode cc pc = .ok (.iastore, 1)) (kk : ∀ (H1 : Heap) (locs1 : List Loc), va_P (dC, dI) vwCl (cw cy o a (zu Z 11 j v) X) H1 → va_D A (cw cy o a (zu Z 11 j v) X) → va_S A H0 H1 locs1 → W p l e R s m args below meth c H1 locs1 cells slots Q (F0 m (pc + 1) ls rest)) : W p l e R s m args below meth c H locs cells slots Q (F0 m pc ls (.int (nI v) :: .int (nI j) :: .ref (a 11) :: rest)) := by
  refine va_iast hx hb hK hP hD hS 7 0 rfl rfl (vp_in_nI hj (by decide)) hdg (fun H1 locs1 h1 h2 h3 => ?_)
  rw [nI_clamp (Nat.lt_trans hj (by decide)), c_set11] at h1 h2
  exact kk H1 locs1 h1 h2 h3
theorem c_set12 {j v : Nat} : (cw cy o a Z X).set 8 (a 12, .inl (cy, 60, .inl (upd (fun i => nI (Z 12 i)) j (nI v)))) = cw cy o a (zu Z 12 j v) X := by
  rw [upd_nI]; rfl
theorem c_s12 (hx : p.tables.exec = Jvm.exec) (hb : c.code = cc) (hK : va_K (dC, dI) vwCl [(cy, .int)] s) (hP : va_P (dC, dI) vwCl (cw cy o a Z X) H) (hD : va_D A (cw cy o a Z X)) (hS : va_S A H0 H locs) {j v : Nat} (hj : j < 60) (hdg : decode cc pc = .ok (.iastore, 1)) (kk : ∀ (H1 : Heap) (locs1 : List Loc), va_P (dC, dI) vwCl (cw cy o a (zu Z 12 j v) X) H1 → va_D A (cw cy o a (zu Z 12 j v) X) → va_S A H0 H1 locs1 → W p l e R s m args below meth c H1 locs1 cells slots Q (F0 m (pc + 1) ls rest)) : W p l e R s m args below meth c H locs cells slots Q (F0 m pc ls (.int (nI v) :: .int (nI j) :: .ref (a 12) :: rest)) := by
  refine va_iast hx hb hK hP hD hS 8 0 rfl rfl (vp_in_nI hj (by decide)) hdg (fun H1 locs1 h1 h2 h3 => ?_)
  rw [nI_clamp (Nat.lt_trans hj (by decide)), c_set12] at h1 h2
  exact kk H1 locs1 h1 h2 h3
theorem c_set13 {j v : Nat} : (cw cy o a Z X).set 9 (a 13, .inl (cy, 720, .inl (upd (fun i => gv (Z 13 i)) j (gv v)))) = cw cy o a (zu Z 13 j v) X := by
  rw [upd_gv]; rfl
theorem c_s13 (hx : p.tables.exec = Jvm.exec) (hb : c.code = cc) (hK : va_K (dC, dI) vwCl [(cy, .int)] s) (hP : va_P (dC, dI) vwCl (cw cy o a Z X) H) (hD : va_D A (cw cy o a Z X)) (hS : va_S A H0 H locs) {j v : Nat} (hj : j < 720) (hdg : decode cc pc = .ok (.iastore, 1)) (kk : ∀ (H1 : Heap) (locs1 : List Loc), va_P (dC, dI) vwCl (cw cy o a (zu Z 13 j v) X) H1 → va_D A (cw cy o a (zu Z 13 j v) X) → va_S A H0 H1 locs1 → W p l e R s m args below meth c H1 locs1 cells slots Q (F0 m (pc + 1) ls rest)) : W p l e R s m args below meth c H locs cells slots Q (F0 m pc ls (.int (gv v) :: .int (nI j) :: .ref (a 13) :: rest)) := by
  refine va_iast hx hb hK hP hD hS 9 0 rfl rfl (vp_in_nI hj (by decide)) hdg (fun H1 locs1 h1 h2 h3 => ?_)
  rw [nI_clamp (Nat.lt_trans hj (by decide)), c_set13] at h1 h2
  exact kk H1 locs1 h1 h2 h3
theorem c_set14 {j v : Nat} : (cw cy o a Z X).set 10 (a 14, .inl (cy, 768, .inl (upd (fun i => gv (Z 14 i)) j (gv v)))) = cw cy o a (zu Z 14 j v) X := by
  rw [upd_gv]; rfl
theorem c_s14 (hx : p.tables.exec = Jvm.exec) (hb : c.code = cc) (hK : va_K (dC, dI) vwCl [(cy, .int)] s) (hP : va_P (dC, dI) vwCl (cw cy o a Z X) H) (hD : va_D A (cw cy o a Z X)) (hS : va_S A H0 H locs) {j v : Nat} (hj : j < 768) (hdg : decode cc pc = .ok (.iastore, 1)) (kk : ∀ (H1 : Heap) (locs1 : List Loc), va_P (dC, dI) vwCl (cw cy o a (zu Z 14 j v) X) H1 → va_D A (cw cy o a (zu Z 14 j v) X) → va_S A H0 H1 locs1 → W p l e R s m args below meth c H1 locs1 cells slots Q (F0 m (pc + 1) ls rest)) : W p l e R s m args below meth c H locs cells slots Q (F0 m pc ls (.int (gv v) :: .int (nI j) :: .ref (a 14) :: rest)) := by
  refine va_iast hx hb hK hP hD hS 10 0 rfl rfl (vp_in_nI hj (by decide)) hdg (fun H1 locs1 h1 h2 h3 => ?_)
  rw [nI_clamp (Nat.lt_trans hj (by decide)), c_set14] at h1 h2
  exact kk H1 locs1 h1 h2 h3
theorem c_set15 {j v : Nat} : (cw cy o a Z X).set 11 (a 15, .inl (cy, 60, .inl (upd (fun i => nI (X 0 i)) j (nI v)))) = cw cy o a Z (zu X 0 j v) := by
  rw [upd_nI]; rfl
theorem c_s15 (hx : p.tables.exec = Jvm.exec) (hb : c.code = cc) (hK : va_K (dC, dI) vwCl [(cy, .int)] s) (hP : va_P (dC, dI) vwCl (cw cy o a Z X) H) (hD : va_D A (cw cy o a Z X)) (hS : va_S A H0 H locs) {j v : Nat} (hj : j < 60) (hdg : decode cc pc = .ok (.iastore, 1)) (kk : ∀ (H1 : Heap) (locs1 : List Loc), va_P (dC, dI) vwCl (cw cy o a Z (zu X 0 j v)) H1 → va_D A (cw cy o a Z (zu X 0 j v)) → va_S A H0 H1 locs1 → W p l e R s m args below meth c H1 locs1 cells slots Q (F0 m (pc + 1) ls rest)) : W p l e R s m args below meth c H locs cells slots Q (F0 m pc ls (.int (nI v) :: .int (nI j) :: .ref (a 15) :: rest)) := by
  refine va_iast hx hb hK hP hD hS 11 0 rfl rfl (vp_in_nI hj (by decide)) hdg (fun H1 locs1 h1 h2 h3 => ?_)
  rw [nI_clamp (Nat.lt_trans hj (by decide)), c_set15] at h1 h2
  exact kk H1 locs1 h1 h2 h3
theorem c_set16 {j v : Nat} : (cw cy o a Z X).set 12 (a 16, .inl (cy, 4, .inl (upd (fun i => nI (X 1 i)) j (nI v)))) = cw cy o a Z (zu X 1 j v) := by
  rw [upd_nI]; rfl
theorem c_s16 (hx : p.tables.exec = Jvm.exec) (hb : c.code = cc) (hK : va_K (dC, dI) vwCl [(cy, .int)] s) (hP : va_P (dC, dI) vwCl (cw cy o a Z X) H) (hD : va_D A (cw cy o a Z X)) (hS : va_S A H0 H locs) {j v : Nat} (hj : j < 4) (hdg : decode cc pc = .ok (.iastore, 1)) (kk : ∀ (H1 : Heap) (locs1 : List Loc), va_P (dC, dI) vwCl (cw cy o a Z (zu X 1 j v)) H1 → va_D A (cw cy o a Z (zu X 1 j v)) → va_S A H0 H1 locs1 → W p l e R s m args below meth c H1 locs1 cells slots Q (F0 m (pc + 1) ls rest)) : W p l e R s m args below meth c H locs cells slots Q (F0 m pc ls (.int (nI v) :: .int (nI j) :: .ref (a 16) :: rest)) := by
  refine va_iast hx hb hK hP hD hS 12 0 rfl rfl (vp_in_nI hj (by decide)) hdg (fun H1 locs1 h1 h2 h3 => ?_)
  rw [nI_clamp (Nat.lt_trans hj (by decide)), c_set16] at h1 h2
  exact kk H1 locs1 h1 h2 h3
theorem c_set17 {j v : Nat} : (cw cy o a Z X).set 13 (a 17, .inl (cy, 4, .inl (upd (fun i => nI (X 2 i)) j (nI v)))) = cw cy o a Z (zu X 2 j v) := by
  rw [upd_nI]; rfl
theorem c_s17 (hx : p.tables.exec = Jvm.exec) (hb : c.code = cc) (hK : va_K (dC, dI) vwCl [(cy, .int)] s) (hP : va_P (dC, dI) vwCl (cw cy o a Z X) H) (hD : va_D A (cw cy o a Z X)) (hS : va_S A H0 H locs) {j v : Nat} (hj : j < 4) (hdg : decode cc pc = .ok (.iastore, 1)) (kk : ∀ (H1 : Heap) (locs1 : List Loc), va_P (dC, dI) vwCl (cw cy o a Z (zu X 2 j v)) H1 → va_D A (cw cy o a Z (zu X 2 j v)) → va_S A H0 H1 locs1 → W p l e R s m args below meth c H1 locs1 cells slots Q (F0 m (pc + 1) ls rest)) : W p l e R s m args below meth c H locs cells slots Q (F0 m pc ls (.int (nI v) :: .int (nI j) :: .ref (a 17) :: rest)) := by
  refine va_iast hx hb hK hP hD hS 13 0 rfl rfl (vp_in_nI hj (by decide)) hdg (fun H1 locs1 h1 h2 h3 => ?_)
  rw [nI_clamp (Nat.lt_trans hj (by decide)), c_set17] at h1 h2
  exact kk H1 locs1 h1 h2 h3
theorem c_p0 (hx : p.tables.exec = Jvm.exec) (hb : c.code = cc) (hts : ∀ w ∈ lw_ok, w.before args s = true) (hown : s.vm.findClass RX0 = some m.cls) (hK : va_K (dC, dI) vwCl [(cy, .int)] s) (hP : va_P (dC, dI) vwCl (cw cy o a Z X) H) (hD : va_D A (cw cy o a Z X)) (hS : va_S A H0 H locs) {v : Nat} (hdg : decode cc pc = .ok (.putfield 61, 3)) (kk : ∀ (H1 : Heap) (locs1 : List Loc), va_P (dC, dI) vwCl (cw cy o a (zu Z 0 0 v) X) H1 → va_D A (cw cy o a (zu Z 0 0 v) X) → va_S A H0 H1 locs1 → W p l e R s m args below meth c H1 locs1 cells slots Q (F0 m (pc + 3) ls rest)) : W p l e R s m args below meth c H locs cells slots Q (F0 m pc ls (.int (nI v) :: .ref o :: rest)) :=
  va_put (D := (dC, dI)) (ci := 0) (v := .int (nI v)) (ty := .int) (C := RX0) (T := TX0) (N := 18) hx hb hts okX0 tyX0 tyX0_ok nmX0 hown hK hP hD hS 0 rfl rfl 0 (by decide) (hts _ (ok_of tF_RX0_61 rfl)) (fun _ h => h) rfl (by decide +kernel) rfl rfl (Nat.le_of_ble_eq_true rfl) hdg (fun H1 locs1 h1 h2 h3 => kk H1 locs1 h1 h2 h3)
theorem c_p1 (hx : p.tables.exec = Jvm.exec) (hb : c.code = cc) (hts : ∀ w ∈ lw_ok, w.before args s = true) (hown : s.vm.findClass RX0 = some m.cls) (hK : va_K (dC, dI) vwCl [(cy, .int)] s) (hP : va_P (dC, dI) vwCl (cw cy o a Z X) H) (hD : va_D A (cw cy o a Z X)) (hS : va_S A H0 H locs) {v : Nat} (hdg : decode cc pc = .ok (.putfield 78, 3)) (kk : ∀ (H1 : Heap) (locs1 : List Loc), va_P (dC, dI) vwCl (cw cy o a (zu Z 0 1 v) X) H1 → va_D A (cw cy o a (zu Z 0 1 v) X) → va_S A H0 H1 locs1 → W p l e R s m args below meth c H1 locs1 cells slots Q (F0 m (pc + 3) ls rest)) : W p l e R s m args below meth c H locs cells slots Q (F0 m pc ls (.int (nI v) :: .ref o :: rest)) :=
  va_put (D := (dC, dI)) (ci := 0) (v := .int (nI v)) (ty := .int) (C := RX0) (T := TX0) (N := 18) hx hb hts okX0 tyX0 tyX0_ok nmX0 hown hK hP hD hS 0 rfl rfl 1 (by decide) (hts _ (ok_of tF_RX0_78 rfl)) (fun _ h => h) rfl (by decide +kernel) rfl rfl (Nat.le_of_ble_eq_true rfl) hdg (fun H1 locs1 h1 h2 h3 => kk H1 locs1 h1 h2 h3)
theorem c_p2 (hx : p.tables.exec = Jvm.exec) (hb : c.code = cc) (hts : ∀ w ∈ lw_ok, w.before args s = true) (hown : s.vm.findClass RX0 = some m.cls) (hK : va_K (dC, dI) vwCl [(cy, .int)] s) (hP : va_P (dC, dI) vwCl (cw cy o a Z X) H) (hD : va_D A (cw cy o a Z X)) (hS : va_S A H0 H locs) {v : Nat} (hdg : decode cc pc = .ok (.putfield 90, 3)) (kk : ∀ (H1 : Heap) (locs1 : List Loc), va_P (dC, dI) vwCl (cw cy o a (zu Z 0 2 v) X) H1 → va_D A (cw cy o a (zu Z 0 2 v) X) → va_S A H0 H1 locs1 → W p l e R s m args below meth c H1 locs1 cells slots Q (F0 m (pc + 3) ls rest)) : W p l e R s m args below meth c H locs cells slots Q (F0 m pc ls (.int (nI v) :: .ref o :: rest)) :=
  va_put (D := (dC, dI)) (ci := 0) (v := .int (nI v)) (ty := .int) (C := RX0) (T := TX0) (N := 18) hx hb hts okX0 tyX0 tyX0_ok nmX0 hown hK hP hD hS 0 rfl rfl 2 (by decide) (hts _ (ok_of tF_RX0_90 rfl)) (fun _ h => h) rfl (by decide +kernel) rfl rfl (Nat.le_of_ble_eq_true rfl) hdg (fun H1 locs1 h1 h2 h3 => kk H1 locs1 h1 h2 h3)
theorem c_p3 (hx : p.tables.exec = Jvm.exec) (hb : c.code = cc) (hts : ∀ w ∈ lw_ok, w.before args s = true) (hown : s.vm.findClass RX0 = some m.cls) (hK : va_K (dC, dI) vwCl [(cy, .int)] s) (hP : va_P (dC, dI) vwCl (cw cy o a Z X) H) (hD : va_D A (cw cy o a Z X)) (hS : va_S A H0 H locs) {v : Nat} (hdg : decode cc pc = .ok (.putfield 71, 3)) (kk : ∀ (H1 : Heap) (locs1 : List Loc), va_P (dC, dI) vwCl (cw cy o a (zu Z 0 3 v) X) H1 → va_D A (cw cy o a (zu Z 0 3 v) X) → va_S A H0 H1 locs1 → W p l e R s m args below meth c H1 locs1 cells slots Q (F0 m (pc + 3) ls rest)) : W p l e R s m args below meth c H locs cells slots Q (F0 m pc ls (.int (nI v) :: .ref o :: rest)) :=
  va_put (D := (dC, dI)) (ci := 0) (v := .int (nI v)) (ty := .int) (C := RX0) (T := TX0) (N := 18) hx hb hts okX0 tyX0 tyX0_ok nmX0 hown hK hP hD hS 0 rfl rfl 3 (by decide) (hts _ (ok_of tF_RX0_71 rfl)) (fun _ h => h) rfl (by decide +kernel) rfl rfl (Nat.le_of_ble_eq_true rfl) hdg (fun H1 locs1 h1 h2 h3 => kk H1 locs1 h1 h2 h3)
theorem c_p4 (hx : p.tables.exec = Jvm.exec) (hb : c.code = cc) (hts : ∀ w ∈ lw_ok, w.before args s = true) (hown : s.vm.findClass RX0 = some m.cls) (hK : va_K (dC, dI) vwCl [(cy, .int)] s) (hP : va_P (dC, dI) vwCl (cw cy o a Z X) H) (hD : va_D A (cw cy o a Z X)) (hS : va_S A H0 H locs) {v : Nat} (hdg : decode cc pc = .ok (.putfield 65, 3)) (kk : ∀ (H1 : Heap) (locs1 : List Loc), va_P (dC, dI) vwCl (cw cy o a (zu Z 0 4 v) X) H1 → va_D A (cw cy o a (zu Z 0 4 v) X) → va_S A H0 H1 locs1 → W p l e R s m args below meth c H1 locs1 cells slots Q (F0 m (pc + 3) ls rest)) : W p l e R s m args below meth c H locs cells slots Q (F0 m pc ls (.int (nI v) :: .ref o :: rest)) :=
  va_put (D := (dC, dI)) (ci := 0) (v := .int (nI v)) (ty := .int) (C := RX0) (T := TX0) (N := 18) hx hb hts okX0 tyX0 tyX0_ok nmX0 hown hK hP hD hS 0 rfl rfl 4 (by decide) (hts _ (ok_of tF_RX0_65 rfl)) (fun _ h => h) rfl (by decide +kernel) rfl rfl (Nat.le_of_ble_eq_true rfl) hdg (fun H1 locs1 h1 h2 h3 => kk H1 locs1 h1 h2 h3)
theorem m_g0 (hx : p.tables.exec = Jvm.exec) (hb : c.code = cc) (hts : ∀ w ∈ lw_ok, w.before args s = true) (hown : s.vm.findClass RX1 = some m.cls) {tys : List (ClassId × FieldType)} (hK : va_K (dC, dI) vwCl tys s) (hP : va_P (dC, dI) vwCl (mw cy cz o a Z G T K) H) (hdg : decode cc pc = .ok (.getfield 7, 3)) (kk : W p l e R s m args below meth c H locs cells slots Q (F0 m (pc + 3) ls (.int (nI (Z 0 0)) :: rest))) : W p l e R s m args below meth c H locs cells slots Q (F0 m pc ls (.ref o :: rest)) :=
  va_get (D := (dC, dI)) (ci := 1) (C := RX1) (T := TX1) (N := 13) hx hb hts okX1 hown hK hP 0 rfl rfl 0 (by decide) (hts _ (ok_of tF_RX1_7 rfl)) (fun _ h => h) rfl hdg kk
theorem m_g1 (hx : p.tables.exec = Jvm.exec) (hb : c.code = cc) (hts : ∀ w ∈ lw_ok, w.before args s = true) (hown : s.vm.findClass RX1 = some m.cls) {tys : List (ClassId × FieldType)} (hK : va_K (dC, dI) vwCl tys s) (hP : va_P (dC, dI) vwCl (mw cy cz o a Z G T K) H) (hdg : decode cc pc = .ok (.getfield 13, 3)) (kk : W p l e R s m args below meth c H locs cells slots Q (F0 m (pc + 3) ls (.int (nI (Z 0 1)) :: rest))) : W p l e R s m args below meth c H locs cells slots Q (F0 m pc ls (.ref o :: rest)) :=
  va_get (D := (dC, dI)) (ci := 1) (C := RX1) (T := TX1) (N := 13) hx hb hts okX1 hown hK hP 0 rfl rfl 1 (by decide) (hts _ (ok_of tF_RX1_13 rfl)) (fun _ h => h) rfl hdg kk
theorem m_g2 (hx : p.tables.exec = Jvm.exec) (hb : c.code = cc) (hts : ∀ w ∈ lw_ok, w.before args s = true) (hown : s.vm.findClass RX1 = some m.cls) {tys : List (ClassId × FieldType)} (hK : va_K (dC, dI) vwCl tys s) (hP : va_P (dC, dI) vwCl (mw cy cz o a Z G T K) H) (hdg : decode cc pc = .ok (.getfield 16, 3)) (kk : W p l e R s m args below meth c H locs cells slots Q (F0 m (pc + 3) ls (.int (nI (Z 0 2)) :: rest))) : W p l e R s m args below meth c H locs cells slots Q (F0 m pc ls (.ref o :: rest)) :=
  va_get (D := (dC, dI)) (ci := 1) (C := RX1) (T := TX1) (N := 13) hx hb hts okX1 hown hK hP 0 rfl rfl 2 (by decide) (hts _ (ok_of tF_RX1_16 rfl)) (fun _ h => h) rfl hdg kk
theorem m_g3 (hx : p.tables.exec = Jvm.exec) (hb : c.code = cc) (hts : ∀ w ∈ lw_ok, w.before args s = true) (hown : s.vm.findClass RX1 = some m.cls) {tys : List (ClassId × FieldType)} (hK : va_K (dC, dI) vwCl tys s) (hP : va_P (dC, dI) vwCl (mw cy cz o a Z G T K) H) (hdg : decode cc pc = .ok (.getfield 19, 3)) (kk : W p l e R s m args below meth c H locs cells slots Q (F0 m (pc + 3) ls (.ref (a 3) :: rest))) : W p l e R s m args below meth c H locs cells slots Q (F0 m pc ls (.ref o :: rest)) :=
  va_get (D := (dC, dI)) (ci := 1) (C := RX1) (T := TX1) (N := 13) hx hb hts okX1 hown hK hP 0 rfl rfl 3 (by decide) (hts _ (ok_of tF_RX1_19 rfl)) (fun _ h => h) rfl hdg kk
theorem m_l3 (hx : p.tables.exec = Jvm.exec) (hb : c.code = cc) (hK : va_K (dC, dI) vwCl [(cy, .int), (cz, .boolean)] s) (hP : va_P (dC, dI) vwCl (mw cy cz o a Z G T K) H) {j : Nat} (hj : j < 30) (hdg : decode cc pc = .ok (.iaload, 1)) (kk : W p l e R s m args below meth c H locs cells slots Q (F0 m (pc + 1) ls (.int (nI (Z 5 j)) :: rest))) : W p l e R s m args below meth c H locs cells slots Q (F0 m pc ls (.int (nI j) :: .ref (a 3) :: rest)) :=
  va_iald hx hb hK hP 1 0 rfl rfl (vp_in_nI hj (by decide)) hdg (by rw [nI_clamp (Nat.lt_trans hj (by decide))]; exact kk)
theorem m_g4 (hx : p.tables.exec = Jvm.exec) (hb : c.code = cc) (hts : ∀ w ∈ lw_ok, w.before args s = true) (hown : s.vm.findClass RX1 = some m.cls) {tys : List (ClassId × FieldType)} (hK : va_K (dC, dI) vwCl tys s) (hP : va_P (dC, dI) vwCl (mw cy cz o a Z G T K) H) (hdg : decode cc pc = .ok (.getfield 23, 3)) (kk : W p l e R s m args below meth c H locs cells slots Q (F0 m (pc + 3) ls (.ref (a 4) :: rest))) : W p l e R s m args below meth c H locs cells slots Q (F0 m pc ls (.ref o :: rest)) :=
  va_get (D := (dC, dI)) (ci := 1) (C := RX1) (T := TX1) (N := 13) hx hb hts okX1 hown hK hP 0 rfl rfl 4 (by decide) (hts _ (ok_of tF_RX1_23 rfl)) (fun _ h => h) rfl hdg kk
theorem m_l4 (hx : p.tables.exec = Jvm.exec) (hb : c.code = cc) (hK : va_K (dC, dI) vwCl [(cy, .int), (cz, .boolean)] s) (hP : va_P (dC, dI) vwCl (mw cy cz o a Z G T K) H) {j : Nat} (hj : j < 30) (hdg : decode cc pc = .ok (.iaload, 1)) (kk : W p l e R s m args below meth c H locs cells slots Q (F0 m (pc + 1) ls (.int (nI (Z 6 j)) :: rest))) : W p l e R s m args below meth c H locs cells slots Q (F0 m pc ls (.int (nI j) :: .ref (a 4) :: rest)) :=
  va_iald hx hb hK hP 2 0 rfl rfl (vp_in_nI hj (by decide)) hdg (by rw [nI_clamp (Nat.lt_trans hj (by decide))]; exact kk)
theorem m_g5 (hx : p.tables.exec = Jvm.exec) (hb : c.code = cc) (hts : ∀ w ∈ lw_ok, w.before args s = true) (hown : s.vm.findClass RX1 = some m.cls) {tys : List (ClassId × FieldType)} (hK : va_K (dC, dI) vwCl tys s) (hP : va_P (dC, dI) vwCl (mw cy cz o a Z G T K) H) (hdg : decode cc pc = .ok (.getfield 26, 3)) (kk : W p l e R s m args below meth c H locs cells slots Q (F0 m (pc + 3) ls (.ref (a 5) :: rest))) : W p l e R s m args below meth c H locs cells slots Q (F0 m pc ls (.ref o :: rest)) :=
  va_get (D := (dC, dI)) (ci := 1) (C := RX1) (T := TX1) (N := 13) hx hb hts okX1 hown hK hP 0 rfl rfl 5 (by decide) (hts _ (ok_of tF_RX1_26 rfl)) (fun _ h => h) rfl hdg kk
theorem m_l5 (hx : p.tables.exec = Jvm.exec) (hb : c.code = cc) (hK : va_K (dC, dI) vwCl [(cy, .int), (cz, .boolean)] s) (hP : va_P (dC, dI) vwCl (mw cy cz o a Z G T K) H) {j : Nat} (hj : j < 30) (hdg : decode cc pc = .ok (.iaload, 1)) (kk : W p l e R s m args below meth c H locs cells slots Q (F0 m (pc + 1) ls (.int (nI (Z 7 j)) :: rest))) : W p l e R s m args below meth c H locs cells slots Q (F0 m pc ls (.int (nI j) :: .ref (a 5) :: rest)) :=
  va_iald hx hb hK hP 3 0 rfl rfl (vp_in_nI hj (by decide)) hdg (by rw [nI_clamp (Nat.lt_trans hj (by decide))]; exact kk)
theorem m_g6 (hx : p.tables.exec = Jvm.exec) (hb : c.code = cc) (hts : ∀ w ∈ lw_ok, w.before args s = true) (hown : s.vm.findClass RX1 = some m.cls) {tys : List (ClassId × FieldType)} (hK : va_K (dC, dI) vwCl tys s) (hP : va_P (dC, dI) vwCl (mw cy cz o a Z G T K) H) (hdg : decode cc pc = .ok (.getfield 29, 3)) (kk : W p l e R s m args below meth c H locs cells slots Q (F0 m (pc + 3) ls (.ref (a 6) :: rest))) : W p l e R s m args below meth c H locs cells slots Q (F0 m pc ls (.ref o :: rest)) :=
  va_get (D := (dC, dI)) (ci := 1) (C := RX1) (T := TX1) (N := 13) hx hb hts okX1 hown hK hP 0 rfl rfl 6 (by decide) (hts _ (ok_of tF_RX1_29 rfl)) (fun _ h => h) rfl hdg kk
theorem m_l6 (hx : p.tables.exec = Jvm.exec) (hb : c.code = cc) (hK : va_K (dC, dI) vwCl [(cy, .int), (cz, .boolean)] s) (hP : va_P (dC, dI) vwCl (mw cy cz o a Z G T K) H) {j : Nat} (hj : j < 30) (hdg : decode cc pc = .ok (.baload, 1)) (kk : W p l e R s m args below meth c H locs cells slots Q (F0 m (pc + 1) ls (.int (nI (K j)) :: rest))) : W p l e R s m args below meth c H locs cells slots Q (F0 m pc ls (.int (nI j) :: .ref (a 6) :: rest)) :=
  va_zald hx hb hK hP 4 1 rfl rfl (vp_in_nI hj (by decide)) hdg (by rw [nI_clamp (Nat.lt_trans hj (by decide))]; exact kk)
theorem m_g7 (hx : p.tables.exec = Jvm.exec) (hb : c.code = cc) (hts : ∀ w ∈ lw_ok, w.before args s = true) (hown : s.vm.findClass RX1 = some m.cls) {tys : List (ClassId × FieldType)} (hK : va_K (dC, dI) vwCl tys s) (hP : va_P (dC, dI) vwCl (mw cy cz o a Z G T K) H) (hdg : decode cc pc = .ok (.getfield 33, 3)) (kk : W p l e R s m args below meth c H locs cells slots Q (F0 m (pc + 3) ls (.ref (a 7) :: rest))) : W p l e R s m args below meth c H locs cells slots Q (F0 m pc ls (.ref o :: rest)) :=
  va_get (D := (dC, dI)) (ci := 1) (C := RX1) (T := TX1) (N := 13) hx hb hts okX1 hown hK hP 0 rfl rfl 7 (by decide) (hts _ (ok_of tF_RX1_33 rfl)) (fun _ h => h) rfl hdg kk
theorem m_l7 (hx : p.tables.exec = Jvm.exec) (hb : c.code = cc) (hK : va_K (dC, dI) vwCl [(cy, .int), (cz, .boolean)] s) (hP : va_P (dC, dI) vwCl (mw cy cz o a Z G T K) H) {j : Nat} (hj : j < 96) (hdg : decode cc pc = .ok (.iaload, 1)) (kk : W p l e R s m args below meth c H locs cells slots Q (F0 m (pc + 1) ls (.int (nI (Z 10 j)) :: rest))) : W p l e R s m args below meth c H locs cells slots Q (F0 m pc ls (.int (nI j) :: .ref (a 7) :: rest)) :=
  va_iald hx hb hK hP 5 0 rfl rfl (vp_in_nI hj (by decide)) hdg (by rw [nI_clamp (Nat.lt_trans hj (by decide))]; exact kk)
theorem m_g8 (hx : p.tables.exec = Jvm.exec) (hb : c.code = cc) (hts : ∀ w ∈ lw_ok, w.before args s = true) (hown : s.vm.findClass RX1 = some m.cls) {tys : List (ClassId × FieldType)} (hK : va_K (dC, dI) vwCl tys s) (hP : va_P (dC, dI) vwCl (mw cy cz o a Z G T K) H) (hdg : decode cc pc = .ok (.getfield 36, 3)) (kk : W p l e R s m args below meth c H locs cells slots Q (F0 m (pc + 3) ls (.ref (a 8) :: rest))) : W p l e R s m args below meth c H locs cells slots Q (F0 m pc ls (.ref o :: rest)) :=
  va_get (D := (dC, dI)) (ci := 1) (C := RX1) (T := TX1) (N := 13) hx hb hts okX1 hown hK hP 0 rfl rfl 8 (by decide) (hts _ (ok_of tF_RX1_36 rfl)) (fun _ h => h) rfl hdg kk
theorem m_l8 (hx : p.tables.exec = Jvm.exec) (hb : c.code = cc) (hK : va_K (dC, dI) vwCl [(cy, .int), (cz, .boolean)] s) (hP : va_P (dC, dI) vwCl (mw cy cz o a Z G T K) H) {j : Nat} (hj : j < 8) (hdg : decode cc pc = .ok (.iaload, 1)) (kk : W p l e R s m args below meth c H locs cells slots Q (F0 m (pc + 1) ls (.int (nI (Z 8 j)) :: rest))) : W p l e R s m args below meth c H locs cells slots Q (F0 m pc ls (.int (nI j) :: .ref (a 8) :: rest)) :=
  va_iald hx hb hK hP 6 0 rfl rfl (vp_in_nI hj (by decide)) hdg (by rw [nI_clamp (Nat.lt_trans hj (by decide))]; exact kk)
theorem m_g9 (hx : p.tables.exec = Jvm.exec) (hb : c.code = cc) (hts : ∀ w ∈ lw_ok, w.before args s = true) (hown : s.vm.findClass RX1 = some m.cls) {tys : List (ClassId × FieldType)} (hK : va_K (dC, dI) vwCl tys s) (hP : va_P (dC, dI) vwCl (mw cy cz o a Z G T K) H) (hdg : decode cc pc = .ok (.getfield 39, 3)) (kk : W p l e R s m args below meth c H locs cells slots Q (F0 m (pc + 3) ls (.ref (a 9) :: rest))) : W p l e R s m args below meth c H locs cells slots Q (F0 m pc ls (.ref o :: rest)) :=
  va_get (D := (dC, dI)) (ci := 1) (C := RX1) (T := TX1) (N := 13) hx hb hts okX1 hown hK hP 0 rfl rfl 9 (by decide) (hts _ (ok_of tF_RX1_39 rfl)) (fun _ h => h) rfl hdg kk
theorem m_l9 (hx : p.tables.exec = Jvm.exec) (hb : c.code = cc) (hK : va_K (dC, dI) vwCl [(cy, .int), (cz, .boolean)] s) (hP : va_P (dC, dI) vwCl (mw cy cz o a Z G T K) H) {j : Nat} (hj : j < 60) (hdg : decode cc pc = .ok (.iaload, 1)) (kk : W p l e R s m args below meth c H locs cells slots Q (F0 m (pc + 1) ls (.int (nI (Z 11 j)) :: rest))) : W p l e R s m args below meth c H locs cells slots Q (F0 m pc ls (.int (nI j) :: .ref (a 9) :: rest)) :=
  va_iald hx hb hK hP 7 0 rfl rfl (vp_in_nI hj (by decide)) hdg (by rw [nI_clamp (Nat.lt_trans hj (by decide))]; exact kk)
theorem m_g10 (hx : p.tables.exec = Jvm.exec) (hb : c.code = cc) (hts : ∀ w ∈ lw_ok, w.before args s = true) (hown : s.vm.findClass RX1 = some m.cls) {tys : List (ClassId × FieldType)} (hK : va_K (dC, dI) vwCl tys s) (hP : va_P (dC, dI) vwCl (mw cy cz o a Z G T K) H) (hdg : decode cc pc = .ok (.getfield 42, 3)) (kk : W p l e R s m args below meth c H locs cells slots Q (F0 m (pc + 3) ls (.ref (a 10) :: rest))) : W p l e R s m args below meth c H locs cells slots Q (F0 m pc ls (.ref o :: rest)) :=
  va_get (D := (dC, dI)) (ci := 1) (C := RX1) (T := TX1) (N := 13) hx hb hts okX1 hown hK hP 0 rfl rfl 10 (by decide) (hts _ (ok_of tF_RX1_42 rfl)) (fun _ h => h) rfl hdg kk
theorem m_l10 (hx : p.tables.exec = Jvm.exec) (hb : c.code = cc) (hK : va_K (dC, dI) vwCl [(cy, .int), (cz, .boolean)] s) (hP : va_P (dC, dI) vwCl (mw cy cz o a Z G T K) H) {j : Nat} (hj : j < 60) (hdg : decode cc pc = .ok (.iaload, 1)) (kk : W p l e R s m args below meth c H locs cells slots Q (F0 m (pc + 1) ls (.int (nI (Z 12 j)) :: rest))) : W p l e R s m args below meth c H locs cells slots Q (F0 m pc ls (.int (nI j) :: .ref (a 10) :: rest)) :=
  va_iald hx hb hK hP 8 0 rfl rfl (vp_in_nI hj (by decide)) hdg (by rw [nI_clamp (Nat.lt_trans hj (by decide))]; exact kk)
theorem m_g11 (hx : p.tables.exec = Jvm.exec) (hb : c.code = cc) (hts : ∀ w ∈ lw_ok, w.before args s = true) (hown : s.vm.findClass RX1 = some m.cls) {tys : List (ClassId × FieldType)} (hK : va_K (dC, dI) vwCl tys s) (hP : va_P (dC, dI) vwCl (mw cy cz o a Z G T K) H) (hdg : decode cc pc = .ok (.getfield 45, 3)) (kk : W p l e R s m args below meth c H locs cells slots Q (F0 m (pc + 3) ls (.ref (a 11) :: rest))) : W p l e R s m args below meth c H locs cells slots Q (F0 m pc ls (.ref o :: rest)) :=
  va_get (D := (dC, dI)) (ci := 1) (C := RX1) (T := TX1) (N := 13) hx hb hts okX1 hown hK hP 0 rfl rfl 11 (by decide) (hts _ (ok_of tF_RX1_45 rfl)) (fun _ h => h) rfl hdg kk
theorem m_l11 (hx : p.tables.exec = Jvm.exec) (hb : c.code = cc) (hK : va_K (dC, dI) vwCl [(cy, .int), (cz, .boolean)] s) (hP : va_P (dC, dI) vwCl (mw cy cz o a Z G T K) H) {j : Nat} (hj : j < 720) (hdg : decode cc pc = .ok (.iaload, 1)) (kk : W p l e R s m args below meth c H locs cells slots Q (F0 m (pc + 1) ls (.int (gv (G j)) :: rest))) : W p l e R s m args below meth c H locs cells slots Q (F0 m pc ls (.int (nI j) :: .ref (a 11) :: rest)) :=
  va_iald hx hb hK hP 9 0 rfl rfl (vp_in_nI hj (by decide)) hdg (by rw [nI_clamp (Nat.lt_trans hj (by decide))]; exact kk)
theorem m_g12 (hx : p.tables.exec = Jvm.exec) (hb : c.code = cc) (hts : ∀ w ∈ lw_ok, w.before args s = true) (hown : s.vm.findClass RX1 = some m.cls) {tys : List (ClassId × FieldType)} (hK : va_K (dC, dI) vwCl tys s) (hP : va_P (dC, dI) vwCl (mw cy cz o a Z G T K) H) (hdg : decode cc pc = .ok (.getfield 48, 3)) (kk : W p l e R s m args below meth c H locs cells slots Q (F0 m (pc + 3) ls (.ref (a 12) :: rest))) : W p l e R s m args below meth c H locs cells slots Q (F0 m pc ls (.ref o :: rest)) :=
  va_get (D := (dC, dI)) (ci := 1) (C := RX1) (T := TX1) (N := 13) hx hb hts okX1 hown hK hP 0 rfl rfl 12 (by decide) (hts _ (ok_of tF_RX1_48 rfl)) (fun _ h => h) rfl hdg kk
theorem m_l12 (hx : p.tables.exec = Jvm.exec) (hb : c.code = cc) (hK : va_K (dC, dI) vwCl [(cy, .int), (cz, .boolean)] s) (hP : va_P (dC, dI) vwCl (mw cy cz o a Z G T K) H) {j : Nat} (hj : j < 768) (hdg : decode cc pc = .ok (.iaload, 1)) (kk : W p l e R s m args below meth c H locs cells slots Q (F0 m (pc + 1) ls (.int (gv (T j)) :: rest))) : W p l e R s m args below meth c H locs cells slots Q (F0 m pc ls (.int (nI j) :: .ref (a 12) :: rest)) :=
  va_iald hx hb hK hP 10 0 rfl rfl (vp_in_nI hj (by decide)) hdg (by rw [nI_clamp (Nat.lt_trans hj (by decide))]; exact kk)
theorem x_iadd (hx : p.tables.exec = Jvm.exec) (hb : c.code = cc) {x y : Nat} (hdg : decode cc pc = .ok (.iadd, 1)) (k : W p l e R s m args below meth c H locs cells slots Q (F0 m (pc + 1) ls (.int (nI (x + y)) :: rest))) : W p l e R s m args below meth c H locs cells slots Q (F0 m pc ls (.int (nI y) :: .int (nI x) :: rest)) := lv_iadd hx hb hdg (by rw [nI_add]; exact k)
theorem x_imul (hx : p.tables.exec = Jvm.exec) (hb : c.code = cc) {x y : Nat} (hdg : decode cc pc = .ok (.imul, 1)) (k : W p l e R s m args below meth c H locs cells slots Q (F0 m (pc + 1) ls (.int (nI (x * y)) :: rest))) : W p l e R s m args below meth c H locs cells slots Q (F0 m pc ls (.int (nI y) :: .int (nI x) :: rest)) := lv_imul hx hb hdg (by rw [pk_mul]; exact k)
theorem x_imulc (hx : p.tables.exec = Jvm.exec) (hb : c.code = cc) {x y : Nat} (hdg : decode cc pc = .ok (.imul, 1)) (k : W p l e R s m args below meth c H locs cells slots Q (F0 m (pc + 1) ls (.int (nI (y * x)) :: rest))) : W p l e R s m args below meth c H locs cells slots Q (F0 m pc ls (.int (nI y) :: .int (nI x) :: rest)) := lv_imul hx hb hdg (by rw [pk_mul, Nat.mul_comm]; exact k)
theorem x_isub (hx : p.tables.exec = Jvm.exec) (hb : c.code = cc) {x y : Nat} (h : y ≤ x) (hdg : decode cc pc = .ok (.isub, 1)) (k : W p l e R s m args below meth c H locs cells slots Q (F0 m (pc + 1) ls (.int (nI (x - y)) :: rest))) : W p l e R s m args below meth c H locs cells slots Q (F0 m pc ls (.int (nI y) :: .int (nI x) :: rest)) := lv_isub hx hb hdg (by rw [pk_sub h]; exact k)
theorem x_icmp_eq (hx : p.tables.exec = Jvm.exec) (hb : c.code = cc) {x y : Nat} (h1 : x < 2 ^ 31) (h2 : y < 2 ^ 31) {off : Int} {tgt : Nat} (hdg : decode cc pc = .ok (.if_icmp .eq off, 3)) (ht : (pc : Int) + off = (tgt : Int)) (kt : x = y → W p l e R s m args below meth c H locs cells slots Q (F0 m tgt ls rest)) (kf : ¬ (x = y) → W p l e R s m args below meth c H locs cells slots Q (F0 m (pc + 3) ls rest)) : W p l e R s m args below meth c H locs cells slots Q (F0 m pc ls (.int (nI y) :: .int (nI x) :: rest)) := lv_icmp_eq hx hb hdg ht (fun h => kt ((nI_eq h1 h2).mp h)) (fun h => kf (fun q => h ((nI_eq h1 h2).mpr q)))
theorem x_icmp_ne (hx : p.tables.exec = Jvm.exec) (hb : c.code = cc) {x y : Nat} (h1 : x < 2 ^ 31) (h2 : y < 2 ^ 31) {off : Int} {tgt : Nat} (hdg : decode cc pc = .ok (.if_icmp .ne off, 3)) (ht : (pc : Int) + off = (tgt : Int)) (kt : ¬ x = y → W p l e R s m args below meth c H locs cells slots Q (F0 m tgt ls rest)) (kf : x = y → W p l e R s m args below meth c H locs cells slots Q (F0 m (pc + 3) ls rest)) : W p l e R s m args below meth c H locs cells slots Q (F0 m pc ls (.int (nI y) :: .int (nI x) :: rest)) := lv_icmp_ne hx hb hdg ht (fun h => kt ((not_congr (nI_eq h1 h2)).mp h)) (fun h => kf ((nI_eq h1 h2).mp h))
theorem x_icmp_lt (hx : p.tables.exec = Jvm.exec) (hb : c.code = cc) {x y : Nat} (h1 : x < 2 ^ 31) (h2 : y < 2 ^ 31) {off : Int} {tgt : Nat} (hdg : decode cc pc = .ok (.if_icmp .lt off, 3)) (ht : (pc : Int) + off = (tgt : Int)) (kt : x < y → W p l e R s m args below meth c H locs cells slots Q (F0 m tgt ls rest)) (kf : ¬ (x < y) → W p l e R s m args below meth c H locs cells slots Q (F0 m (pc + 3) ls rest)) : W p l e R s m args below meth c H locs cells slots Q (F0 m pc ls (.int (nI y) :: .int (nI x) :: rest)) := lv_icmp_lt hx hb hdg ht (fun h => kt ((nI_ltI h1 h2).mp h)) (fun h => kf (fun q => h ((nI_ltI h1 h2).mpr q)))
theorem x_icmp_le (hx : p.tables.exec = Jvm.exec) (hb : c.code = cc) {x y : Nat} (h1 : x < 2 ^ 31) (h2 : y < 2 ^ 31) {off : Int} {tgt : Nat} (hdg : decode cc pc = .ok (.if_icmp .le off, 3)) (ht : (pc : Int) + off = (tgt : Int)) (kt : x ≤ y → W p l e R s m args below meth c H locs cells slots Q (F0 m tgt ls rest)) (kf : ¬ (x ≤ y) → W p l e R s m args below meth c H locs cells slots Q (F0 m (pc + 3) ls rest)) : W p l e R s m args below meth c H locs cells slots Q (F0 m pc ls (.int (nI y) :: .int (nI x) :: rest)) := lv_icmp_le hx hb hdg ht (fun h => kt ((nI_leI h1 h2).mp h)) (fun h => kf (fun q => h ((nI_leI h1 h2).mpr q)))
theorem x_icmp_ge (hx : p.tables.exec = Jvm.exec) (hb : c.code = cc) {x y : Nat} (h1 : x < 2 ^ 31) (h2 : y < 2 ^ 31) {off : Int} {tgt : Nat} (hdg : decode cc pc = .ok (.if_icmp .ge off, 3)) (ht : (pc : Int) + off = (tgt : Int)) (kt : y ≤ x → W p l e R s m args below meth c H locs cells slots Q (F0 m tgt ls rest)) (kf : ¬ (y ≤ x) → W p l e R s m args below meth c H locs cells slots Q (F0 m (pc + 3) ls rest)) : W p l e R s m args below meth c H locs cells slots Q (F0 m pc ls (.int (nI y) :: .int (nI x) :: rest)) := lv_icmp_ge hx hb hdg ht (fun h => kt ((nI_leI h2 h1).mp h)) (fun h => kf (fun q => h ((nI_leI h2 h1).mpr q)))
theorem x_icmp_gt (hx : p.tables.exec = Jvm.exec) (hb : c.code = cc) {x y : Nat} (h1 : x < 2 ^ 31) (h2 : y < 2 ^ 31) {off : Int} {tgt : Nat} (hdg : decode cc pc = .ok (.if_icmp .gt off, 3)) (ht : (pc : Int) + off = (tgt : Int)) (kt : y < x → W p l e R s m args below meth c H locs cells slots Q (F0 m tgt ls rest)) (kf : ¬ (y < x) → W p l e R s m args below meth c H locs cells slots Q (F0 m (pc + 3) ls rest)) : W p l e R s m args below meth c H locs cells slots Q (F0 m pc ls (.int (nI y) :: .int (nI x) :: rest)) := lv_icmp_gt hx hb hdg ht (fun h => kt ((nI_ltI h2 h1).mp h)) (fun h => kf (fun q => h ((nI_ltI h2 h1).mpr q)))
theorem x_if_eq_T (hx : p.tables.exec = Jvm.exec) (hb : c.code = cc) {x : Int32} (h : x = 0) {off : Int} {tgt : Nat} (hdg : decode cc pc = .ok (.ifCond .eq off, 3)) (ht : (pc : Int) + off = (tgt : Int)) (k : W p l e R s m args below meth c H locs cells slots Q (F0 m tgt ls rest)) : W p l e R s m args below meth c H locs cells slots Q (F0 m pc ls (.int x :: rest)) := lv_if_eq hx hb hdg ht (fun _ => k) (fun q => absurd h q)
theorem x_if_eq_F (hx : p.tables.exec = Jvm.exec) (hb : c.code = cc) {x : Int32} (h : ¬ (x = 0)) {off : Int} {tgt : Nat} (hdg : decode cc pc = .ok (.ifCond .eq off, 3)) (ht : (pc : Int) + off = (tgt : Int)) (k : W p l e R s m args below meth c H locs cells slots Q (F0 m (pc + 3) ls rest)) : W p l e R s m args below meth c H locs cells slots Q (F0 m pc ls (.int x :: rest)) := lv_if_eq hx hb hdg ht (fun q => absurd q h) (fun _ => k)
theorem x_icmp_eq_T (hx : p.tables.exec = Jvm.exec) (hb : c.code = cc) {x y : Int32} (h : x = y) {off : Int} {tgt : Nat} (hdg : decode cc pc = .ok (.if_icmp .eq off, 3)) (ht : (pc : Int) + off = (tgt : Int)) (k : W p l e R s m args below meth c H locs cells slots Q (F0 m tgt ls rest)) : W p l e R s m args below meth c H locs cells slots Q (F0 m pc ls (.int y :: .int x :: rest)) := lv_icmp_eq hx hb hdg ht (fun _ => k) (fun q => absurd h q)
theorem x_icmp_eq_F (hx : p.tables.exec = Jvm.exec) (hb : c.code = cc) {x y : Int32} (h : ¬ (x = y)) {off : Int} {tgt : Nat} (hdg : decode cc pc = .ok (.if_icmp .eq off, 3)) (ht : (pc : Int) + off = (tgt : Int)) (k : W p l e R s m args below meth c H locs cells slots Q (F0 m (pc + 3) ls rest)) : W p l e R s m args below meth c H locs cells slots Q (F0 m pc ls (.int y :: .int x :: rest)) := lv_icmp_eq hx hb hdg ht (fun q => absurd q h) (fun _ => k)
theorem x_if_ne_T (hx : p.tables.exec = Jvm.exec) (hb : c.code = cc) {x : Int32} (h : ¬ x = 0) {off : Int} {tgt : Nat} (hdg : decode cc pc = .ok (.ifCond .ne off, 3)) (ht : (pc : Int) + off = (tgt : Int)) (k : W p l e R s m args below meth c H locs cells slots Q (F0 m tgt ls rest)) : W p l e R s m args below meth c H locs cells slots Q (F0 m pc ls (.int x :: rest)) := lv_if_ne hx hb hdg ht (fun _ => k) (fun q => absurd q h)
theorem x_if_ne_F (hx : p.tables.exec = Jvm.exec) (hb : c.code = cc) {x : Int32} (h : ¬ (¬ x = 0)) {off : Int} {tgt : Nat} (hdg : decode cc pc = .ok (.ifCond .ne off, 3)) (ht : (pc : Int) + off = (tgt : Int)) (k : W p l e R s m args below meth c H locs cells slots Q (F0 m (pc + 3) ls rest)) : W p l e R s m args below meth c H locs cells slots Q (F0 m pc ls (.int x :: rest)) := lv_if_ne hx hb hdg ht (fun q => absurd q h) (fun _ => k)
theorem x_icmp_ne_T (hx : p.tables.exec = Jvm.exec) (hb : c.code = cc) {x y : Int32} (h : ¬ x = y) {off : Int} {tgt : Nat} (hdg : decode cc pc = .ok (.if_icmp .ne off, 3)) (ht : (pc : Int) + off = (tgt : Int)) (k : W p l e R s m args below meth c H locs cells slots Q (F0 m tgt ls rest)) : W p l e R s m args below meth c H locs cells slots Q (F0 m pc ls (.int y :: .int x :: rest)) := lv_icmp_ne hx hb hdg ht (fun _ => k) (fun q => absurd q h)
theorem x_icmp_ne_F (hx : p.tables.exec = Jvm.exec) (hb : c.code = cc) {x y : Int32} (h : ¬ (¬ x = y)) {off : Int} {tgt : Nat} (hdg : decode cc pc = .ok (.if_icmp .ne off, 3)) (ht : (pc : Int) + off = (tgt : Int)) (k : W p l e R s m args below meth c H locs cells slots Q (F0 m (pc + 3) ls rest)) : W p l e R s m args below meth c H locs cells slots Q (F0 m pc ls (.int y :: .int x :: rest)) := lv_icmp_ne hx hb hdg ht (fun q => absurd q h) (fun _ => k)
theorem x_if_lt_T (hx : p.tables.exec = Jvm.exec) (hb : c.code = cc) {x : Int32} (h : x < 0) {off : Int} {tgt : Nat} (hdg : decode cc pc = .ok (.ifCond .lt off, 3)) (ht : (pc : Int) + off = (tgt : Int)) (k : W p l e R s m args below meth c H locs cells slots Q (F0 m tgt ls rest)) : W p l e R s m args below meth c H locs cells slots Q (F0 m pc ls (.int x :: rest)) := lv_if_lt hx hb hdg ht (fun _ => k) (fun q => absurd h q)
theorem x_if_lt_F (hx : p.tables.exec = Jvm.exec) (hb : c.code = cc) {x : Int32} (h : ¬ (x < 0)) {off : Int} {tgt : Nat} (hdg : decode cc pc = .ok (.ifCond .lt off, 3)) (ht : (pc : Int) + off = (tgt : Int)) (k : W p l e R s m args below meth c H locs cells slots Q (F0 m (pc + 3) ls rest)) : W p l e R s m args below meth c H locs cells slots Q (F0 m pc ls (.int x :: rest)) := lv_if_lt hx hb hdg ht (fun q => absurd q h) (fun _ => k)
theorem x_icmp_lt_T (hx : p.tables.exec = Jvm.exec) (hb : c.code = cc) {x y : Int32} (h : x < y) {off : Int} {tgt : Nat} (hdg : decode cc pc = .ok (.if_icmp .lt off, 3)) (ht : (pc : Int) + off = (tgt : Int)) (k : W p l e R s m args below meth c H locs cells slots Q (F0 m tgt ls rest)) : W p l e R s m args below meth c H locs cells slots Q (F0 m pc ls (.int y :: .int x :: rest)) := lv_icmp_lt hx hb hdg ht (fun _ => k) (fun q => absurd h q)
theorem x_icmp_lt_F (hx : p.tables.exec = Jvm.exec) (hb : c.code = cc) {x y : Int32} (h : ¬ (x < y)) {off : Int} {tgt : Nat} (hdg : decode cc pc = .ok (.if_icmp .lt off, 3)) (ht : (pc : Int) + off = (tgt : Int)) (k : W p l e R s m args below meth c H locs cells slots Q (F0 m (pc + 3) ls rest)) : W p l e R s m args below meth c H locs cells slots Q (F0 m pc ls (.int y :: .int x :: rest)) := lv_icmp_lt hx hb hdg ht (fun q => absurd q h) (fun _ => k)
theorem x_if_le_T (hx : p.tables.exec = Jvm.exec) (hb : c.code = cc) {x : Int32} (h : x ≤ 0) {off : Int} {tgt : Nat} (hdg : decode cc pc = .ok (.ifCond .le off, 3)) (ht : (pc : Int) + off = (tgt : Int)) (k : W p l e R s m args below meth c H locs cells slots Q (F0 m tgt ls rest)) : W p l e R s m args below meth c H locs cells slots Q (F0 m pc ls (.int x :: rest)) := lv_if_le hx hb hdg ht (fun _ => k) (fun q => absurd h q)
theorem x_if_le_F (hx : p.tables.exec = Jvm.exec) (hb : c.code = cc) {x : Int32} (h : ¬ (x ≤ 0)) {off : Int} {tgt : Nat} (hdg : decode cc pc = .ok (.ifCond .le off, 3)) (ht : (pc : Int) + off = (tgt : Int)) (k : W p l e R s m args below meth c H locs cells slots Q (F0 m (pc + 3) ls rest)) : W p l e R s m args below meth c H locs cells slots Q (F0 m pc ls (.int x :: rest)) := lv_if_le hx hb hdg ht (fun q => absurd q h) (fun _ => k)
theorem x_icmp_le_T (hx : p.tables.exec = Jvm.exec) (hb : c.code = cc) {x y : Int32} (h : x ≤ y) {off : Int} {tgt : Nat} (hdg : decode cc pc = .ok (.if_icmp .le off, 3)) (ht : (pc : Int) + off = (tgt : Int)) (k : W p l e R s m args below meth c H locs cells slots Q (F0 m tgt ls rest)) : W p l e R s m args below meth c H locs cells slots Q (F0 m pc ls (.int y :: .int x :: rest)) := lv_icmp_le hx hb hdg ht (fun _ => k) (fun q => absurd h q)
theorem x_icmp_le_F (hx : p.tables.exec = Jvm.exec) (hb : c.code = cc) {x y : Int32} (h : ¬ (x ≤ y)) {off : Int} {tgt : Nat} (hdg : decode cc pc = .ok (.if_icmp .le off, 3)) (ht : (pc : Int) + off = (tgt : Int)) (k : W p l e R s m args below meth c H locs cells slots Q (F0 m (pc + 3) ls rest)) : W p l e R s m args below meth c H locs cells slots Q (F0 m pc ls (.int y :: .int x :: rest)) := lv_icmp_le hx hb hdg ht (fun q => absurd q h) (fun _ => k)
theorem x_if_ge_T (hx : p.tables.exec = Jvm.exec) (hb : c.code = cc) {x : Int32} (h : 0 ≤ x) {off : Int} {tgt : Nat} (hdg : decode cc pc = .ok (.ifCond .ge off, 3)) (ht : (pc : Int) + off = (tgt : Int)) (k : W p l e R s m args below meth c H locs cells slots Q (F0 m tgt ls rest)) : W p l e R s m args below meth c H locs cells slots Q (F0 m pc ls (.int x :: rest)) := lv_if_ge hx hb hdg ht (fun _ => k) (fun q => absurd h q)
theorem x_if_ge_F (hx : p.tables.exec = Jvm.exec) (hb : c.code = cc) {x : Int32} (h : ¬ (0 ≤ x)) {off : Int} {tgt : Nat} (hdg : decode cc pc = .ok (.ifCond .ge off, 3)) (ht : (pc : Int) + off = (tgt : Int)) (k : W p l e R s m args below meth c H locs cells slots Q (F0 m (pc + 3) ls rest)) : W p l e R s m args below meth c H locs cells slots Q (F0 m pc ls (.int x :: rest)) := lv_if_ge hx hb hdg ht (fun q => absurd q h) (fun _ => k)
theorem x_icmp_ge_T (hx : p.tables.exec = Jvm.exec) (hb : c.code = cc) {x y : Int32} (h : y ≤ x) {off : Int} {tgt : Nat} (hdg : decode cc pc = .ok (.if_icmp .ge off, 3)) (ht : (pc : Int) + off = (tgt : Int)) (k : W p l e R s m args below meth c H locs cells slots Q (F0 m tgt ls rest)) : W p l e R s m args below meth c H locs cells slots Q (F0 m pc ls (.int y :: .int x :: rest)) := lv_icmp_ge hx hb hdg ht (fun _ => k) (fun q => absurd h q)
theorem x_icmp_ge_F (hx : p.tables.exec = Jvm.exec) (hb : c.code = cc) {x y : Int32} (h : ¬ (y ≤ x)) {off : Int} {tgt : Nat} (hdg : decode cc pc = .ok (.if_icmp .ge off, 3)) (ht : (pc : Int) + off = (tgt : Int)) (k : W p l e R s m args below meth c H locs cells slots Q (F0 m (pc + 3) ls rest)) : W p l e R s m args below meth c H locs cells slots Q (F0 m pc ls (.int y :: .int x :: rest)) := lv_icmp_ge hx hb hdg ht (fun q => absurd q h) (fun _ => k)
theorem x_if_gt_T (hx : p.tables.exec = Jvm.exec) (hb : c.code = cc) {x : Int32} (h : 0 < x) {off : Int} {tgt : Nat} (hdg : decode cc pc = .ok (.ifCond .gt off, 3)) (ht : (pc : Int) + off = (tgt : Int)) (k : W p l e R s m args below meth c H locs cells slots Q (F0 m tgt ls rest)) : W p l e R s m args below meth c H locs cells slots Q (F0 m pc ls (.int x :: rest)) := lv_if_gt hx hb hdg ht (fun _ => k) (fun q => absurd h q)
theorem x_if_gt_F (hx : p.tables.exec = Jvm.exec) (hb : c.code = cc) {x : Int32} (h : ¬ (0 < x)) {off : Int} {tgt : Nat} (hdg : decode cc pc = .ok (.ifCond .gt off, 3)) (ht : (pc : Int) + off = (tgt : Int)) (k : W p l e R s m args below meth c H locs cells slots Q (F0 m (pc + 3) ls rest)) : W p l e R s m args below meth c H locs cells slots Q (F0 m pc ls (.int x :: rest)) := lv_if_gt hx hb hdg ht (fun q => absurd q h) (fun _ => k)
theorem x_icmp_gt_T (hx : p.tables.exec = Jvm.exec) (hb : c.code = cc) {x y : Int32} (h : y < x) {off : Int} {tgt : Nat} (hdg : decode cc pc = .ok (.if_icmp .gt off, 3)) (ht : (pc : Int) + off = (tgt : Int)) (k : W p l e R s m args below meth c H locs cells slots Q (F0 m tgt ls rest)) : W p l e R s m args below meth c H locs cells slots Q (F0 m pc ls (.int y :: .int x :: rest)) := lv_icmp_gt hx hb hdg ht (fun _ => k) (fun q => absurd h q)
theorem x_icmp_gt_F (hx : p.tables.exec = Jvm.exec) (hb : c.code = cc) {x y : Int32} (h : ¬ (y < x)) {off : Int} {tgt : Nat} (hdg : decode cc pc = .ok (.if_icmp .gt off, 3)) (ht : (pc : Int) + off = (tgt : Int)) (k : W p l e R s m args below meth c H locs cells slots Q (F0 m (pc + 3) ls rest)) : W p l e R s m args below meth c H locs cells slots Q (F0 m pc ls (.int y :: .int x :: rest)) := lv_icmp_gt hx hb hdg ht (fun q => absurd q h) (fun _ => k)
variable {y : MethodName} {bytes : ByteArray} {maxL nL n index : Nat} {ret : Option FieldType} {rm : Room} {b : Nat} {As st0 : List Value} {own Cn : String} {Pc : Array Value → State → Prop}
theorem r_Vi {post : Int32 → Prop} (fx : CallFix p m c cc nL s args lw_ok own) (hM : Met l y (wS y bytes maxL ret) rm Pc (vp_Si post) 0 0 (fun _ => False)) (hf : cfV y bytes maxL ret n Cn) (hl : Cond.methodLink own index y ∈ lw_tbl) (hr1 : rm.cells = 0) (hr2 : rm.slots = 0) (hR : rm.frames + 1 ≤ R.frames ∧ 8 + (maxL + 11) + rm.locals ≤ R.locals) (hp : PreV s H Cn b Pc As) (hn : As.length = n) (hsize : ls.size = nL) (hst : st0 = As.reverse ++ .ref b :: rest) (hW : (rest.map fun v => v.category).sum ≤ 8) (hdg : decode cc pc = .ok (.invokevirtual index, 3)) (hcs : cells ≤ R.cells ∧ slots ≤ R.slots) (kk : ∀ r : Int32, post r → W p l e R s m args below meth c H locs cells slots Q (F0 m (pc + 3) ls (.int r :: rest))) : W p l e R s m args below meth c H locs cells slots Q (F0 m pc ls st0) :=
  vp_callSi (va_runV fx hM (cwV n fx.2.2.2.2 (goodV hf hl) rfl hr1 hr2 hf.2.2.2.2 hR) hp rfl hn hsize hst (lv_room hW) hdg hcs).run kk
theorem r_Vl {post : Int64 → Prop} (fx : CallFix p m c cc nL s args lw_ok own) (hM : Met l y (wS y bytes maxL ret) rm Pc (vp_Sl post) 0 0 (fun _ => False)) (hf : cfV y bytes maxL ret n Cn) (hl : Cond.methodLink own index y ∈ lw_tbl) (hr1 : rm.cells = 0) (hr2 : rm.slots = 0) (hR : rm.frames + 1 ≤ R.frames ∧ 8 + (maxL + 11) + rm.locals ≤ R.locals) (hp : PreV s H Cn b Pc As) (hn : As.length = n) (hsize : ls.size = nL) (hst : st0 = As.reverse ++ .ref b :: rest) (hW : (rest.map fun v => v.category).sum ≤ 8) (hdg : decode cc pc = .ok (.invokevirtual index, 3)) (hcs : cells ≤ R.cells ∧ slots ≤ R.slots) (kk : ∀ r : Int64, post r → W p l e R s m args below meth c H locs cells slots Q (F0 m (pc + 3) ls (.long r :: rest))) : W p l e R s m args below meth c H locs cells slots Q (F0 m pc ls st0) :=
  vp_callSl (va_runV fx hM (cwV n fx.2.2.2.2 (goodV hf hl) rfl hr1 hr2 hf.2.2.2.2 hR) hp rfl hn hsize hst (lv_room hW) hdg hcs).run kk
theorem r_Si {post : Int32 → Prop} (fx : CallFix p m c cc nL s args lw_ok own) (hM : Met l y (wS y bytes maxL ret) rm (va_Pc As (fun _ => True)) (vp_Si post) 0 0 (fun _ => False)) (hf : cfS y bytes maxL ret n) (hl : Cond.methodLink own index y ∈ lw_tbl) (hr1 : rm.cells = 0) (hr2 : rm.slots = 0) (hR : rm.frames + 1 ≤ R.frames ∧ 8 + (maxL + 11) + rm.locals ≤ R.locals) (hn : As.length = n) (hsize : ls.size = nL) (hst : st0 = As.reverse ++ rest) (hW : (rest.map fun v => v.category).sum ≤ 8) (hdg : decode cc pc = .ok (.invokestatic index, 3)) (hcs : cells ≤ R.cells ∧ slots ≤ R.slots) (kk : ∀ r : Int32, post r → W p l e R s m args below meth c H locs cells slots Q (F0 m (pc + 3) ls (.int r :: rest))) : W p l e R s m args below meth c H locs cells slots Q (F0 m pc ls st0) :=
  vp_callSi (va_runS fx hM (va_cwS n fx.2.2.2.2 (goodS hf hl) rfl hr1 hr2 hf.2.2.2 hR) ⟨fun _ _ _ _ q => q, fun _ _ _ => ⟨rfl, trivial⟩⟩ rfl hn hsize hst (lv_room hW) hdg hcs).run kk
theorem r_Sl {post : Int64 → Prop} (fx : CallFix p m c cc nL s args lw_ok own) (hM : Met l y (wS y bytes maxL ret) rm (va_Pc As (fun _ => True)) (vp_Sl post) 0 0 (fun _ => False)) (hf : cfS y bytes maxL ret n) (hl : Cond.methodLink own index y ∈ lw_tbl) (hr1 : rm.cells = 0) (hr2 : rm.slots = 0) (hR : rm.frames + 1 ≤ R.frames ∧ 8 + (maxL + 11) + rm.locals ≤ R.locals) (hn : As.length = n) (hsize : ls.size = nL) (hst : st0 = As.reverse ++ rest) (hW : (rest.map fun v => v.category).sum ≤ 8) (hdg : decode cc pc = .ok (.invokestatic index, 3)) (hcs : cells ≤ R.cells ∧ slots ≤ R.slots) (kk : ∀ r : Int64, post r → W p l e R s m args below meth c H locs cells slots Q (F0 m (pc + 3) ls (.long r :: rest))) : W p l e R s m args below meth c H locs cells slots Q (F0 m pc ls st0) :=
  vp_callSl (va_runS fx hM (va_cwS n fx.2.2.2.2 (goodS hf hl) rfl hr1 hr2 hf.2.2.2 hR) ⟨fun _ _ _ _ q => q, fun _ _ _ => ⟨rfl, trivial⟩⟩ rfl hn hsize hst (lv_room hW) hdg hcs).run kk
theorem c_pre (hK : va_K (dC, dI) vwCl [(cy, .int)] s) (hP : va_P (dC, dI) vwCl (cw cy o a Z X) H) : PreV s H RX0 o (va_Pc (.ref o :: As) (cR dC dI cy o a Z X)) As :=
  ⟨fun _ U _ _ q => ⟨q.1, q.2.1, va_K.moved (Vm.Alike.refl U.vm) q.2.2⟩, va_recv hK hP (ci := 0) (q0 := 0) rfl rfl, fun _ hU hW => ⟨rfl, by rw [hU]; exact hP, va_K.moved hW.alike hK⟩⟩
theorem m_pre (hK : va_K (dC, dI) vwCl [(cy, .int), (cz, .boolean)] s) (hP : va_P (dC, dI) vwCl (mw cy cz o a Z G T K) H) : PreV s H RX1 o (va_Pc (.ref o :: As) (mR dC dI cy cz o a Z G T K)) As :=
  ⟨fun _ U _ _ q => ⟨q.1, q.2.1, va_K.moved (Vm.Alike.refl U.vm) q.2.2⟩, va_recv hK hP (ci := 1) (q0 := 0) rfl rfl, fun _ hU hW => ⟨rfl, by rw [hU]; exact hP, va_K.moved hW.alike hK⟩⟩
end BASE
theorem fyX0_question : cfV yX0_question cX0_question 5 (Option.some Jvm.ClassFile.FieldType.int) 3 RX0 := ⟨tK_yX0_question, tV_yX0_question, tP_yX0_question, tI_RX0, by decide +kernel⟩
theorem fyX0_isKey : cfS yX0_isKey cX0_isKey 1 (Option.some Jvm.ClassFile.FieldType.boolean) 1 := ⟨tK_yX0_isKey, tS_yX0_isKey, tI_RX0, by decide +kernel⟩
theorem fyX0_key : cfV yX0_key cX0_key 4 (Option.some Jvm.ClassFile.FieldType.int) 2 RX0 := ⟨tK_yX0_key, tV_yX0_key, tP_yX0_key, tI_RX0, by decide +kernel⟩
theorem fyX0_isQuestion : cfV yX0_isQuestion cX0_isQuestion 2 (Option.some Jvm.ClassFile.FieldType.boolean) 1 RX0 := ⟨tK_yX0_isQuestion, tV_yX0_isQuestion, tP_yX0_isQuestion, tI_RX0, by decide +kernel⟩
theorem fyX0_strike : cfV yX0_strike cX0_strike 4 (Option.some Jvm.ClassFile.FieldType.int) 2 RX0 := ⟨tK_yX0_strike, tV_yX0_strike, tP_yX0_strike, tI_RX0, by decide +kernel⟩
theorem fyX0_isIn : cfS yX0_isIn cX0_isIn 2 (Option.some Jvm.ClassFile.FieldType.boolean) 2 := ⟨tK_yX0_isIn, tS_yX0_isIn, tI_RX0, by decide +kernel⟩
theorem fyX0_paper : cfV yX0_paper cX0_paper 2 (Option.some Jvm.ClassFile.FieldType.int) 0 RX0 := ⟨tK_yX0_paper, tV_yX0_paper, tP_yX0_paper, tI_RX0, by decide +kernel⟩
theorem fyX0_put : cfV yX0_put cX0_put 4 (Option.some Jvm.ClassFile.FieldType.int) 2 RX0 := ⟨tK_yX0_put, tV_yX0_put, tP_yX0_put, tI_RX0, by decide +kernel⟩
theorem fyX0_isPaper : cfV yX0_isPaper cX0_isPaper 2 (Option.some Jvm.ClassFile.FieldType.boolean) 1 RX0 := ⟨tK_yX0_isPaper, tV_yX0_isPaper, tP_yX0_isPaper, tI_RX0, by decide +kernel⟩
theorem fyX0_hasPupil : cfV yX0_hasPupil cX0_hasPupil 3 (Option.some Jvm.ClassFile.FieldType.boolean) 1 RX0 := ⟨tK_yX0_hasPupil, tV_yX0_hasPupil, tP_yX0_hasPupil, tI_RX0, by decide +kernel⟩
theorem fyX0_at : cfV yX0_at cX0_at 3 (Option.some Jvm.ClassFile.FieldType.int) 2 RX0 := ⟨tK_yX0_at, tV_yX0_at, tP_yX0_at, tI_RX0, by decide +kernel⟩
theorem fyX0_pupil : cfV yX0_pupil cX0_pupil 4 (Option.some Jvm.ClassFile.FieldType.int) 2 RX0 := ⟨tK_yX0_pupil, tV_yX0_pupil, tP_yX0_pupil, tI_RX0, by decide +kernel⟩
theorem fyX0_isPlace : cfS yX0_isPlace cX0_isPlace 1 (Option.some Jvm.ClassFile.FieldType.boolean) 1 := ⟨tK_yX0_isPlace, tS_yX0_isPlace, tI_RX0, by decide +kernel⟩
theorem fyX0_answer : cfV yX0_answer cX0_answer 5 (Option.some Jvm.ClassFile.FieldType.int) 3 RX0 := ⟨tK_yX0_answer, tV_yX0_answer, tP_yX0_answer, tI_RX0, by decide +kernel⟩
theorem fyX0_spotFor : cfV yX0_spotFor cX0_spotFor 3 (Option.some Jvm.ClassFile.FieldType.int) 2 RX0 := ⟨tK_yX0_spotFor, tV_yX0_spotFor, tP_yX0_spotFor, tI_RX0, by decide +kernel⟩
theorem fyX0_isPupil : cfV yX0_isPupil cX0_isPupil 2 (Option.some Jvm.ClassFile.FieldType.boolean) 1 RX0 := ⟨tK_yX0_isPupil, tV_yX0_isPupil, tP_yX0_isPupil, tI_RX0, by decide +kernel⟩
theorem fyX0_spotOf : cfV yX0_spotOf cX0_spotOf 4 (Option.some Jvm.ClassFile.FieldType.int) 2 RX0 := ⟨tK_yX0_spotOf, tV_yX0_spotOf, tP_yX0_spotOf, tI_RX0, by decide +kernel⟩
theorem fyX0_isAnswer : cfV yX0_isAnswer cX0_isAnswer 4 (Option.some Jvm.ClassFile.FieldType.boolean) 2 RX0 := ⟨tK_yX0_isAnswer, tV_yX0_isAnswer, tP_yX0_isAnswer, tI_RX0, by decide +kernel⟩
theorem fyX0_worth : cfV yX0_worth cX0_worth 3 (Option.some Jvm.ClassFile.FieldType.int) 2 RX0 := ⟨tK_yX0_worth, tV_yX0_worth, tP_yX0_worth, tI_RX0, by decide +kernel⟩
theorem fyX0_stepsInRow : cfS yX0_stepsInRow cX0_stepsInRow 2 (Option.some Jvm.ClassFile.FieldType.int) 1 := ⟨tK_yX0_stepsInRow, tS_yX0_stepsInRow, tI_RX0, by decide +kernel⟩
theorem fyX0_gap : cfV yX0_gap cX0_gap 5 (Option.some Jvm.ClassFile.FieldType.int) 2 RX0 := ⟨tK_yX0_gap, tV_yX0_gap, tP_yX0_gap, tI_RX0, by decide +kernel⟩
theorem fyX0_row : cfV yX0_row cX0_row 9 (Option.some Jvm.ClassFile.FieldType.int) 2 RX0 := ⟨tK_yX0_row, tV_yX0_row, tP_yX0_row, tI_RX0, by decide +kernel⟩
theorem fyX0_mark : cfV yX0_mark cX0_mark 4 (Option.some Jvm.ClassFile.FieldType.int) 2 RX0 := ⟨tK_yX0_mark, tV_yX0_mark, tP_yX0_mark, tI_RX0, by decide +kernel⟩
theorem fyX0_markAt : cfV yX0_markAt cX0_markAt 4 (Option.some Jvm.ClassFile.FieldType.int) 2 RX0 := ⟨tK_yX0_markAt, tV_yX0_markAt, tP_yX0_markAt, tI_RX0, by decide +kernel⟩
theorem fyX0_come : cfV yX0_come cX0_come 4 (Option.some Jvm.ClassFile.FieldType.int) 2 RX0 := ⟨tK_yX0_come, tV_yX0_come, tP_yX0_come, tI_RX0, by decide +kernel⟩
theorem fyX0_hasComeTo : cfV yX0_hasComeTo cX0_hasComeTo 5 (Option.some Jvm.ClassFile.FieldType.boolean) 2 RX0 := ⟨tK_yX0_hasComeTo, tV_yX0_hasComeTo, tP_yX0_hasComeTo, tI_RX0, by decide +kernel⟩
theorem fyX0_total : cfV yX0_total cX0_total 2 (Option.some Jvm.ClassFile.FieldType.int) 1 RX0 := ⟨tK_yX0_total, tV_yX0_total, tP_yX0_total, tI_RX0, by decide +kernel⟩
theorem fyX0_countingSet : cfV yX0_countingSet cX0_countingSet 1 (Option.some Jvm.ClassFile.FieldType.int) 0 RX0 := ⟨tK_yX0_countingSet, tV_yX0_countingSet, tP_yX0_countingSet, tI_RX0, by decide +kernel⟩
theorem fyX0_sumOver : cfV yX0_sumOver cX0_sumOver 6 (Option.some Jvm.ClassFile.FieldType.int) 2 RX0 := ⟨tK_yX0_sumOver, tV_yX0_sumOver, tP_yX0_sumOver, tI_RX0, by decide +kernel⟩
theorem fyX0_easy : cfV yX0_easy cX0_easy 9 (Option.some Jvm.ClassFile.FieldType.long) 2 RX0 := ⟨tK_yX0_easy, tV_yX0_easy, tP_yX0_easy, tI_RX0, by decide +kernel⟩
theorem fyX0_isPart : cfS yX0_isPart cX0_isPart 1 (Option.some Jvm.ClassFile.FieldType.boolean) 1 := ⟨tK_yX0_isPart, tS_yX0_isPart, tI_RX0, by decide +kernel⟩
theorem fyX0_spotComeTo : cfV yX0_spotComeTo cX0_spotComeTo 4 (Option.some Jvm.ClassFile.FieldType.int) 2 RX0 := ⟨tK_yX0_spotComeTo, tV_yX0_spotComeTo, tP_yX0_spotComeTo, tI_RX0, by decide +kernel⟩
theorem fyX0_fraction : cfS yX0_fraction cX0_fraction 7 (Option.some Jvm.ClassFile.FieldType.long) 3 := ⟨tK_yX0_fraction, tS_yX0_fraction, tI_RX0, by decide +kernel⟩
theorem fyX0_commonDivisor : cfS yX0_commonDivisor cX0_commonDivisor 11 (Option.some Jvm.ClassFile.FieldType.long) 2 := ⟨tK_yX0_commonDivisor, tS_yX0_commonDivisor, tI_RX0, by decide +kernel⟩
theorem fyX0_sharp : cfV yX0_sharp cX0_sharp 17 (Option.some Jvm.ClassFile.FieldType.long) 1 RX0 := ⟨tK_yX0_sharp, tV_yX0_sharp, tP_yX0_sharp, tI_RX0, by decide +kernel⟩
theorem fyX0_leaky : cfV yX0_leaky cX0_leaky 4 (Option.some Jvm.ClassFile.FieldType.int) 3 RX0 := ⟨tK_yX0_leaky, tV_yX0_leaky, tP_yX0_leaky, tI_RX0, by decide +kernel⟩
theorem fyX0_isBar : cfS yX0_isBar cX0_isBar 1 (Option.some Jvm.ClassFile.FieldType.boolean) 1 := ⟨tK_yX0_isBar, tS_yX0_isBar, tI_RX0, by decide +kernel⟩
theorem fyX0_tallyPlaces : cfV yX0_tallyPlaces cX0_tallyPlaces 4 (Option.none : Option Jvm.ClassFile.FieldType) 1 RX0 := ⟨tK_yX0_tallyPlaces, tV_yX0_tallyPlaces, tP_yX0_tallyPlaces, tI_RX0, by decide +kernel⟩
theorem fyX0_isLeakyByTally : cfV yX0_isLeakyByTally cX0_isLeakyByTally 8 (Option.some Jvm.ClassFile.FieldType.boolean) 2 RX0 := ⟨tK_yX0_isLeakyByTally, tV_yX0_isLeakyByTally, tP_yX0_isLeakyByTally, tI_RX0, by decide +kernel⟩
theorem fyX0_leak : cfV yX0_leak cX0_leak 6 (Option.some Jvm.ClassFile.FieldType.int) 2 RX0 := ⟨tK_yX0_leak, tV_yX0_leak, tP_yX0_leak, tI_RX0, by decide +kernel⟩
theorem fyX0_shared : cfV yX0_shared cX0_shared 3 (Option.some Jvm.ClassFile.FieldType.int) 2 RX0 := ⟨tK_yX0_shared, tV_yX0_shared, tP_yX0_shared, tI_RX0, by decide +kernel⟩
theorem fyX0_sharedSet : cfV yX0_sharedSet cX0_sharedSet 3 (Option.some Jvm.ClassFile.FieldType.int) 2 RX0 := ⟨tK_yX0_sharedSet, tV_yX0_sharedSet, tP_yX0_sharedSet, tI_RX0, by decide +kernel⟩
theorem fyX0_sum : cfV yX0_sum cX0_sum 4 (Option.some Jvm.ClassFile.FieldType.int) 2 RX0 := ⟨tK_yX0_sum, tV_yX0_sum, tP_yX0_sum, tI_RX0, by decide +kernel⟩
theorem fyX0_group : cfV yX0_group cX0_group 5 (Option.some Jvm.ClassFile.FieldType.long) 3 RX0 := ⟨tK_yX0_group, tV_yX0_group, tP_yX0_group, tI_RX0, by decide +kernel⟩
theorem fyX0_gatherSums : cfV yX0_gatherSums cX0_gatherSums 5 (Option.some Jvm.ClassFile.FieldType.int) 2 RX0 := ⟨tK_yX0_gatherSums, tV_yX0_gatherSums, tP_yX0_gatherSums, tI_RX0, by decide +kernel⟩
theorem fyX0_sumOfValues : cfV yX0_sumOfValues cX0_sumOfValues 5 (Option.some Jvm.ClassFile.FieldType.long) 1 RX0 := ⟨tK_yX0_sumOfValues, tV_yX0_sumOfValues, tP_yX0_sumOfValues, tI_RX0, by decide +kernel⟩
theorem fyX0_awayOfValues : cfV yX0_awayOfValues cX0_awayOfValues 7 (Option.some Jvm.ClassFile.FieldType.long) 1 RX0 := ⟨tK_yX0_awayOfValues, tV_yX0_awayOfValues, tP_yX0_awayOfValues, tI_RX0, by decide +kernel⟩
theorem fyX0_scale : cfV yX0_scale cX0_scale 21 (Option.some Jvm.ClassFile.FieldType.long) 4 RX0 := ⟨tK_yX0_scale, tV_yX0_scale, tP_yX0_scale, tI_RX0, by decide +kernel⟩
theorem fyX0_isTotal : cfS yX0_isTotal cX0_isTotal 1 (Option.some Jvm.ClassFile.FieldType.boolean) 1 := ⟨tK_yX0_isTotal, tS_yX0_isTotal, tI_RX0, by decide +kernel⟩
theorem fyX0_rank : cfV yX0_rank cX0_rank 3 (Option.some Jvm.ClassFile.FieldType.int) 2 RX0 := ⟨tK_yX0_rank, tV_yX0_rank, tP_yX0_rank, tI_RX0, by decide +kernel⟩
theorem fyX0_rankInValues : cfV yX0_rankInValues cX0_rankInValues 5 (Option.some Jvm.ClassFile.FieldType.int) 2 RX0 := ⟨tK_yX0_rankInValues, tV_yX0_rankInValues, tP_yX0_rankInValues, tI_RX0, by decide +kernel⟩
theorem fyX0_like : cfV yX0_like cX0_like 10 (Option.some Jvm.ClassFile.FieldType.int) 3 RX0 := ⟨tK_yX0_like, tV_yX0_like, tP_yX0_like, tI_RX0, by decide +kernel⟩
theorem fyX0_judge : cfV yX0_judge cX0_judge 8 (Option.some Jvm.ClassFile.FieldType.int) 4 RX0 := ⟨tK_yX0_judge, tV_yX0_judge, tP_yX0_judge, tI_RX0, by decide +kernel⟩
theorem fyX0_cut : cfV yX0_cut cX0_cut 3 (Option.some Jvm.ClassFile.FieldType.long) 2 RX0 := ⟨tK_yX0_cut, tV_yX0_cut, tP_yX0_cut, tI_RX0, by decide +kernel⟩
theorem fyX0_cutParts : cfV yX0_cutParts cX0_cutParts 5 (Option.some Jvm.ClassFile.FieldType.int) 1 RX0 := ⟨tK_yX0_cutParts, tV_yX0_cutParts, tP_yX0_cutParts, tI_RX0, by decide +kernel⟩
theorem fyX0_meanParts : cfV yX0_meanParts cX0_meanParts 6 (Option.some Jvm.ClassFile.FieldType.int) 1 RX0 := ⟨tK_yX0_meanParts, tV_yX0_meanParts, tP_yX0_meanParts, tI_RX0, by decide +kernel⟩
theorem fyX0_passes : cfV yX0_passes cX0_passes 2 (Option.some Jvm.ClassFile.FieldType.int) 1 RX0 := ⟨tK_yX0_passes, tV_yX0_passes, tP_yX0_passes, tI_RX0, by decide +kernel⟩
theorem fyX0_isPassing : cfV yX0_isPassing cX0_isPassing 2 (Option.some Jvm.ClassFile.FieldType.boolean) 1 RX0 := ⟨tK_yX0_isPassing, tV_yX0_isPassing, tP_yX0_isPassing, tI_RX0, by decide +kernel⟩
theorem fyX0_border : cfV yX0_border cX0_border 10 (Option.some Jvm.ClassFile.FieldType.int) 2 RX0 := ⟨tK_yX0_border, tV_yX0_border, tP_yX0_border, tI_RX0, by decide +kernel⟩
theorem fyX0_alike : cfV yX0_alike cX0_alike 3 (Option.some Jvm.ClassFile.FieldType.int) 2 RX0 := ⟨tK_yX0_alike, tV_yX0_alike, tP_yX0_alike, tI_RX0, by decide +kernel⟩
theorem fyX0_sameWrongs : cfV yX0_sameWrongs cX0_sameWrongs 7 (Option.some Jvm.ClassFile.FieldType.int) 2 RX0 := ⟨tK_yX0_sameWrongs, tV_yX0_sameWrongs, tP_yX0_sameWrongs, tI_RX0, by decide +kernel⟩
theorem fyX0_pair : cfV yX0_pair cX0_pair 7 (Option.some Jvm.ClassFile.FieldType.int) 3 RX0 := ⟨tK_yX0_pair, tV_yX0_pair, tP_yX0_pair, tI_RX0, by decide +kernel⟩
theorem fyX0_areAlikeOf : cfV yX0_areAlikeOf cX0_areAlikeOf 5 (Option.some Jvm.ClassFile.FieldType.boolean) 4 RX0 := ⟨tK_yX0_areAlikeOf, tV_yX0_areAlikeOf, tP_yX0_areAlikeOf, tI_RX0, by decide +kernel⟩
theorem fyX0_count : cfV yX0_count cX0_count 2 (Option.some Jvm.ClassFile.FieldType.int) 1 RX0 := ⟨tK_yX0_count, tV_yX0_count, tP_yX0_count, tI_RX0, by decide +kernel⟩
theorem fyX0_countAnswers : cfV yX0_countAnswers cX0_countAnswers 3 (Option.some Jvm.ClassFile.FieldType.int) 0 RX0 := ⟨tK_yX0_countAnswers, tV_yX0_countAnswers, tP_yX0_countAnswers, tI_RX0, by decide +kernel⟩
theorem fyX0_countPassing : cfV yX0_countPassing cX0_countPassing 3 (Option.some Jvm.ClassFile.FieldType.int) 0 RX0 := ⟨tK_yX0_countPassing, tV_yX0_countPassing, tP_yX0_countPassing, tI_RX0, by decide +kernel⟩
theorem fyX1_question : cfV yX1_question cX1_question 4 (Option.some Jvm.ClassFile.FieldType.int) 3 RX1 := ⟨tK_yX1_question, tV_yX1_question, tP_yX1_question, tI_RX1, by decide +kernel⟩
theorem fyX1_in : cfV yX1_in cX1_in 4 (Option.some Jvm.ClassFile.FieldType.boolean) 3 RX1 := ⟨tK_yX1_in, tV_yX1_in, tP_yX1_in, tI_RX1, by decide +kernel⟩
theorem fyX1_isKey : cfV yX1_isKey cX1_isKey 3 (Option.some Jvm.ClassFile.FieldType.boolean) 2 RX1 := ⟨tK_yX1_isKey, tV_yX1_isKey, tP_yX1_isKey, tI_RX1, by decide +kernel⟩
theorem fyX1_key : cfV yX1_key cX1_key 4 (Option.some Jvm.ClassFile.FieldType.int) 2 RX1 := ⟨tK_yX1_key, tV_yX1_key, tP_yX1_key, tI_RX1, by decide +kernel⟩
theorem fyX1_isQuestion : cfV yX1_isQuestion cX1_isQuestion 2 (Option.some Jvm.ClassFile.FieldType.boolean) 1 RX1 := ⟨tK_yX1_isQuestion, tV_yX1_isQuestion, tP_yX1_isQuestion, tI_RX1, by decide +kernel⟩
theorem fyX1_strike : cfV yX1_strike cX1_strike 4 (Option.some Jvm.ClassFile.FieldType.int) 2 RX1 := ⟨tK_yX1_strike, tV_yX1_strike, tP_yX1_strike, tI_RX1, by decide +kernel⟩
theorem fyX1_paper : cfV yX1_paper cX1_paper 1 (Option.some Jvm.ClassFile.FieldType.int) 0 RX1 := ⟨tK_yX1_paper, tV_yX1_paper, tP_yX1_paper, tI_RX1, by decide +kernel⟩
theorem fyX1_put : cfV yX1_put cX1_put 4 (Option.some Jvm.ClassFile.FieldType.int) 2 RX1 := ⟨tK_yX1_put, tV_yX1_put, tP_yX1_put, tI_RX1, by decide +kernel⟩
theorem fyX1_isPaper : cfV yX1_isPaper cX1_isPaper 2 (Option.some Jvm.ClassFile.FieldType.boolean) 1 RX1 := ⟨tK_yX1_isPaper, tV_yX1_isPaper, tP_yX1_isPaper, tI_RX1, by decide +kernel⟩
theorem fyX1_spot : cfV yX1_spot cX1_spot 4 (Option.some Jvm.ClassFile.FieldType.int) 2 RX1 := ⟨tK_yX1_spot, tV_yX1_spot, tP_yX1_spot, tI_RX1, by decide +kernel⟩
theorem fyX1_groupSize : cfV yX1_groupSize cX1_groupSize 4 (Option.some Jvm.ClassFile.FieldType.int) 1 RX1 := ⟨tK_yX1_groupSize, tV_yX1_groupSize, tP_yX1_groupSize, tI_RX1, by decide +kernel⟩
theorem fyX1_at : cfV yX1_at cX1_at 3 (Option.some Jvm.ClassFile.FieldType.int) 2 RX1 := ⟨tK_yX1_at, tV_yX1_at, tP_yX1_at, tI_RX1, by decide +kernel⟩
theorem fyX1_pupil : cfV yX1_pupil cX1_pupil 4 (Option.some Jvm.ClassFile.FieldType.int) 2 RX1 := ⟨tK_yX1_pupil, tV_yX1_pupil, tP_yX1_pupil, tI_RX1, by decide +kernel⟩
theorem fyX1_answer : cfV yX1_answer cX1_answer 5 (Option.some Jvm.ClassFile.FieldType.int) 3 RX1 := ⟨tK_yX1_answer, tV_yX1_answer, tP_yX1_answer, tI_RX1, by decide +kernel⟩
theorem fyX1_own : cfV yX1_own cX1_own 3 (Option.some Jvm.ClassFile.FieldType.int) 2 RX1 := ⟨tK_yX1_own, tV_yX1_own, tP_yX1_own, tI_RX1, by decide +kernel⟩
theorem fyX1_isPupil : cfV yX1_isPupil cX1_isPupil 2 (Option.some Jvm.ClassFile.FieldType.boolean) 1 RX1 := ⟨tK_yX1_isPupil, tV_yX1_isPupil, tP_yX1_isPupil, tI_RX1, by decide +kernel⟩
theorem fyX1_isAnswer : cfV yX1_isAnswer cX1_isAnswer 4 (Option.some Jvm.ClassFile.FieldType.boolean) 2 RX1 := ⟨tK_yX1_isAnswer, tV_yX1_isAnswer, tP_yX1_isAnswer, tI_RX1, by decide +kernel⟩
theorem fyX1_worth : cfV yX1_worth cX1_worth 4 (Option.some Jvm.ClassFile.FieldType.int) 2 RX1 := ⟨tK_yX1_worth, tV_yX1_worth, tP_yX1_worth, tI_RX1, by decide +kernel⟩
theorem fyX1_gap : cfV yX1_gap cX1_gap 5 (Option.some Jvm.ClassFile.FieldType.int) 2 RX1 := ⟨tK_yX1_gap, tV_yX1_gap, tP_yX1_gap, tI_RX1, by decide +kernel⟩
theorem fyX1_row : cfV yX1_row cX1_row 7 (Option.some Jvm.ClassFile.FieldType.int) 2 RX1 := ⟨tK_yX1_row, tV_yX1_row, tP_yX1_row, tI_RX1, by decide +kernel⟩
theorem fyX1_mark : cfV yX1_mark cX1_mark 4 (Option.some Jvm.ClassFile.FieldType.int) 2 RX1 := ⟨tK_yX1_mark, tV_yX1_mark, tP_yX1_mark, tI_RX1, by decide +kernel⟩
theorem fyX1_markAt : cfV yX1_markAt cX1_markAt 3 (Option.some Jvm.ClassFile.FieldType.int) 2 RX1 := ⟨tK_yX1_markAt, tV_yX1_markAt, tP_yX1_markAt, tI_RX1, by decide +kernel⟩
theorem fyX1_come : cfV yX1_come cX1_come 4 (Option.some Jvm.ClassFile.FieldType.int) 2 RX1 := ⟨tK_yX1_come, tV_yX1_come, tP_yX1_come, tI_RX1, by decide +kernel⟩
theorem fyX1_cameTo : cfV yX1_cameTo cX1_cameTo 5 (Option.some Jvm.ClassFile.FieldType.boolean) 2 RX1 := ⟨tK_yX1_cameTo, tV_yX1_cameTo, tP_yX1_cameTo, tI_RX1, by decide +kernel⟩
theorem fyX1_total : cfV yX1_total cX1_total 2 (Option.some Jvm.ClassFile.FieldType.int) 1 RX1 := ⟨tK_yX1_total, tV_yX1_total, tP_yX1_total, tI_RX1, by decide +kernel⟩
theorem fyX1_totalOf : cfV yX1_totalOf cX1_totalOf 4 (Option.some Jvm.ClassFile.FieldType.int) 1 RX1 := ⟨tK_yX1_totalOf, tV_yX1_totalOf, tP_yX1_totalOf, tI_RX1, by decide +kernel⟩
theorem fyX1_isCounted : cfV yX1_isCounted cX1_isCounted 2 (Option.some Jvm.ClassFile.FieldType.boolean) 1 RX1 := ⟨tK_yX1_isCounted, tV_yX1_isCounted, tP_yX1_isCounted, tI_RX1, by decide +kernel⟩
theorem fyX1_easy : cfV yX1_easy cX1_easy 9 (Option.some Jvm.ClassFile.FieldType.long) 2 RX1 := ⟨tK_yX1_easy, tV_yX1_easy, tP_yX1_easy, tI_RX1, by decide +kernel⟩
theorem fyX1_part : cfV yX1_part cX1_part 8 (Option.some Jvm.ClassFile.FieldType.long) 3 RX1 := ⟨tK_yX1_part, tV_yX1_part, tP_yX1_part, tI_RX1, by decide +kernel⟩
theorem fyX1_divisor : cfV yX1_divisor cX1_divisor 11 (Option.some Jvm.ClassFile.FieldType.long) 2 RX1 := ⟨tK_yX1_divisor, tV_yX1_divisor, tP_yX1_divisor, tI_RX1, by decide +kernel⟩
theorem fyX1_sharp : cfV yX1_sharp cX1_sharp 16 (Option.some Jvm.ClassFile.FieldType.long) 1 RX1 := ⟨tK_yX1_sharp, tV_yX1_sharp, tP_yX1_sharp, tI_RX1, by decide +kernel⟩
theorem fyX1_leaky : cfV yX1_leaky cX1_leaky 4 (Option.some Jvm.ClassFile.FieldType.int) 3 RX1 := ⟨tK_yX1_leaky, tV_yX1_leaky, tP_yX1_leaky, tI_RX1, by decide +kernel⟩
theorem fyX1_leaks : cfV yX1_leaks cX1_leaks 15 (Option.some Jvm.ClassFile.FieldType.boolean) 3 RX1 := ⟨tK_yX1_leaks, tV_yX1_leaks, tP_yX1_leaks, tI_RX1, by decide +kernel⟩
theorem fyX1_leak : cfV yX1_leak cX1_leak 5 (Option.some Jvm.ClassFile.FieldType.int) 2 RX1 := ⟨tK_yX1_leak, tV_yX1_leak, tP_yX1_leak, tI_RX1, by decide +kernel⟩
theorem fyX1_shared : cfV yX1_shared cX1_shared 3 (Option.some Jvm.ClassFile.FieldType.int) 2 RX1 := ⟨tK_yX1_shared, tV_yX1_shared, tP_yX1_shared, tI_RX1, by decide +kernel⟩
theorem fyX1_sharedMany : cfV yX1_sharedMany cX1_sharedMany 5 (Option.some Jvm.ClassFile.FieldType.int) 2 RX1 := ⟨tK_yX1_sharedMany, tV_yX1_sharedMany, tP_yX1_sharedMany, tI_RX1, by decide +kernel⟩
theorem fyX1_isShared : cfV yX1_isShared cX1_isShared 4 (Option.some Jvm.ClassFile.FieldType.boolean) 3 RX1 := ⟨tK_yX1_isShared, tV_yX1_isShared, tP_yX1_isShared, tI_RX1, by decide +kernel⟩
theorem fyX1_sum : cfV yX1_sum cX1_sum 3 (Option.some Jvm.ClassFile.FieldType.int) 2 RX1 := ⟨tK_yX1_sum, tV_yX1_sum, tP_yX1_sum, tI_RX1, by decide +kernel⟩
theorem fyX1_sharedSum : cfV yX1_sharedSum cX1_sharedSum 5 (Option.some Jvm.ClassFile.FieldType.int) 2 RX1 := ⟨tK_yX1_sharedSum, tV_yX1_sharedSum, tP_yX1_sharedSum, tI_RX1, by decide +kernel⟩
theorem fyX1_group : cfV yX1_group cX1_group 4 (Option.some Jvm.ClassFile.FieldType.long) 3 RX1 := ⟨tK_yX1_group, tV_yX1_group, tP_yX1_group, tI_RX1, by decide +kernel⟩
theorem fyX1_sumOf : cfV yX1_sumOf cX1_sumOf 6 (Option.some Jvm.ClassFile.FieldType.long) 2 RX1 := ⟨tK_yX1_sumOf, tV_yX1_sumOf, tP_yX1_sumOf, tI_RX1, by decide +kernel⟩
theorem fyX1_valueOf : cfV yX1_valueOf cX1_valueOf 3 (Option.some Jvm.ClassFile.FieldType.long) 2 RX1 := ⟨tK_yX1_valueOf, tV_yX1_valueOf, tP_yX1_valueOf, tI_RX1, by decide +kernel⟩
theorem fyX1_away : cfV yX1_away cX1_away 12 (Option.some Jvm.ClassFile.FieldType.long) 2 RX1 := ⟨tK_yX1_away, tV_yX1_away, tP_yX1_away, tI_RX1, by decide +kernel⟩
theorem fyX1_scale : cfV yX1_scale cX1_scale 17 (Option.some Jvm.ClassFile.FieldType.long) 4 RX1 := ⟨tK_yX1_scale, tV_yX1_scale, tP_yX1_scale, tI_RX1, by decide +kernel⟩
theorem fyX1_rank : cfV yX1_rank cX1_rank 3 (Option.some Jvm.ClassFile.FieldType.int) 2 RX1 := ⟨tK_yX1_rank, tV_yX1_rank, tP_yX1_rank, tI_RX1, by decide +kernel⟩
theorem fyX1_rankOf : cfV yX1_rankOf cX1_rankOf 7 (Option.some Jvm.ClassFile.FieldType.long) 2 RX1 := ⟨tK_yX1_rankOf, tV_yX1_rankOf, tP_yX1_rankOf, tI_RX1, by decide +kernel⟩
theorem fyX1_like : cfV yX1_like cX1_like 14 (Option.some Jvm.ClassFile.FieldType.int) 3 RX1 := ⟨tK_yX1_like, tV_yX1_like, tP_yX1_like, tI_RX1, by decide +kernel⟩
theorem fyX1_judge : cfV yX1_judge cX1_judge 7 (Option.some Jvm.ClassFile.FieldType.int) 4 RX1 := ⟨tK_yX1_judge, tV_yX1_judge, tP_yX1_judge, tI_RX1, by decide +kernel⟩
theorem fyX1_cut : cfV yX1_cut cX1_cut 3 (Option.some Jvm.ClassFile.FieldType.long) 2 RX1 := ⟨tK_yX1_cut, tV_yX1_cut, tP_yX1_cut, tI_RX1, by decide +kernel⟩
theorem fyX1_cutOf : cfV yX1_cutOf cX1_cutOf 11 (Option.some Jvm.ClassFile.FieldType.long) 1 RX1 := ⟨tK_yX1_cutOf, tV_yX1_cutOf, tP_yX1_cutOf, tI_RX1, by decide +kernel⟩
theorem fyX1_passes : cfV yX1_passes cX1_passes 2 (Option.some Jvm.ClassFile.FieldType.int) 1 RX1 := ⟨tK_yX1_passes, tV_yX1_passes, tP_yX1_passes, tI_RX1, by decide +kernel⟩
theorem fyX1_isPassed : cfV yX1_isPassed cX1_isPassed 2 (Option.some Jvm.ClassFile.FieldType.boolean) 1 RX1 := ⟨tK_yX1_isPassed, tV_yX1_isPassed, tP_yX1_isPassed, tI_RX1, by decide +kernel⟩
theorem fyX1_border : cfV yX1_border cX1_border 7 (Option.some Jvm.ClassFile.FieldType.int) 2 RX1 := ⟨tK_yX1_border, tV_yX1_border, tP_yX1_border, tI_RX1, by decide +kernel⟩
theorem fyX1_alike : cfV yX1_alike cX1_alike 3 (Option.some Jvm.ClassFile.FieldType.int) 2 RX1 := ⟨tK_yX1_alike, tV_yX1_alike, tP_yX1_alike, tI_RX1, by decide +kernel⟩
theorem fyX1_alikeMany : cfV yX1_alikeMany cX1_alikeMany 6 (Option.some Jvm.ClassFile.FieldType.int) 2 RX1 := ⟨tK_yX1_alikeMany, tV_yX1_alikeMany, tP_yX1_alikeMany, tI_RX1, by decide +kernel⟩
theorem fyX1_pair : cfV yX1_pair cX1_pair 7 (Option.some Jvm.ClassFile.FieldType.int) 3 RX1 := ⟨tK_yX1_pair, tV_yX1_pair, tP_yX1_pair, tI_RX1, by decide +kernel⟩
theorem fyX1_count : cfV yX1_count cX1_count 5 (Option.some Jvm.ClassFile.FieldType.int) 1 RX1 := ⟨tK_yX1_count, tV_yX1_count, tP_yX1_count, tI_RX1, by decide +kernel⟩
end
section
/-! plain facts on numbers and arrays, to paste: each family by itself; over the kit's rows on nI and upd -/
/-! ===== order of ints, in all its forms, and through longs ===== -/
theorem fa_lt (a b : Int32) : a < b ↔ a.toInt < b.toInt := Int32.lt_iff_toInt_lt
theorem fa_le (a b : Int32) : a ≤ b ↔ a.toInt ≤ b.toInt := Int32.le_iff_toInt_le
theorem fa_eq (a b : Int32) : a = b ↔ a.toInt = b.toInt := Int32.toInt_inj.symm
theorem fa_lt64 (a b : Int64) : a < b ↔ a.toInt < b.toInt := Int64.lt_iff_toInt_lt
theorem fa_le64 (a b : Int64) : a ≤ b ↔ a.toInt ≤ b.toInt := Int64.le_iff_toInt_le
theorem fa_eq64 (a b : Int64) : a = b ↔ a.toInt = b.toInt := Int64.toInt_inj.symm
/-- a comparison of two ints taken as longs -/
theorem fa_wide_lt (a b : Int32) : a.toInt64 < b.toInt64 ↔ a < b := by rw [fa_lt64, fa_lt, Int32.toInt_toInt64, Int32.toInt_toInt64]
theorem fa_wide_le (a b : Int32) : a.toInt64 ≤ b.toInt64 ↔ a ≤ b := by rw [fa_le64, fa_le, Int32.toInt_toInt64, Int32.toInt_toInt64]
theorem fa_wide_eq (a b : Int32) : a.toInt64 = b.toInt64 ↔ a = b := by rw [fa_eq64, fa_eq, Int32.toInt_toInt64, Int32.toInt_toInt64]
/-- one strict comparison gives all the others -/
theorem fa_of_lt {a b : Int32} (h : a < b) : a ≤ b ∧ ¬ b ≤ a ∧ ¬ b < a ∧ a ≠ b ∧ b ≠ a := by
  rw [fa_lt] at h
  refine ⟨?_, ?_, ?_, ?_, ?_⟩
  · rw [fa_le]; omega
  · rw [fa_le]; omega
  · rw [fa_lt]; omega
  · intro e; rw [fa_eq] at e; omega
  · intro e; rw [fa_eq] at e; omega
theorem fa_of_nlt {a b : Int32} (h : ¬ a < b) : b ≤ a := by
  rw [fa_lt] at h
  rw [fa_le]
  omega
theorem fa_of_nle {a b : Int32} (h : ¬ a ≤ b) : b < a := by
  rw [fa_le] at h
  rw [fa_lt]
  omega
theorem fa_le_ne {a b : Int32} (h : a ≤ b) (h2 : a ≠ b) : a < b := by
  rw [fa_le] at h
  rw [fa_lt]
  have h3 : a.toInt ≠ b.toInt := fun e => h2 ((fa_eq a b).mpr e)
  omega
theorem fa_three (a b : Int32) : a < b ∨ a = b ∨ b < a := by
  rw [fa_lt, fa_lt, fa_eq]
  omega
theorem fa_trans {a b c : Int32} (h : a < b) (h2 : b ≤ c) : a < c := by
  rw [fa_lt] at *
  rw [fa_le] at h2
  omega
/-! ===== small literals as numbers ===== -/
theorem fa_lit (n : Nat) : (OfNat.ofNat n : Int32) = nI n := rfl
theorem fa_litL (n : Nat) : (OfNat.ofNat n : Int64) = lN n := rfl
/-! ===== bits of a number: 'or', masks, one bit ===== -/
theorem fa_and (a b : Nat) : nI a &&& nI b = nI (a &&& b) := by
  apply Int32.toBitVec_inj.1
  show BitVec.ofNat 32 a &&& BitVec.ofNat 32 b = BitVec.ofNat 32 (a &&& b)
  apply BitVec.eq_of_getLsbD_eq
  intro i hi
  simp [hi]
theorem fa_or (a b : Nat) : nI a ||| nI b = nI (a ||| b) := by
  apply Int32.toBitVec_inj.1
  show BitVec.ofNat 32 a ||| BitVec.ofNat 32 b = BitVec.ofNat 32 (a ||| b)
  apply BitVec.eq_of_getLsbD_eq
  intro i hi
  simp [hi]
/-- a remainder by a power of two, as a mask -/
theorem fa_mask (n k : Nat) : nI n &&& nI (2 ^ k - 1) = nI (n % 2 ^ k) := by rw [fa_and, Nat.and_two_pow_sub_one_eq_mod]
/-- 'or' of a high part and a low one that don't meet is their sum -/
theorem fa_or_sum {a k : Nat} (b : Nat) (h : a < 2 ^ k) : nI (2 ^ k * b) ||| nI a = nI (2 ^ k * b + a) := by rw [fa_or, Nat.two_pow_add_eq_or_of_lt h]
/-- one bit, by 'and' with a power of two -/
theorem fa_bit {n j : Nat} (hj : j < 31) : nI n &&& nI (2 ^ j) = 0 ↔ n.testBit j = false := by
  have h2 : (2 : Nat) ^ j < 2 ^ 31 := Nat.pow_lt_pow_right (by decide) hj
  have hle : n &&& 2 ^ j ≤ 2 ^ j := Nat.and_le_right
  have e : n &&& 2 ^ j = 0 ↔ n.testBit j = false := by
    constructor
    · intro h
      have h1 : (n &&& 2 ^ j).testBit j = false := by rw [h]; simp
      rw [Nat.testBit_and] at h1
      first | simpa using h1 | simpa [Nat.testBit_two_pow_self] using h1 | simpa [Nat.testBit_two_pow] using h1
    · intro h
      apply Nat.eq_of_testBit_eq
      intro i
      rw [Nat.testBit_and]
      by_cases hi : j = i
      · subst hi; simp [h]
      · first | (simp [Nat.testBit_two_pow, hi]; done) | (simp [Nat.testBit_two_pow_of_ne hi]; done)
  rw [fa_and]
  constructor
  · intro h
    apply e.mp
    rcases Nat.eq_zero_or_pos (n &&& 2 ^ j) with z | z
    · exact z
    · exact absurd h (nI_ne0 z (Nat.lt_of_le_of_lt hle h2))
  · intro h
    rw [e.mpr h]; exact nI_0
/-- a remainder by a power of two of a number that isn't negative, as Java divides -/
theorem fa_rem {a k : Nat} (ha : a < 2 ^ 31) (hk : k < 31) : nI a - nI a / nI (2 ^ k) * nI (2 ^ k) = nI (a % 2 ^ k) := pk_rem ha (Nat.two_pow_pos k) (Nat.pow_lt_pow_right (by decide) hk)
/-! ===== cuts to a byte, a short ===== -/
theorem fa_byte_xor (x y : Int32) : (x ^^^ y).toInt8 = x.toInt8 ^^^ y.toInt8 := by
  apply Int8.toBitVec_inj.1
  apply BitVec.eq_of_getLsbD_eq
  intro i hi
  first | (simp [hi]; done) | (simp [hi, BitVec.getLsbD_setWidth, BitVec.getLsbD_signExtend]; done)
theorem fa_short_xor (x y : Int32) : (x ^^^ y).toInt16 = x.toInt16 ^^^ y.toInt16 := by
  apply Int16.toBitVec_inj.1
  apply BitVec.eq_of_getLsbD_eq
  intro i hi
  first | (simp [hi]; done) | (simp [hi, BitVec.getLsbD_setWidth, BitVec.getLsbD_signExtend]; done)
/-- the cut to a byte sees the low byte alone -/
theorem fa_byte_low (x : Int32) : (x &&& 255).toInt8 = x.toInt8 := by
  apply Int8.toBitVec_inj.1
  apply BitVec.eq_of_getLsbD_eq
  intro i hi
  have h2 : (255 : Int32).toBitVec.getLsbD i = true := by
    have : ∀ j : Fin 8, (255 : Int32).toBitVec.getLsbD j.val = true := by decide +kernel
    exact this ⟨i, hi⟩
  have h4 : (x &&& 255).toBitVec.getLsbD i = x.toBitVec.getLsbD i := by
    show (x.toBitVec &&& (255 : Int32).toBitVec).getLsbD i = _
    rw [BitVec.getLsbD_and, h2, Bool.and_true]
  have h3 : i < 32 := by omega
  first
    | (show (((x &&& 255).toBitVec).signExtend 8).getLsbD i = (x.toBitVec.signExtend 8).getLsbD i; rw [BitVec.getLsbD_signExtend, BitVec.getLsbD_signExtend, if_pos h3, if_pos h3, h4])
    | (show (((x &&& 255).toBitVec).setWidth 8).getLsbD i = (x.toBitVec.setWidth 8).getLsbD i; rw [BitVec.getLsbD_setWidth, BitVec.getLsbD_setWidth, h4])
    | (simp [hi, h3, h4]; done)
theorem fa_short_low (x : Int32) : (x &&& 65535).toInt16 = x.toInt16 := by
  apply Int16.toBitVec_inj.1
  apply BitVec.eq_of_getLsbD_eq
  intro i hi
  have h2 : (65535 : Int32).toBitVec.getLsbD i = true := by
    have : ∀ j : Fin 16, (65535 : Int32).toBitVec.getLsbD j.val = true := by decide +kernel
    exact this ⟨i, hi⟩
  have h4 : (x &&& 65535).toBitVec.getLsbD i = x.toBitVec.getLsbD i := by
    show (x.toBitVec &&& (65535 : Int32).toBitVec).getLsbD i = _
    rw [BitVec.getLsbD_and, h2, Bool.and_true]
  have h3 : i < 32 := by omega
  first
    | (show (((x &&& 65535).toBitVec).signExtend 16).getLsbD i = (x.toBitVec.signExtend 16).getLsbD i; rw [BitVec.getLsbD_signExtend, BitVec.getLsbD_signExtend, if_pos h3, if_pos h3, h4])
    | (show (((x &&& 65535).toBitVec).setWidth 16).getLsbD i = (x.toBitVec.setWidth 16).getLsbD i; rw [BitVec.getLsbD_setWidth, BitVec.getLsbD_setWidth, h4])
    | (simp [hi, h3, h4]; done)
/-- a small number is its own byte, its own short -/
theorem fa_byte_small {n : Nat} (h : n < 128) : (nI n).toInt8.toInt32 = nI n := by
  have : ∀ j : Fin 128, (nI j.val).toInt8.toInt32 = nI j.val := by decide +kernel
  exact this ⟨n, h⟩
/-! ===== absolute difference ===== -/
theorem fa_absdiff {a b : Nat} (ha : a < 2 ^ 31) (hb : b < 2 ^ 31) : (if nI a < nI b then nI b - nI a else nI a - nI b) = nI (if a < b then b - a else a - b) := by
  by_cases h : a < b
  · rw [if_pos (nI_lt h hb), if_pos h]
    exact pk_sub (Nat.le_of_lt h)
  · rw [if_neg (nI_nlt (Nat.le_of_not_lt h) ha), if_neg h]
    exact pk_sub (Nat.le_of_not_lt h)
/-! ===== an array behind i stores, a conditional store, a row copied ===== -/
/-- f where k < i, what stood there else -/
def fa_fill {α : Type} (f g : Nat → α) (i : Nat) : Nat → α := fun k => if k < i then f k else g k
theorem fa_fill_0 {α : Type} (f g : Nat → α) : fa_fill f g 0 = g := funext fun k => if_neg (Nat.not_lt_zero k)
theorem fa_fill_in {α : Type} {f g : Nat → α} {i k : Nat} (h : k < i) : fa_fill f g i k = f k := if_pos h
theorem fa_fill_out {α : Type} {f g : Nat → α} {i k : Nat} (h : i ≤ k) : fa_fill f g i k = g k := if_neg (Nat.not_lt.mpr h)
theorem fa_fill_succ (f g : Nat → Int32) (i : Nat) : upd (fa_fill f g i) i (f i) = fa_fill f g (i + 1) := by
  funext k
  by_cases e : k = i
  · subst e
    rw [pk_us]
    exact (if_pos (Nat.lt_succ_self k)).symm
  · rw [pk_un e]
    by_cases h : k < i
    · rw [fa_fill_in h, fa_fill_in (Nat.lt_succ_of_lt h)]
    · rw [fa_fill_out (Nat.le_of_not_lt h), fa_fill_out (by omega)]
/-- a store that changes nothing -/
theorem fa_upd_same {f : Nat → Int32} {i : Nat} {x : Int32} (h : f i = x) : upd f i x = f := by
  funext k
  by_cases e : k = i
  · subst e
    rw [pk_us, h]
  · rw [pk_un e]
/-- a store under a condition, told as one -/
theorem fa_upd_if (c : Prop) [Decidable c] (f : Nat → Int32) (i : Nat) (x : Int32) : (if c then upd f i x else f) = upd f i (if c then x else f i) := by
  by_cases h : c
  · rw [if_pos h, if_pos h]
  · rw [if_neg h, if_neg h, fa_upd_same rfl]
/-- two stores at one place, at two -/
theorem fa_upd_twice (f : Nat → Int32) (i : Nat) (x y : Int32) : upd (upd f i x) i y = upd f i y := by
  funext k
  by_cases e : k = i
  · subst e
    rw [pk_us, pk_us]
  · rw [pk_un e, pk_un e, pk_un e]
theorem fa_upd_swap (f : Nat → Int32) {i j : Nat} (h : i ≠ j) (x y : Int32) : upd (upd f i x) j y = upd (upd f j y) i x := by
  funext k
  by_cases e : k = i
  · subst e
    rw [pk_un h, pk_us, pk_us]
  · by_cases e2 : k = j
    · subst e2
      rw [pk_us, pk_un e, pk_us]
    · rw [pk_un e2, pk_un e, pk_un e, pk_un e2]
/-! ===== the first index with a property; a count ===== -/
/-- the first k < n with p k, n if there is none -/
def fa_first (p : Nat → Bool) : Nat → Nat
  | 0 => 0
  | n + 1 => if fa_first p n < n then fa_first p n else if p n then n else n + 1
theorem fa_first_le (p : Nat → Bool) : ∀ n, fa_first p n ≤ n
  | 0 => Nat.le_refl 0
  | n + 1 => by
    have ih := fa_first_le p n
    unfold fa_first
    split
    · omega
    · split
      · omega
      · omega
theorem fa_first_no (p : Nat → Bool) : ∀ n k, k < fa_first p n → p k = false
  | 0, k, h => absurd h (Nat.not_lt_zero k)
  | n + 1, k, h => by
    have ih := fa_first_no p n
    have hl := fa_first_le p n
    unfold fa_first at h
    split at h
    · exact ih k h
    · rename_i h1
      split at h
      · exact ih k (by omega)
      · rename_i h2
        by_cases e : k = n
        · subst e
          exact Bool.eq_false_iff.mpr h2
        · exact ih k (by omega)
theorem fa_first_yes (p : Nat → Bool) : ∀ n, fa_first p n < n → p (fa_first p n) = true
  | 0, h => absurd h (Nat.not_lt_zero _)
  | n + 1, h => by
    have ih := fa_first_yes p n
    have hl := fa_first_le p n
    unfold fa_first at h ⊢
    split at h
    · rename_i h1
      rw [if_pos h1]
      exact ih h1
    · rename_i h1
      rw [if_neg h1]
      split at h
      · rename_i h2
        rw [if_pos h2]
        exact h2
      · omega
/-- how many k < n have p k -/
def fa_cnt (p : Nat → Bool) : Nat → Nat
  | 0 => 0
  | n + 1 => fa_cnt p n + if p n then 1 else 0
theorem fa_cnt_le (p : Nat → Bool) : ∀ n, fa_cnt p n ≤ n
  | 0 => Nat.le_refl 0
  | n + 1 => by
    have ih := fa_cnt_le p n
    unfold fa_cnt
    split
    · omega
    · omega
theorem fa_cnt_yes {p : Nat → Bool} {n : Nat} (h : p n = true) : fa_cnt p (n + 1) = fa_cnt p n + 1 := by rw [fa_cnt, if_pos h]
theorem fa_cnt_no {p : Nat → Bool} {n : Nat} (h : p n = false) : fa_cnt p (n + 1) = fa_cnt p n := by rw [fa_cnt, if_neg (by rw [h]; decide)]; rfl
theorem fa_cnt_cong {p q : Nat → Bool} : ∀ {n : Nat}, (∀ k, k < n → p k = q k) → fa_cnt p n = fa_cnt q n
  | 0, _ => rfl
  | n + 1, h => by rw [fa_cnt, fa_cnt, fa_cnt_cong (fun k hk => h k (Nat.lt_succ_of_lt hk)), h n (Nat.lt_succ_self n)]
/-! ===== an answer carried into a post; a branch on a boolean answer ===== -/
theorem fa_post {α : Type} {P : α → Prop} {x y : α} (h : x = y) (hp : P y) : P x := h ▸ hp
theorem fa_post2 {α β : Type} {P : α → β → Prop} {x y : α} {u v : β} (h : x = y) (h2 : u = v) (hp : P y v) : P x u := h ▸ h2 ▸ hp
theorem fa_bool {r : Int32} {b : Bool} (h : r = if b then 1 else 0) : (r = 0 ↔ b = false) ∧ (¬ r = 0 ↔ b = true) := by
  subst h
  cases b
  · exact ⟨⟨fun _ => rfl, fun _ => rfl⟩, ⟨fun h => absurd rfl h, fun h => absurd h (by decide)⟩⟩
  · exact ⟨⟨fun h => absurd h (by decide), fun h => absurd h (by decide)⟩, ⟨fun _ => rfl, fun _ => by decide⟩⟩
/-- a boolean's narrowing changes nothing -/
theorem fa_bool_and {r : Int32} (h : r = 0 ∨ r = 1) : r &&& 1 = r := by
  rcases h with rfl | rfl
  · decide
  · decide
theorem fa_bool_prop {c : Prop} [Decidable c] {r : Int32} (h : r = if c then 1 else 0) : (r = 0 ↔ ¬ c) ∧ (¬ r = 0 ↔ c) := by
  subst h
  by_cases hc : c
  · rw [if_pos hc]
    exact ⟨⟨fun h => absurd h (by decide), fun h => absurd hc h⟩, ⟨fun _ => hc, fun _ => by decide⟩⟩
  · rw [if_neg hc]
    exact ⟨⟨fun _ => hc, fun _ => rfl⟩, ⟨fun h => absurd rfl h, fun h => absurd h hc⟩⟩
/-! plain facts to paste, each family by itself; over the kit's nI, lN and upd -/
/-! ===== drawers: more things than places ===== -/
theorem fb_holes : ∀ (m n : Nat) (f : Nat → Nat), (∀ i, i < n → f i < m) → (∀ i j, i < j → j < n → f i ≠ f j) → n ≤ m := by
  intro m
  induction m with
  | zero =>
    intro n f h1 _
    rcases Nat.eq_zero_or_pos n with h | h
    · omega
    · exact absurd (h1 0 h) (Nat.not_lt_zero _)
  | succ m ih =>
    intro n f h1 h2
    by_cases hx : ∃ i, i < n ∧ f i = m
    · obtain ⟨a, ha, hfa⟩ := hx
      have hg := ih (n - 1) (fun i => if i < a then f i else f (i + 1)) (by
        intro i hi
        by_cases q : i < a
        · simp only [if_pos q]
          have b1 := h1 i (by omega)
          have b2 := h2 i a q ha
          omega
        · simp only [if_neg q]
          have b1 := h1 (i + 1) (by omega)
          have b2 := h2 a (i + 1) (by omega) (by omega)
          omega) (by
        intro i j hij hj
        by_cases q : i < a
        · by_cases r : j < a
          · simp only [if_pos q, if_pos r]
            exact h2 i j hij (by omega)
          · simp only [if_pos q, if_neg r]
            exact h2 i (j + 1) (by omega) (by omega)
        · have r : ¬ j < a := by omega
          simp only [if_neg q, if_neg r]
          exact h2 (i + 1) (j + 1) (by omega) (by omega))
      omega
    · have hg := ih n f (fun i hi => by
        have b1 := h1 i hi
        have b2 : f i ≠ m := fun e => hx ⟨i, hi, e⟩
        omega) h2
      omega
/-- two of them in one place -/
theorem fb_twice {m n : Nat} {f : Nat → Nat} (h : ∀ i, i < n → f i < m) (hm : m < n) : ∃ i j, i < j ∧ j < n ∧ f i = f j := by
  refine Classical.byContradiction fun hx => ?_
  have := fb_holes m n f h (fun i j hij hj e => hx ⟨i, j, hij, hj, e⟩)
  omega
/-- as many as places, none twice: each place is taken -/
theorem fb_onto {n : Nat} {f : Nat → Nat} (h : ∀ i, i < n → f i < n) (h2 : ∀ i j, i < j → j < n → f i ≠ f j) {y : Nat} (hy : y < n) : ∃ i, i < n ∧ f i = y := by
  refine Classical.byContradiction fun hx => ?_
  have hne : ∀ i, i < n → f i ≠ y := fun i hi e => hx ⟨i, hi, e⟩
  have := fb_holes (n - 1) n (fun i => if f i < y then f i else f i - 1) (by
    intro i hi
    have b1 := h i hi
    have b2 := hne i hi
    by_cases q : f i < y
    · simp only [if_pos q]; omega
    · simp only [if_neg q]; omega) (by
    intro i j hij hj
    have b1 := hne i (by omega)
    have b2 := hne j hj
    have b3 := h2 i j hij hj
    by_cases q : f i < y
    · by_cases r : f j < y
      · simp only [if_pos q, if_pos r]; exact b3
      · simp only [if_pos q, if_neg r]; omega
    · by_cases r : f j < y
      · simp only [if_neg q, if_pos r]; omega
      · simp only [if_neg q, if_neg r]; omega)
  omega
/-! ===== how many places have a property ===== -/
def fb_ct (p : Nat → Bool) : Nat → Nat
  | 0 => 0
  | n + 1 => fb_ct p n + (if p n then 1 else 0)
theorem fb_ct_succ (p : Nat → Bool) (n : Nat) : fb_ct p (n + 1) = fb_ct p n + (if p n then 1 else 0) := rfl
theorem fb_ct_le (p : Nat → Bool) : ∀ n, fb_ct p n ≤ n
  | 0 => Nat.le_refl _
  | n + 1 => by
    have h := fb_ct_le p n
    rw [fb_ct_succ]
    split <;> omega
theorem fb_ct_step (p : Nat → Bool) (m : Nat) : ∀ n, fb_ct p m ≤ fb_ct p (m + n)
  | 0 => Nat.le_refl _
  | n + 1 => by
    have h := fb_ct_step p m n
    show fb_ct p m ≤ fb_ct p (m + n + 1)
    rw [fb_ct_succ]
    omega
theorem fb_ct_mono (p : Nat → Bool) {m n : Nat} (h : m ≤ n) : fb_ct p m ≤ fb_ct p n := by
  have := fb_ct_step p m (n - m)
  rwa [Nat.add_sub_cancel' h] at this
theorem fb_ct_cong {p q : Nat → Bool} : ∀ {n : Nat}, (∀ k, k < n → p k = q k) → fb_ct p n = fb_ct q n
  | 0, _ => rfl
  | n + 1, h => by
    rw [fb_ct_succ, fb_ct_succ, fb_ct_cong (fun k hk => h k (by omega)), h n (by omega)]
/-- one place changed -/
theorem fb_ct_out (p : Nat → Bool) (b : Bool) {i n : Nat} (h : n ≤ i) : fb_ct (fun k => if k = i then b else p k) n = fb_ct p n :=
  fb_ct_cong fun k hk => if_neg (by omega)
theorem fb_ct_upd (p : Nat → Bool) (b : Bool) {i : Nat} : ∀ {n : Nat}, i < n → fb_ct (fun k => if k = i then b else p k) n + (if p i then 1 else 0) = fb_ct p n + (if b then 1 else 0)
  | 0, h => absurd h (Nat.not_lt_zero i)
  | n + 1, h => by
    rw [fb_ct_succ, fb_ct_succ]
    rcases Nat.lt_or_ge i n with q | q
    · have := fb_ct_upd p b q
      have e : (if n = i then b else p n) = p n := if_neg (by omega)
      rw [e]
      omega
    · have e : i = n := by omega
      subst e
      rw [fb_ct_out p b (Nat.le_refl _)]
      simp only [if_true]
      omega
theorem fb_ct_sub {p q : Nat → Bool} : ∀ {n : Nat}, (∀ k, k < n → p k = true → q k = true) → fb_ct p n ≤ fb_ct q n
  | 0, _ => Nat.le_refl _
  | n + 1, h => by
    have h1 := fb_ct_sub (n := n) (p := p) (q := q) (fun k hk => h k (by omega))
    have h2 := h n (by omega)
    rw [fb_ct_succ, fb_ct_succ]
    cases hp : p n <;> cases hq : q n <;> simp_all <;> omega
theorem fb_ct_or {p q : Nat → Bool} : ∀ {n : Nat}, (∀ k, k < n → ¬ (p k = true ∧ q k = true)) → fb_ct (fun k => p k || q k) n = fb_ct p n + fb_ct q n
  | 0, _ => rfl
  | n + 1, h => by
    have h1 := fb_ct_or (n := n) (p := p) (q := q) (fun k hk => h k (by omega))
    have h2 := h n (by omega)
    rw [fb_ct_succ, fb_ct_succ, fb_ct_succ, h1]
    cases hp : p n <;> cases hq : q n <;> simp_all <;> omega
theorem fb_ct_not (p : Nat → Bool) : ∀ n, fb_ct p n + fb_ct (fun k => !p k) n = n
  | 0 => rfl
  | n + 1 => by
    have h := fb_ct_not p n
    rw [fb_ct_succ, fb_ct_succ]
    cases p n <;> simp <;> omega
theorem fb_ct_split (p : Nat → Bool) (m : Nat) : ∀ n, fb_ct p (m + n) = fb_ct p m + fb_ct (fun k => p (m + k)) n
  | 0 => rfl
  | n + 1 => by
    have h := fb_ct_split p m n
    show fb_ct p (m + n + 1) = _
    rw [fb_ct_succ, fb_ct_succ, h, Nat.add_assoc]
theorem fb_ct_zero {p : Nat → Bool} : ∀ {n : Nat}, fb_ct p n = 0 ↔ ∀ k, k < n → p k = false
  | 0 => ⟨fun _ k hk => absurd hk (Nat.not_lt_zero k), fun _ => rfl⟩
  | n + 1 => by
    have h := fb_ct_zero (p := p) (n := n)
    rw [fb_ct_succ]
    constructor
    · intro e k hk
      have e1 : fb_ct p n = 0 := by omega
      rcases Nat.lt_or_ge k n with q | q
      · exact h.mp e1 k q
      · have ek : k = n := by omega
        subst ek
        cases hp : p k
        · rfl
        · simp [hp] at e
    · intro a
      rw [h.mpr (fun k hk => a k (by omega)), a n (by omega)]
      rfl
theorem fb_ct_pos {p : Nat → Bool} {n : Nat} : 0 < fb_ct p n ↔ ∃ k, k < n ∧ p k = true := by
  constructor
  · intro h
    refine Classical.byContradiction fun hx => ?_
    have := fb_ct_zero.mpr (fun k hk => by
      cases hp : p k
      · rfl
      · exact absurd ⟨k, hk, hp⟩ hx : ∀ k, k < n → p k = false)
    omega
  · rintro ⟨k, hk, hp⟩
    rcases Nat.eq_zero_or_pos (fb_ct p n) with e | e
    · have := fb_ct_zero.mp e k hk
      rw [this] at hp
      cases hp
    · exact e
theorem fb_ct_all {p : Nat → Bool} {n : Nat} : fb_ct p n = n ↔ ∀ k, k < n → p k = true := by
  have h := fb_ct_not p n
  constructor
  · intro e k hk
    have z : fb_ct (fun k => !p k) n = 0 := by omega
    have := fb_ct_zero.mp z k hk
    cases hp : p k
    · simp [hp] at this
    · rfl
  · intro a
    have z : fb_ct (fun k => !p k) n = 0 := fb_ct_zero.mpr (fun k hk => by simp [a k hk])
    omega
/-- the k-th place with the property -/
theorem fb_ct_kth {p : Nat → Bool} {k : Nat} : ∀ {n : Nat}, k < fb_ct p n → ∃ i, i < n ∧ p i = true ∧ fb_ct p i = k
  | 0, h => absurd h (Nat.not_lt_zero k)
  | n + 1, h => by
    rcases Nat.lt_or_ge k (fb_ct p n) with q | q
    · obtain ⟨i, h1, h2⟩ := fb_ct_kth q
      exact ⟨i, by omega, h2⟩
    · rw [fb_ct_succ] at h
      cases hp : p n
      · simp [hp] at h; omega
      · simp [hp] at h
        exact ⟨n, by omega, hp, by omega⟩
theorem fb_ct_kth_one {p : Nat → Bool} {i j : Nat} (hi : p i = true) (hj : p j = true) (e : fb_ct p i = fb_ct p j) : i = j := by
  have key : ∀ a b : Nat, a < b → p a = true → fb_ct p a < fb_ct p b := by
    intro a b hab ha
    have h := fb_ct_mono p (show a + 1 ≤ b from hab)
    rw [fb_ct_succ, ha] at h
    simp at h
    omega
  rcases Nat.lt_trichotomy i j with q | q | q
  · have := key i j q hi; omega
  · exact q
  · have := key j i q hj; omega
/-! ===== sums over a range: one place changed, parts, bounds ===== -/
def fb_sm (f : Nat → Nat) : Nat → Nat
  | 0 => 0
  | n + 1 => fb_sm f n + f n
theorem fb_sm_succ (f : Nat → Nat) (n : Nat) : fb_sm f (n + 1) = fb_sm f n + f n := rfl
theorem fb_sm_cong {f g : Nat → Nat} : ∀ {n : Nat}, (∀ k, k < n → f k = g k) → fb_sm f n = fb_sm g n
  | 0, _ => rfl
  | n + 1, h => by rw [fb_sm_succ, fb_sm_succ, fb_sm_cong (fun k hk => h k (by omega)), h n (by omega)]
theorem fb_sm_out (f : Nat → Nat) (v : Nat) {i n : Nat} (h : n ≤ i) : fb_sm (fun k => if k = i then v else f k) n = fb_sm f n :=
  fb_sm_cong fun k hk => if_neg (by omega)
theorem fb_sm_upd (f : Nat → Nat) (v : Nat) {i : Nat} : ∀ {n : Nat}, i < n → fb_sm (fun k => if k = i then v else f k) n + f i = fb_sm f n + v
  | 0, h => absurd h (Nat.not_lt_zero i)
  | n + 1, h => by
    rw [fb_sm_succ, fb_sm_succ]
    rcases Nat.lt_or_ge i n with q | q
    · have := fb_sm_upd f v q
      have e : (if n = i then v else f n) = f n := if_neg (by omega)
      rw [e]
      omega
    · have e : i = n := by omega
      subst e
      rw [fb_sm_out f v (Nat.le_refl _)]
      simp only [if_true]
      omega
theorem fb_sm_add (f g : Nat → Nat) : ∀ n, fb_sm (fun k => f k + g k) n = fb_sm f n + fb_sm g n
  | 0 => rfl
  | n + 1 => by
    have h := fb_sm_add f g n
    rw [fb_sm_succ, fb_sm_succ, fb_sm_succ, h]
    omega
theorem fb_sm_le {f g : Nat → Nat} : ∀ {n : Nat}, (∀ k, k < n → f k ≤ g k) → fb_sm f n ≤ fb_sm g n
  | 0, _ => Nat.le_refl _
  | n + 1, h => by
    have h1 := fb_sm_le (n := n) (f := f) (g := g) (fun k hk => h k (by omega))
    have h2 := h n (by omega)
    rw [fb_sm_succ, fb_sm_succ]
    omega
theorem fb_sm_const (c : Nat) : ∀ n, fb_sm (fun _ => c) n = n * c
  | 0 => by rw [Nat.zero_mul]; rfl
  | n + 1 => by rw [fb_sm_succ, fb_sm_const c n, Nat.succ_mul]
theorem fb_sm_bound {f : Nat → Nat} {c n : Nat} (h : ∀ k, k < n → f k ≤ c) : fb_sm f n ≤ n * c := by
  rw [← fb_sm_const c n]
  exact fb_sm_le h
theorem fb_sm_mono (f : Nat → Nat) (m : Nat) : ∀ n, fb_sm f m ≤ fb_sm f (m + n)
  | 0 => Nat.le_refl _
  | n + 1 => by
    have h := fb_sm_mono f m n
    show fb_sm f m ≤ fb_sm f (m + n + 1)
    rw [fb_sm_succ]
    omega
theorem fb_sm_part (f : Nat → Nat) {i n : Nat} (h : i < n) : fb_sm f i + f i ≤ fb_sm f n := by
  have := fb_sm_mono f (i + 1) (n - (i + 1))
  rw [fb_sm_succ, show i + 1 + (n - (i + 1)) = n by omega] at this
  exact this
theorem fb_sm_split (f : Nat → Nat) (m : Nat) : ∀ n, fb_sm f (m + n) = fb_sm f m + fb_sm (fun k => f (m + k)) n
  | 0 => rfl
  | n + 1 => by
    have h := fb_sm_split f m n
    show fb_sm f (m + n + 1) = _
    rw [fb_sm_succ, fb_sm_succ, h, Nat.add_assoc]
theorem fb_sm_zero {f : Nat → Nat} {n : Nat} (h : fb_sm f n = 0) : ∀ k, k < n → f k = 0 := fun k hk => by
  have := fb_sm_part f hk
  omega
/-- the same over whole numbers -/
def fb_si (f : Nat → Int) : Nat → Int
  | 0 => 0
  | n + 1 => fb_si f n + f n
theorem fb_si_succ (f : Nat → Int) (n : Nat) : fb_si f (n + 1) = fb_si f n + f n := rfl
theorem fb_si_cong {f g : Nat → Int} : ∀ {n : Nat}, (∀ k, k < n → f k = g k) → fb_si f n = fb_si g n
  | 0, _ => rfl
  | n + 1, h => by rw [fb_si_succ, fb_si_succ, fb_si_cong (fun k hk => h k (by omega)), h n (by omega)]
theorem fb_si_out (f : Nat → Int) (v : Int) {i n : Nat} (h : n ≤ i) : fb_si (fun k => if k = i then v else f k) n = fb_si f n :=
  fb_si_cong fun k hk => if_neg (by omega)
theorem fb_si_upd (f : Nat → Int) (v : Int) {i : Nat} : ∀ {n : Nat}, i < n → fb_si (fun k => if k = i then v else f k) n = fb_si f n - f i + v
  | 0, h => absurd h (Nat.not_lt_zero i)
  | n + 1, h => by
    rw [fb_si_succ, fb_si_succ]
    rcases Nat.lt_or_ge i n with q | q
    · have := fb_si_upd f v q
      have e : (if n = i then v else f n) = f n := if_neg (by omega)
      rw [e]
      omega
    · have e : i = n := by omega
      subst e
      rw [fb_si_out f v (Nat.le_refl _)]
      simp only [if_true]
      omega
theorem fb_si_add (f g : Nat → Int) : ∀ n, fb_si (fun k => f k + g k) n = fb_si f n + fb_si g n
  | 0 => rfl
  | n + 1 => by
    have h := fb_si_add f g n
    rw [fb_si_succ, fb_si_succ, fb_si_succ, h]
    omega
theorem fb_si_sub (f g : Nat → Int) : ∀ n, fb_si (fun k => f k - g k) n = fb_si f n - fb_si g n
  | 0 => rfl
  | n + 1 => by
    have h := fb_si_sub f g n
    rw [fb_si_succ, fb_si_succ, fb_si_succ, h]
    omega
theorem fb_si_mul (c : Int) (f : Nat → Int) : ∀ n, fb_si (fun k => c * f k) n = c * fb_si f n
  | 0 => (Int.mul_zero c).symm
  | n + 1 => by
    have h := fb_si_mul c f n
    rw [fb_si_succ, fb_si_succ, h, Int.mul_add]
theorem fb_si_split (f : Nat → Int) (m : Nat) : ∀ n, fb_si f (m + n) = fb_si f m + fb_si (fun k => f (m + k)) n
  | 0 => (Int.add_zero _).symm
  | n + 1 => by
    have h := fb_si_split f m n
    show fb_si f (m + n + 1) = _
    rw [fb_si_succ, fb_si_succ, h, Int.add_assoc]
theorem fb_si_nat (f : Nat → Nat) : ∀ n, fb_si (fun k => (f k : Int)) n = (fb_sm f n : Int)
  | 0 => rfl
  | n + 1 => by
    have h := fb_si_nat f n
    rw [fb_si_succ, fb_sm_succ, h]
    omega
theorem fb_si_bound {f : Nat → Int} {c : Int} (hc : 0 ≤ c) : ∀ {n : Nat}, (∀ k, k < n → -c ≤ f k ∧ f k ≤ c) → -(n * c) ≤ fb_si f n ∧ fb_si f n ≤ n * c
  | 0, _ => by simp [fb_si]
  | n + 1, h => by
    have h1 := fb_si_bound (n := n) (f := f) hc (fun k hk => h k (by omega))
    have h2 := h n (by omega)
    have e : ((n + 1 : Nat) : Int) * c = n * c + c := by rw [Int.natCast_add, Int.add_mul]; simp
    rw [fb_si_succ, e]
    omega
/-! ===== bits of a long that isn't negative ===== -/
theorem fb_andL (a b : Nat) : lN a &&& lN b = lN (a &&& b) := by
  apply Int64.toBitVec_inj.1
  show BitVec.ofNat 64 a &&& BitVec.ofNat 64 b = BitVec.ofNat 64 (a &&& b)
  apply BitVec.eq_of_getLsbD_eq
  intro i hi
  simp [hi]
theorem fb_orL (a b : Nat) : lN a ||| lN b = lN (a ||| b) := by
  apply Int64.toBitVec_inj.1
  show BitVec.ofNat 64 a ||| BitVec.ofNat 64 b = BitVec.ofNat 64 (a ||| b)
  apply BitVec.eq_of_getLsbD_eq
  intro i hi
  simp [hi]
theorem fb_xorL (a b : Nat) : lN a ^^^ lN b = lN (a ^^^ b) := by
  apply Int64.toBitVec_inj.1
  show BitVec.ofNat 64 a ^^^ BitVec.ofNat 64 b = BitVec.ofNat 64 (a ^^^ b)
  apply BitVec.eq_of_getLsbD_eq
  intro i hi
  simp [hi]
theorem fb_xorI (a b : Nat) : nI a ^^^ nI b = nI (a ^^^ b) := by
  apply Int32.toBitVec_inj.1
  show BitVec.ofNat 32 a ^^^ BitVec.ofNat 32 b = BitVec.ofNat 32 (a ^^^ b)
  apply BitVec.eq_of_getLsbD_eq
  intro i hi
  simp [hi]
theorem fb_maskL (n k : Nat) : lN n &&& lN (2 ^ k - 1) = lN (n % 2 ^ k) := by rw [fb_andL, Nat.and_two_pow_sub_one_eq_mod]
theorem fb_or_sumL {a k : Nat} (b : Nat) (h : a < 2 ^ k) : lN (2 ^ k * b) ||| lN a = lN (2 ^ k * b + a) := by rw [fb_orL, Nat.two_pow_add_eq_or_of_lt h]
theorem fb_lN_inj {a b : Nat} (ha : a < 2 ^ 63) (hb : b < 2 ^ 63) : lN a = lN b ↔ a = b := by
  constructor
  · intro h
    have h1 : (BitVec.ofNat 64 a).toNat = (BitVec.ofNat 64 b).toNat := congrArg (fun x : Int64 => x.toBitVec.toNat) h
    rw [BitVec.toNat_ofNat, BitVec.toNat_ofNat, Nat.mod_eq_of_lt (by omega), Nat.mod_eq_of_lt (by omega)] at h1
    exact h1
  · rintro rfl; rfl
theorem fb_bit_nat (n j : Nat) : n &&& 2 ^ j = 0 ↔ n.testBit j = false := by
  constructor
  · intro h
    have h1 : (n &&& 2 ^ j).testBit j = false := by rw [h]; simp
    rw [Nat.testBit_and] at h1
    simpa using h1
  · intro h
    apply Nat.eq_of_testBit_eq
    intro i
    rw [Nat.testBit_and]
    by_cases hi : j = i
    · subst hi; simp [h]
    · first | (simp [Nat.testBit_two_pow, hi]; done) | (simp [Nat.testBit_two_pow_of_ne hi]; done)
/-- one bit of a long -/
theorem fb_bitL {n j : Nat} (hj : j < 63) : lN n &&& lN (2 ^ j) = 0 ↔ n.testBit j = false := by
  have h2 : (2 : Nat) ^ j < 2 ^ 63 := Nat.pow_lt_pow_right (by decide) hj
  have hle : n &&& 2 ^ j ≤ 2 ^ j := Nat.and_le_right
  rw [fb_andL, ← fb_bit_nat, show (0 : Int64) = lN 0 from rfl]
  exact fb_lN_inj (by omega) (by decide)
/-- a bit set, a bit taken off -/
theorem fb_bit_set (n j i : Nat) : (n ||| 2 ^ j).testBit i = (n.testBit i || decide (i = j)) := by
  rw [Nat.testBit_or]
  by_cases h : j = i
  · subst h; simp
  · have h2 : ¬ i = j := fun e => h e.symm
    first | (simp [Nat.testBit_two_pow, h, h2]; done) | (simp [Nat.testBit_two_pow_of_ne h, h2]; done)
theorem fb_bit_flip (n j i : Nat) : (n ^^^ 2 ^ j).testBit i = (n.testBit i ^^ decide (i = j)) := by
  rw [Nat.testBit_xor]
  by_cases h : j = i
  · subst h; simp
  · have h2 : ¬ i = j := fun e => h e.symm
    first | (simp [Nat.testBit_two_pow, h, h2]; done) | (simp [Nat.testBit_two_pow_of_ne h, h2]; done)
/-! ===== a stretch of an array written over by a function ===== -/
def fb_put {α : Type} (f g : Nat → α) (a n : Nat) : Nat → α := fun k => if a ≤ k ∧ k < a + n then g (k - a) else f k
theorem fb_put_0 {α : Type} (f g : Nat → α) (a : Nat) : fb_put f g a 0 = f := funext fun k => if_neg (by omega)
theorem fb_put_in {α : Type} {f g : Nat → α} {a n k : Nat} (h1 : a ≤ k) (h2 : k < a + n) : fb_put f g a n k = g (k - a) := if_pos ⟨h1, h2⟩
theorem fb_put_out {α : Type} {f g : Nat → α} {a n k : Nat} (h : k < a ∨ a + n ≤ k) : fb_put f g a n k = f k := if_neg (by omega)
theorem fb_put_succ (f g : Nat → Int32) (a n : Nat) : upd (fb_put f g a n) (a + n) (g n) = fb_put f g a (n + 1) := by
  funext k
  by_cases h : k = a + n
  · subst h
    simp [upd, fb_put]
  · by_cases h1 : a ≤ k ∧ k < a + n
    · have h2 : a ≤ k ∧ k < a + (n + 1) := by omega
      simp only [upd, fb_put, if_neg h, if_pos h1, if_pos h2]
    · have h2 : ¬ (a ≤ k ∧ k < a + (n + 1)) := by omega
      simp only [upd, fb_put, if_neg h, if_neg h1, if_neg h2]
/-- .. from the far end down -/
theorem fb_put_down (f g : Nat → Int32) {a n m : Nat} (h : m < n) : upd (fb_put f (fun k => g (k + (m + 1))) (a + (m + 1)) (n - (m + 1))) (a + m) (g m) = fb_put f (fun k => g (k + m)) (a + m) (n - m) := by
  funext k
  by_cases h0 : k = a + m
  · subst h0
    simp only [upd, if_true]
    rw [fb_put_in (by omega) (by omega)]
    exact congrArg g (by omega)
  · simp only [upd, if_neg h0]
    by_cases h1 : a + (m + 1) ≤ k ∧ k < a + (m + 1) + (n - (m + 1))
    · rw [fb_put_in h1.1 h1.2, fb_put_in (by omega) (by omega)]
      exact congrArg g (by omega)
    · rw [fb_put_out (by omega), fb_put_out (by omega)]
theorem fb_put_cong {α : Type} {f f2 g g2 : Nat → α} {a n : Nat} (hf : ∀ k, (k < a ∨ a + n ≤ k) → f k = f2 k) (hg : ∀ k, k < n → g k = g2 k) : fb_put f g a n = fb_put f2 g2 a n := by
  funext k
  by_cases h : a ≤ k ∧ k < a + n
  · rw [fb_put_in h.1 h.2, fb_put_in h.1 h.2, hg _ (by omega)]
  · rw [fb_put_out (by omega), fb_put_out (by omega), hf _ (by omega)]
/-! ===== the least, the first, the best so far; that there is one alone ===== -/
theorem fb_first {p : Nat → Prop} [DecidablePred p] : ∀ {n : Nat}, (∃ i, i < n ∧ p i) → ∃ i, i < n ∧ p i ∧ ∀ j, j < i → ¬ p j
  | 0, h => by obtain ⟨i, hi, -⟩ := h; exact absurd hi (Nat.not_lt_zero i)
  | n + 1, h => by
    by_cases q : ∃ i, i < n ∧ p i
    · obtain ⟨i, h1, h2⟩ := fb_first q
      exact ⟨i, by omega, h2⟩
    · obtain ⟨i, h1, h2⟩ := h
      have e : i = n := by
        rcases Nat.lt_or_ge i n with r | r
        · exact absurd ⟨i, r, h2⟩ q
        · omega
      subst e
      exact ⟨i, by omega, h2, fun j hj hp => q ⟨j, hj, hp⟩⟩
theorem fb_first_one {p : Nat → Prop} {i j : Nat} (hi : p i) (hi2 : ∀ k, k < i → ¬ p k) (hj : p j) (hj2 : ∀ k, k < j → ¬ p k) : i = j := by
  rcases Nat.lt_trichotomy i j with q | q | q
  · exact absurd hi (hj2 i q)
  · exact q
  · exact absurd hj (hi2 j q)
theorem fb_last {p : Nat → Prop} [DecidablePred p] : ∀ {n : Nat}, (∃ i, i < n ∧ p i) → ∃ i, i < n ∧ p i ∧ ∀ j, i < j → j < n → ¬ p j
  | 0, h => by obtain ⟨i, hi, -⟩ := h; exact absurd hi (Nat.not_lt_zero i)
  | n + 1, h => by
    by_cases q : p n
    · exact ⟨n, by omega, q, fun j h1 h2 => by omega⟩
    · obtain ⟨i, h1, h2⟩ := h
      have hi : i < n := by
        rcases Nat.lt_or_ge i n with r | r
        · exact r
        · have e : i = n := by omega
          subst e
          exact absurd h2 q
      obtain ⟨i2, a1, a2, a3⟩ := fb_last (n := n) ⟨i, hi, h2⟩
      refine ⟨i2, by omega, a2, fun j b1 b2 => ?_⟩
      rcases Nat.lt_or_ge j n with r | r
      · exact a3 j b1 r
      · have e : j = n := by omega
        subst e
        exact q
/-- the first greatest -/
theorem fb_best (f : Nat → Int) : ∀ {n : Nat}, 0 < n → ∃ i, i < n ∧ (∀ j, j < n → f j ≤ f i) ∧ ∀ j, j < i → f j < f i
  | 0, h => absurd h (Nat.lt_irrefl 0)
  | 1, _ => ⟨0, by omega, fun j hj => by have e : j = 0 := by omega
                                         subst e; exact Int.le_refl _, fun j hj => absurd hj (Nat.not_lt_zero j)⟩
  | n + 2, _ => by
    obtain ⟨i, h1, h2, h3⟩ := fb_best f (n := n + 1) (by omega)
    by_cases q : f i < f (n + 1)
    · refine ⟨n + 1, by omega, fun j hj => ?_, fun j hj => ?_⟩
      · rcases Nat.lt_or_ge j (n + 1) with r | r
        · have := h2 j r; omega
        · have e : j = n + 1 := by omega
          subst e; exact Int.le_refl _
      · have := h2 j hj; omega
    · refine ⟨i, by omega, fun j hj => ?_, h3⟩
      rcases Nat.lt_or_ge j (n + 1) with r | r
      · exact h2 j r
      · have e : j = n + 1 := by omega
        subst e; omega
theorem fb_best_one {f : Nat → Int} {n i j : Nat} (hi : i < n) (hi2 : ∀ k, k < n → f k ≤ f i) (hi3 : ∀ k, k < i → f k < f i) (hj : j < n) (hj2 : ∀ k, k < n → f k ≤ f j) (hj3 : ∀ k, k < j → f k < f j) : i = j := by
  rcases Nat.lt_trichotomy i j with q | q | q
  · have a := hj3 i q
    have b := hi2 j hj
    omega
  · exact q
  · have a := hi3 j q
    have b := hj2 i hi
    omega
/-- the first least -/
theorem fb_low (f : Nat → Int) {n : Nat} (h : 0 < n) : ∃ i, i < n ∧ (∀ j, j < n → f i ≤ f j) ∧ ∀ j, j < i → f i < f j := by
  obtain ⟨i, h1, h2, h3⟩ := fb_best (fun k => -f k) h
  exact ⟨i, h1, fun j hj => by have := h2 j hj; omega, fun j hj => by have := h3 j hj; omega⟩
/-! ===== signed ints as whole numbers, within bounds ===== -/
theorem fb_rng (x : Int32) : -2147483648 ≤ x.toInt ∧ x.toInt < 2147483648 := by
  have h1 := Int32.le_toInt x
  have h2 := Int32.toInt_lt x
  omega
theorem fb_bmod {z : Int} (h1 : -2147483648 ≤ z) (h2 : z < 2147483648) : z.bmod (2 ^ 32) = z := by
  rw [Int.bmod_eq_of_le (by omega) (by omega)]
theorem fb_addI {x y : Int32} (h1 : -2147483648 ≤ x.toInt + y.toInt) (h2 : x.toInt + y.toInt < 2147483648) : (x + y).toInt = x.toInt + y.toInt := by
  rw [Int32.toInt_add, fb_bmod h1 h2]
theorem fb_subI {x y : Int32} (h1 : -2147483648 ≤ x.toInt - y.toInt) (h2 : x.toInt - y.toInt < 2147483648) : (x - y).toInt = x.toInt - y.toInt := by
  rw [Int32.toInt_sub, fb_bmod h1 h2]
theorem fb_mulI {x y : Int32} (h1 : -2147483648 ≤ x.toInt * y.toInt) (h2 : x.toInt * y.toInt < 2147483648) : (x * y).toInt = x.toInt * y.toInt := by
  rw [Int32.toInt_mul, fb_bmod h1 h2]
theorem fb_negI {x : Int32} (h : x.toInt ≠ -2147483648) : (-x).toInt = -x.toInt := by
  have := fb_rng x
  rw [Int32.toInt_neg, fb_bmod (by omega) (by omega)]
theorem fb_ofI {z : Int} (h1 : -2147483648 ≤ z) (h2 : z < 2147483648) : (Int32.ofInt z).toInt = z := by
  rw [Int32.toInt_ofInt, fb_bmod h1 h2]
theorem fb_asI (x : Int32) : Int32.ofInt x.toInt = x := Int32.ofInt_toInt x
theorem fb_rngL (x : Int64) : -9223372036854775808 ≤ x.toInt ∧ x.toInt < 9223372036854775808 := by
  have h1 := Int64.le_toInt x
  have h2 := Int64.toInt_lt x
  omega
theorem fb_bmodL {z : Int} (h1 : -9223372036854775808 ≤ z) (h2 : z < 9223372036854775808) : z.bmod (2 ^ 64) = z := by
  rw [Int.bmod_eq_of_le (by omega) (by omega)]
theorem fb_addL {x y : Int64} (h1 : -9223372036854775808 ≤ x.toInt + y.toInt) (h2 : x.toInt + y.toInt < 9223372036854775808) : (x + y).toInt = x.toInt + y.toInt := by
  rw [Int64.toInt_add, fb_bmodL h1 h2]
theorem fb_subL {x y : Int64} (h1 : -9223372036854775808 ≤ x.toInt - y.toInt) (h2 : x.toInt - y.toInt < 9223372036854775808) : (x - y).toInt = x.toInt - y.toInt := by
  rw [Int64.toInt_sub, fb_bmodL h1 h2]
theorem fb_mulL {x y : Int64} (h1 : -9223372036854775808 ≤ x.toInt * y.toInt) (h2 : x.toInt * y.toInt < 9223372036854775808) : (x * y).toInt = x.toInt * y.toInt := by
  rw [Int64.toInt_mul, fb_bmodL h1 h2]
/-! ===== cuts of what is narrow already ===== -/
theorem fb_byte {x : Int32} (h1 : -128 ≤ x.toInt) (h2 : x.toInt < 128) : x.toInt8.toInt32 = x := by
  apply Int32.toInt_inj.1
  rw [Int8.toInt_toInt32, Int32.toInt_toInt8, Int.bmod_eq_of_le (by omega) (by omega)]
theorem fb_short {x : Int32} (h1 : -32768 ≤ x.toInt) (h2 : x.toInt < 32768) : x.toInt16.toInt32 = x := by
  apply Int32.toInt_inj.1
  rw [Int16.toInt_toInt32, Int32.toInt_toInt16, Int.bmod_eq_of_le (by omega) (by omega)]
theorem fb_byte_rng (x : Int32) : -128 ≤ x.toInt8.toInt32.toInt ∧ x.toInt8.toInt32.toInt < 128 := by
  rw [Int8.toInt_toInt32]
  have h1 := Int8.le_toInt x.toInt8
  have h2 := Int8.toInt_lt x.toInt8
  omega
theorem fb_short_rng (x : Int32) : -32768 ≤ x.toInt16.toInt32.toInt ∧ x.toInt16.toInt32.toInt < 32768 := by
  rw [Int16.toInt_toInt32]
  have h1 := Int16.le_toInt x.toInt16
  have h2 := Int16.toInt_lt x.toInt16
  omega
theorem fb_byte_twice (x : Int32) : x.toInt8.toInt32.toInt8.toInt32 = x.toInt8.toInt32 := fb_byte (fb_byte_rng x).1 (fb_byte_rng x).2
theorem fb_short_twice (x : Int32) : x.toInt16.toInt32.toInt16.toInt32 = x.toInt16.toInt32 := fb_short (fb_short_rng x).1 (fb_short_rng x).2
theorem fb_char {n : Nat} (h : n < 65536) : (nI n).toUInt32.toUInt16.toUInt32.toInt32 = nI n := by
  apply Int32.toBitVec_inj.1
  apply BitVec.eq_of_toNat_eq
  have e1 : (nI n).toBitVec.toNat = n := by
    show (BitVec.ofNat 32 n).toNat = n
    rw [BitVec.toNat_ofNat, Nat.mod_eq_of_lt (by omega)]
  have e2 : ((nI n).toUInt32.toUInt16.toUInt32).toNat = n := by
    rw [UInt16.toNat_toUInt32, UInt32.toNat_toUInt16]
    show (nI n).toBitVec.toNat % 2 ^ 16 = n
    rw [e1, Nat.mod_eq_of_lt (by omega)]
  rw [e1]
  exact e2
/-! rows on bits, shifts and unsigned numbers, to paste: each family out of a closed proof of our own, whole with what it rests on; each by itself clean at Lean in its own claim (generation 39, form 5). Take a family whole -/
/-! ===== Int32 by its bits: bt x i ===== -/
def bt (x : Int32) (i : Nat) : Bool := x.toBitVec.getLsbD i
theorem b_ext {x y : Int32} (h : ∀ i, i < 32 → bt x i = bt y i) : x = y := Int32.toBitVec_inj.mp (BitVec.eq_of_getLsbD_eq (fun i hi => h i hi))
theorem b_or (x y : Int32) (i : Nat) : bt (x ||| y) i = (bt x i || bt y i) := by unfold bt; rw [Int32.toBitVec_or, BitVec.getLsbD_or]
theorem b_and (x y : Int32) (i : Nat) : bt (x &&& y) i = (bt x i && bt y i) := by unfold bt; rw [Int32.toBitVec_and, BitVec.getLsbD_and]
theorem b_xor (x y : Int32) (i : Nat) : bt (x ^^^ y) i = (bt x i ^^ bt y i) := by unfold bt; rw [Int32.toBitVec_xor, BitVec.getLsbD_xor]
theorem b_big {x : Int32} {i : Nat} (h : 32 ≤ i) : bt x i = false := BitVec.getLsbD_of_ge _ _ h
theorem b_255 (i : Nat) : bt 255 i = decide (i < 8) := by
  rcases Nat.lt_or_ge i 32 with h | h
  · exact (by decide +kernel : ∀ i, i < 32 → bt 255 i = decide (i < 8)) i h
  · rw [b_big h, decide_eq_false (by omega)]
theorem b_65535 (i : Nat) : bt 65535 i = decide (i < 16) := by
  rcases Nat.lt_or_ge i 32 with h | h
  · exact (by decide +kernel : ∀ i, i < 32 → bt 65535 i = decide (i < 16)) i h
  · rw [b_big h, decide_eq_false (by omega)]
theorem b_m1 : ∀ i, i < 32 → bt (-1) i = true := by decide +kernel
theorem b_0 (i : Nat) : bt 0 i = false := BitVec.getLsbD_zero
theorem s_l : ∀ n, n < 32 → ((nI n &&& 31).toBitVec.smod 32).toNat = n := by decide +kernel
theorem s_u : ∀ n, n < 32 → (((nI n).toUInt32 &&& Int32.toUInt32 31).toBitVec % 32).toNat = n := by decide +kernel
theorem b_shl (n : Nat) (hn : n < 32) (x : Int32) {i : Nat} (hi : i < 32) : bt (x <<< (nI n &&& 31)) i = (decide (n ≤ i) && bt x (i - n)) := by
  unfold bt
  rw [Int32.toBitVec_shiftLeft]
  show (x.toBitVec <<< ((nI n &&& 31).toBitVec.smod 32).toNat).getLsbD i = _
  rw [s_l n hn, BitVec.getLsbD_shiftLeft]
  rcases Nat.lt_or_ge i n with h | h
  · simp [h, Nat.not_le.mpr h]
  · simp [hi, h, Nat.not_lt.mpr h]
theorem b_ushr (n : Nat) (hn : n < 32) (x : Int32) (i : Nat) : bt ((x.toUInt32 >>> ((nI n).toUInt32 &&& Int32.toUInt32 31)).toInt32) i = bt x (n + i) := by
  show (x.toUInt32 >>> ((nI n).toUInt32 &&& Int32.toUInt32 31)).toBitVec.getLsbD i = x.toUInt32.toBitVec.getLsbD (n + i)
  rw [UInt32.toBitVec_shiftRight]
  show (x.toUInt32.toBitVec >>> (((nI n).toUInt32 &&& Int32.toUInt32 31).toBitVec % 32).toNat).getLsbD i = _
  rw [s_u n hn, BitVec.getLsbD_ushiftRight]
theorem b_sshr (n : Nat) (hn : n < 32) (x : Int32) {i : Nat} (hi : i < 32) : bt (x >>> (nI n &&& 31)) i = if n + i < 32 then bt x (n + i) else bt x 31 := by
  unfold bt
  rw [Int32.toBitVec_shiftRight]
  show (x.toBitVec.sshiftRight ((nI n &&& 31).toBitVec.smod 32).toNat).getLsbD i = _
  rw [s_l n hn, BitVec.getLsbD_sshiftRight, BitVec.msb_eq_getLsbD_last]
  simp [hi]
theorem b_shl8 (x : Int32) {i : Nat} (hi : i < 32) : bt (x <<< ((8 : Int32) &&& 31)) i = (decide (8 ≤ i) && bt x (i - 8)) := b_shl 8 (by omega) x hi
theorem b_shl16 (x : Int32) {i : Nat} (hi : i < 32) : bt (x <<< ((16 : Int32) &&& 31)) i = (decide (16 ≤ i) && bt x (i - 16)) := b_shl 16 (by omega) x hi
theorem b_shl24 (x : Int32) {i : Nat} (hi : i < 32) : bt (x <<< ((24 : Int32) &&& 31)) i = (decide (24 ≤ i) && bt x (i - 24)) := b_shl 24 (by omega) x hi
theorem b_sshr8 (x : Int32) {i : Nat} (hi : i < 32) : bt (x >>> ((8 : Int32) &&& 31)) i = if 8 + i < 32 then bt x (8 + i) else bt x 31 := b_sshr 8 (by omega) x hi
end
section
/-! What a state says, in plain numbers. Z: the class's own rows, by the number of the field (row 0: the counts and the two sets); X: its rows of passing values; a row of ANSWERS or of what JUDGES told holds 0 for nothing, k + 1 for k. -/
theorem lt31 {n : Nat} {k : Nat} (h : n < k) (hk : k ≤ 2 ^ 31) : n < 2 ^ 31 := Nat.lt_of_lt_of_le h hk
theorem nI_ne_m1 {n : Nat} (h : n < 2 ^ 31) : ¬ nI n = -1 := by
  intro e
  have h1 := nI_toInt h
  rw [e] at h1
  have : (-1 : Int32).toInt = -1 := rfl
  omega
theorem inR_lo {x : Int32} {lo hi : Nat} (h : x < 0) : ¬ inR x lo hi := by
  intro ⟨h1, h2⟩
  rw [Int32.lt_iff_toInt_lt] at h
  have : (0 : Int32).toInt = 0 := rfl
  omega
theorem inR_hi {x : Int32} {lo n : Nat} (hn : n < 2 ^ 31) (h : nI n ≤ x) : ¬ inR x lo n := by
  intro ⟨h1, h2⟩
  rw [Int32.le_iff_toInt_le, nI_toInt hn] at h
  omega
theorem inR_gt {x : Int32} {lo n : Nat} (hn : n < 2 ^ 31) (h : nI n < x) : ¬ inR x lo (n + 1) := by
  intro ⟨h1, h2⟩
  rw [Int32.lt_iff_toInt_lt, nI_toInt hn] at h
  omega
theorem inR_lt {x : Int32} {n hi : Nat} (hn : n < 2 ^ 31) (h : x < nI n) : ¬ inR x n hi := by
  intro ⟨h1, h2⟩
  rw [Int32.lt_iff_toInt_lt, nI_toInt hn] at h
  omega
theorem inR_mk {x : Int32} {n : Nat} (hn : n < 2 ^ 31) (h0 : ¬ x < 0) (h : ¬ nI n ≤ x) : inR x 0 n := by
  rw [Int32.lt_iff_toInt_lt] at h0
  rw [Int32.le_iff_toInt_le, nI_toInt hn] at h
  have : (0 : Int32).toInt = 0 := rfl
  exact ⟨by omega, by omega⟩
theorem inR_mk2 {x : Int32} {lo n : Nat} (hl : lo < 2 ^ 31) (hn : n < 2 ^ 31) (h0 : ¬ x < nI lo) (h : ¬ nI n < x) : inR x lo (n + 1) := by
  rw [Int32.lt_iff_toInt_lt, nI_toInt hl] at h0
  rw [Int32.lt_iff_toInt_lt, nI_toInt hn] at h
  exact ⟨by omega, by omega⟩
/-- one bit of a set that an int holds -/
theorem bit_nI {x q : Nat} (hx : x < 2 ^ 32) (hq : q < 32) : (nI x >>> (nI q &&& 31)) &&& nI 1 = nI (x.testBit q).toNat := by
  apply b_ext
  intro i hi
  have hb : ∀ (n j : Nat), j < 32 → bt (nI n) j = n.testBit j := by
    intro n j hj
    show (BitVec.ofNat 32 n).getLsbD j = _
    rw [BitVec.getLsbD_ofNat]
    simp [hj]
  rw [b_and, b_sshr q hq _ hi, hb 1 i hi, hb _ i hi]
  rcases Nat.eq_zero_or_pos i with h | h
  · subst h
    rw [if_pos (by omega), hb x (q + 0) (by omega)]
    cases hxq : x.testBit q <;> simp [hxq]
  · have h1 : (1 : Nat).testBit i = false := by
      cases h2 : (1 : Nat).testBit i with
      | false => rfl
      | true => exact absurd (Nat.testBit_one_eq_true_iff_self_eq_zero.mp h2) (by omega)
    rw [h1]
    cases x.testBit q <;> simp [h1]
theorem x_inc1 (n : Nat) : nI n + Int32.ofInt 1 = nI (n + 1) := nI_1 n
section GAPS
variable {p : Program} {l : Launch} {e : Env} {R : Room} {s : State} {m : MethodId} {args : Array Value} {below : List Frame} {meth : Method} {c : Code} {H : Heap} {locs : List Loc} {cells slots : Nat} {Q : State → Prop} {pc : Nat} {ls : Array Slot} {rest : List Value}
theorem x_gap {j : Nat} (k0 : j = 0 → W p l e R s m args below meth c H locs cells slots Q (F0 m pc ls (.int (-1) :: rest))) (k1 : ∀ k : Nat, j = k + 1 → W p l e R s m args below meth c H locs cells slots Q (F0 m pc ls (.int (nI k) :: rest))) : W p l e R s m args below meth c H locs cells slots Q (F0 m pc ls (.int (gv j) :: rest)) := by
  cases j with
  | zero => exact k0 rfl
  | succ k => rw [gv_s]; exact k1 k rfl
end GAPS
def cnt (Z : Nat → Nat → Nat) (q : Nat) : Bool := !((Z 0 3).testBit q) && !(Z 5 q == 3)
/-- the place of question q in PAPER p: the first one; p's length if it isn't in it -/
def spt (Z : Nat → Nat → Nat) (p q : Nat) : Nat := fa_first (fun i => Z 10 (p * 12 + i) == q) (Z 8 p)
def wor (Z : Nat → Nat → Nat) (q v : Nat) : Nat := if Z 5 q = 1 then (if (Z 7 q).testBit v then Z 6 q else 0) else if Z 5 q = 2 then fa_first (fun i => !(v.testBit i)) (Z 6 q) else v
def topA (Z : Nat → Nat → Nat) (q : Nat) : Nat := if Z 5 q = 1 then 7 else if Z 5 q = 2 then 2 ^ Z 6 q - 1 else Z 6 q
def okA (Z : Nat → Nat → Nat) (q v : Nat) : Prop := v ≤ topA Z q
def mrk (Z : Nat → Nat → Nat) (u i : Nat) : Nat := if Z 13 (u * 12 + i) = 0 then 0 else wor Z (Z 10 (Z 11 u * 12 + i)) (Z 13 (u * 12 + i) - 1)
def cam (Z : Nat → Nat → Nat) (u i : Nat) : Prop := ∃ k, i ≤ k ∧ k < Z 8 (Z 11 u) ∧ Z 13 (u * 12 + k) ≠ 0
def smS (Z : Nat → Nat → Nat) (u : Nat) (f : Nat → Bool) : Nat := fb_sm (fun i => if f (Z 10 (Z 11 u * 12 + i)) then mrk Z u i else 0) (Z 8 (Z 11 u))
def tot (Z : Nat → Nat → Nat) (u : Nat) : Nat := smS Z u (cnt Z)
/-- what the rows of the class keep to -/
def Inv (Z : Nat → Nat → Nat) : Prop :=
  (Z 0 0 ≤ 30 ∧ Z 0 1 ≤ 8 ∧ Z 0 2 ≤ 60) ∧
  (∀ q, q < Z 0 0 → Z 5 q ≤ 3 ∧ 1 ≤ Z 6 q ∧ Z 6 q ≤ 10 ∧ Z 7 q ≤ 255) ∧
  (Z 0 3 < 2 ^ 30 ∧ Z 0 4 < 2 ^ 30 ∧ ∀ q, q < 30 → ((Z 0 4).testBit q = true ↔ q < Z 0 0 ∧ Z 5 q = 3) ∧ (Z 0 0 ≤ q → (Z 0 3).testBit q = false)) ∧
  (∀ p, p < 8 → Z 8 p ≤ 12 ∧ Z 9 p < 2 ^ 30 ∧ (Z 0 1 ≤ p → Z 8 p = 0)) ∧
  (∀ p, p < 8 → (∀ i, i < Z 8 p → Z 10 (p * 12 + i) < Z 0 0) ∧ (∀ i k, i < k → k < Z 8 p → Z 10 (p * 12 + i) ≠ Z 10 (p * 12 + k)) ∧ ∀ q, q < 30 → ((Z 9 p).testBit q = true ↔ ∃ i, i < Z 8 p ∧ Z 10 (p * 12 + i) = q)) ∧
  (∀ u, u < Z 0 2 → Z 11 u < Z 0 1 ∧ Z 12 u < 4) ∧
  (∀ u, u < 60 → ∀ i, i < 12 → (u < Z 0 2 ∧ i < Z 8 (Z 11 u) ∧ (Z 13 (u * 12 + i) = 0 ∨ okA Z (Z 10 (Z 11 u * 12 + i)) (Z 13 (u * 12 + i) - 1))) ∨ Z 13 (u * 12 + i) = 0) ∧
  (∀ p, p < 8 → ∀ i, i < 12 → ∀ j, j < 8 → (i < Z 8 p ∧ Z 14 ((p * 12 + i) * 8 + j) ≤ Z 6 (Z 10 (p * 12 + i)) + 1) ∨ Z 14 ((p * 12 + i) * 8 + j) = 0)
section INV
variable {Z : Nat → Nat → Nat}
theorem Inv.bd (h : Inv Z) : Z 0 0 ≤ 30 ∧ Z 0 1 ≤ 8 ∧ Z 0 2 ≤ 60 := h.1
theorem Inv.q (h : Inv Z) {q : Nat} (hq : q < Z 0 0) : Z 5 q ≤ 3 ∧ 1 ≤ Z 6 q ∧ Z 6 q ≤ 10 ∧ Z 7 q ≤ 255 := h.2.1 q hq
theorem Inv.sets (h : Inv Z) : Z 0 3 < 2 ^ 30 ∧ Z 0 4 < 2 ^ 30 := ⟨h.2.2.1.1, h.2.2.1.2.1⟩
theorem Inv.tri (h : Inv Z) {q : Nat} (hq : q < 30) : (Z 0 4).testBit q = true ↔ q < Z 0 0 ∧ Z 5 q = 3 := (h.2.2.1.2.2 q hq).1
theorem Inv.str (h : Inv Z) {q : Nat} (hq : q < 30) (h2 : Z 0 0 ≤ q) : (Z 0 3).testBit q = false := (h.2.2.1.2.2 q hq).2 h2
theorem Inv.sz (h : Inv Z) {p : Nat} (hp : p < 8) : Z 8 p ≤ 12 ∧ Z 9 p < 2 ^ 30 := ⟨(h.2.2.2.1 p hp).1, (h.2.2.2.1 p hp).2.1⟩
theorem Inv.sz0 (h : Inv Z) {p : Nat} (hp : p < 8) (h2 : Z 0 1 ≤ p) : Z 8 p = 0 := (h.2.2.2.1 p hp).2.2 h2
theorem Inv.row (h : Inv Z) {p i : Nat} (hp : p < 8) (hi : i < Z 8 p) : Z 10 (p * 12 + i) < Z 0 0 := (h.2.2.2.2.1 p hp).1 i hi
theorem Inv.one (h : Inv Z) {p i k : Nat} (hp : p < 8) (hi : i < k) (hk : k < Z 8 p) : Z 10 (p * 12 + i) ≠ Z 10 (p * 12 + k) := (h.2.2.2.2.1 p hp).2.1 i k hi hk
theorem Inv.set (h : Inv Z) {p q : Nat} (hp : p < 8) (hq : q < 30) : (Z 9 p).testBit q = true ↔ ∃ i, i < Z 8 p ∧ Z 10 (p * 12 + i) = q := (h.2.2.2.2.1 p hp).2.2 q hq
theorem Inv.pu (h : Inv Z) {u : Nat} (hu : u < Z 0 2) : Z 11 u < Z 0 1 ∧ Z 12 u < 4 := h.2.2.2.2.2.1 u hu
theorem Inv.an (h : Inv Z) {u i : Nat} (hu : u < 60) (hi : i < 12) : (u < Z 0 2 ∧ i < Z 8 (Z 11 u) ∧ (Z 13 (u * 12 + i) = 0 ∨ okA Z (Z 10 (Z 11 u * 12 + i)) (Z 13 (u * 12 + i) - 1))) ∨ Z 13 (u * 12 + i) = 0 := h.2.2.2.2.2.2.1 u hu i hi
theorem Inv.td (h : Inv Z) {p i j : Nat} (hp : p < 8) (hi : i < 12) (hj : j < 8) : (i < Z 8 p ∧ Z 14 ((p * 12 + i) * 8 + j) ≤ Z 6 (Z 10 (p * 12 + i)) + 1) ∨ Z 14 ((p * 12 + i) * 8 + j) = 0 := h.2.2.2.2.2.2.2 p hp i hi j hj
end INV
theorem first_eq {f : Nat → Bool} {n k : Nat} (hk : k ≤ n) (h1 : ∀ j, j < k → f j = false) (h2 : k = n ∨ f k = true) : fa_first f n = k := by
  have a := fa_first_le f n
  rcases Nat.lt_trichotomy (fa_first f n) k with h | h | h
  · have b := fa_first_yes f n (by omega)
    rw [h1 _ h] at b
    cases b
  · exact h
  · rcases h2 with e | e
    · omega
    · rw [fa_first_no f n k h] at e
      cases e
theorem spt_le (Z : Nat → Nat → Nat) (p q : Nat) : spt Z p q ≤ Z 8 p := fa_first_le _ _
theorem spt_none {Z : Nat → Nat → Nat} {p q : Nat} (h : ∀ k, k < Z 8 p → Z 10 (p * 12 + k) ≠ q) : spt Z p q = Z 8 p :=
  first_eq (Nat.le_refl _) (fun j hj => by simpa using h j hj) (Or.inl rfl)
theorem spt_at {Z : Nat → Nat → Nat} {p q i : Nat} (hi : i < Z 8 p) (h : ∀ k, k < i → Z 10 (p * 12 + k) ≠ q) (e : Z 10 (p * 12 + i) = q) : spt Z p q = i :=
  first_eq (Nat.le_of_lt hi) (fun j hj => by simpa using h j hj) (Or.inr (by simpa using e))
theorem spt_row {Z : Nat → Nat → Nat} {p q : Nat} (h : spt Z p q < Z 8 p) : Z 10 (p * 12 + spt Z p q) = q := by
  have := fa_first_yes (fun i => Z 10 (p * 12 + i) == q) (Z 8 p) h
  unfold spt
  simpa using this
theorem spt_ge {Z : Nat → Nat → Nat} {p q k : Nat} (h : spt Z p q = Z 8 p) (hk : k < Z 8 p) : Z 10 (p * 12 + k) ≠ q := by
  have := fa_first_no (fun i => Z 10 (p * 12 + i) == q) (Z 8 p) k (by unfold spt at h; omega)
  simpa using this
theorem shl1 {k : Nat} (hk : k < 31) : nI 1 <<< (nI k &&& 31) = nI (2 ^ k) := by
  have h := pk_shlN (n := 1) (nI k &&& 31) k (s_l k (by omega)) (by
    have : 2 ^ k < 2 ^ 32 := Nat.pow_lt_pow_right (by omega) (by omega)
    omega)
  rw [h, Nat.one_mul]
theorem tn_nI {n : Nat} (h : n < 2 ^ 31) : (nI n).toInt.toNat = n := by rw [nI_toInt h]; rfl
/-- PUPIL u and question q are there, and q is in u's PAPER -/
abbrev own (Z : Nat → Nat → Nat) (u q : Int32) : Prop := inR u 0 (Z 0 2) ∧ inR q 0 (Z 0 0) ∧ spt Z (Z 11 u.toInt.toNat) q.toInt.toNat < Z 8 (Z 11 u.toInt.toNat)
theorem own_of {Z : Nat → Nat → Nat} (hI : Inv Z) {u q : Int32} (h : own Z u q) : ∃ a b : Nat, a < Z 0 2 ∧ b < Z 0 0 ∧ u = nI a ∧ q = nI b ∧ u.toInt.toNat = a ∧ q.toInt.toNat = b ∧ spt Z (Z 11 a) b < Z 8 (Z 11 a) := by
  obtain ⟨h1, h2, h3⟩ := h
  obtain ⟨a, -, ha, rfl⟩ := inR_of h1
  obtain ⟨b, -, hb, rfl⟩ := inR_of h2
  obtain ⟨b0, b1, b2⟩ := hI.bd
  have ea := tn_nI (show a < 2 ^ 31 by omega)
  have eb := tn_nI (show b < 2 ^ 31 by omega)
  rw [ea, eb] at h3
  exact ⟨a, b, ha, hb, rfl, rfl, ea, eb, h3⟩
theorem own_nI {Z : Nat → Nat → Nat} (hI : Inv Z) {a b : Nat} (ha : a < Z 0 2) (hb : b < Z 0 0) : own Z (nI a) (nI b) ↔ spt Z (Z 11 a) b < Z 8 (Z 11 a) := by
  obtain ⟨b0, b1, b2⟩ := hI.bd
  unfold own
  rw [tn_nI (show a < 2 ^ 31 by omega), tn_nI (show b < 2 ^ 31 by omega), inR_nI (by omega), inR_nI (by omega)]
  exact ⟨fun h => h.2.2, fun h => ⟨⟨by omega, ha⟩, ⟨by omega, hb⟩, h⟩⟩
theorem topA_le {Z : Nat → Nat → Nat} (hI : Inv Z) {q : Nat} (hq : q < Z 0 0) : topA Z q ≤ 1023 := by
  have h := hI.q hq
  unfold topA
  have : 2 ^ Z 6 q ≤ 2 ^ 10 := Nat.pow_le_pow_right (by omega) h.2.2.1
  split
  · omega
  · split <;> omega
theorem steps_lim {v m : Nat} (hm : m ≤ 10) (hv : v < 2 ^ m) : fa_first (fun i => !(v.testBit i)) 10 = fa_first (fun i => !(v.testBit i)) m := by
  have h1 := fa_first_le (fun i => !(v.testBit i)) m
  refine first_eq (by omega) (fa_first_no _ m) ?_
  rcases Nat.lt_or_ge (fa_first (fun i => !(v.testBit i)) m) m with h | h
  · exact Or.inr (fa_first_yes _ m h)
  · have e : fa_first (fun i => !(v.testBit i)) m = m := by omega
    rcases Nat.lt_or_ge m 10 with q | q
    · right
      rw [e]
      simp [Nat.testBit_lt_two_pow hv]
    · left; omega
theorem wor_le {Z : Nat → Nat → Nat} (hI : Inv Z) {q v : Nat} (hq : q < Z 0 0) (hv : okA Z q v) : wor Z q v ≤ Z 6 q := by
  have h := hI.q hq
  unfold okA topA at hv
  unfold wor
  split
  · split <;> omega
  · rename_i h1
    rw [if_neg h1] at hv
    split
    · exact fa_first_le _ _
    · rename_i h2
      rw [if_neg h2] at hv
      exact hv
theorem okA_of {Z : Nat → Nat → Nat} (hI : Inv Z) {u i k : Nat} (hu : u < Z 0 2) (hi : i < Z 8 (Z 11 u)) (hk : Z 13 (u * 12 + i) = k + 1) : okA Z (Z 10 (Z 11 u * 12 + i)) k := by
  obtain ⟨b0, b1, b2⟩ := hI.bd
  have hp := hI.pu hu
  have hs := hI.sz (p := Z 11 u) (by omega)
  rcases hI.an (u := u) (i := i) (by omega) (by omega) with ⟨-, -, h | h⟩ | h
  · omega
  · rw [hk] at h; exact h
  · omega
theorem mrk_le {Z : Nat → Nat → Nat} (hI : Inv Z) {u i : Nat} (hu : u < Z 0 2) (hi : i < Z 8 (Z 11 u)) : mrk Z u i ≤ Z 6 (Z 10 (Z 11 u * 12 + i)) ∧ mrk Z u i ≤ 10 := by
  obtain ⟨b0, b1, b2⟩ := hI.bd
  have hp := hI.pu hu
  have hr := hI.row (p := Z 11 u) (by omega) hi
  have hq := hI.q hr
  unfold mrk
  split
  · omega
  · rename_i h
    obtain ⟨k, hk⟩ : ∃ k, Z 13 (u * 12 + i) = k + 1 := ⟨Z 13 (u * 12 + i) - 1, by omega⟩
    rw [hk]
    have := wor_le hI hr (okA_of hI hu hi hk)
    show wor Z _ (k + 1 - 1) ≤ _ ∧ wor Z _ (k + 1 - 1) ≤ _
    rw [Nat.add_sub_cancel]
    omega
theorem smS_le {Z : Nat → Nat → Nat} (hI : Inv Z) {u : Nat} (hu : u < Z 0 2) (f : Nat → Bool) : smS Z u f ≤ 120 := by
  obtain ⟨b0, b1, b2⟩ := hI.bd
  have hp := hI.pu hu
  have hs := (hI.sz (p := Z 11 u) (by omega)).1
  have h := fb_sm_bound (f := fun i => if f (Z 10 (Z 11 u * 12 + i)) then mrk Z u i else 0) (c := 10) (n := Z 8 (Z 11 u)) (fun k hk => by
    have := (mrk_le hI hu hk).2
    split <;> omega)
  unfold smS
  omega
/-- the set of the questions that count, as an int's bits -/
def cset (Z : Nat → Nat → Nat) : Nat := (Z 0 3 ||| Z 0 4) ^^^ 4294967295
theorem cset_bit {Z : Nat → Nat → Nat} (hI : Inv Z) {q : Nat} (hq : q < Z 0 0) : (cset Z).testBit q = cnt Z q := by
  obtain ⟨b0, b1, b2⟩ := hI.bd
  have h := hI.tri (q := q) (by omega)
  have h4 : (4294967295 : Nat).testBit q = true := by
    rw [show (4294967295 : Nat) = 2 ^ 32 - 1 from rfl, Nat.testBit_two_pow_sub_one]
    simp; omega
  unfold cset cnt
  rw [Nat.testBit_xor, Nat.testBit_or, h4]
  by_cases e : Z 5 q = 3
  · rw [h.mpr ⟨hq, e⟩]
    simp [e]
  · have : (Z 0 4).testBit q = false := by
      cases e4 : (Z 0 4).testBit q with
      | false => rfl
      | true => exact absurd (h.mp e4).2 e
    rw [this]
    simp [e]
theorem cset_lt {Z : Nat → Nat → Nat} (hI : Inv Z) : cset Z < 2 ^ 32 := by
  have h := hI.sets
  unfold cset
  exact Nat.xor_lt_two_pow (Nat.or_lt_two_pow (by omega) (by omega)) (by decide)
theorem smS_cong {Z : Nat → Nat → Nat} (hI : Inv Z) {u : Nat} (hu : u < Z 0 2) {f g : Nat → Bool} (h : ∀ q, q < Z 0 0 → f q = g q) : smS Z u f = smS Z u g := by
  obtain ⟨b0, b1, b2⟩ := hI.bd
  have hp := hI.pu hu
  unfold smS
  refine fb_sm_cong (fun k hk => ?_)
  rw [h _ (hI.row (p := Z 11 u) (by omega) hk)]
end
section
set_option maxHeartbeats 4000000 in
set_option maxRecDepth 100000 in
theorem ct_X0_isQuestion (l : Launch) (dC : Nat → ClassId) (dI : Nat → Nat → Nat) (cy : ClassId) (o : Nat) (a : Nat → Nat) (Z X : Nat → Nat → Nat) (x : Int32) (hI : Inv Z) : Met l yX0_isQuestion (wS yX0_isQuestion cX0_isQuestion 2 (Option.some Jvm.ClassFile.FieldType.boolean)) (rmF 0 0) (va_Pc [.ref o, .int x] (cR dC dI cy o a Z X)) (vp_Si (fun r => isB r (inR x 0 (Z 0 0)))) 0 0 (fun _ => False) := by
  refine Met.ofW (cc := cX0_isQuestion) (maxL := 2) (ret := (Option.some Jvm.ClassFile.FieldType.boolean)) (by decide) rfl ?_
  intro pg en sv mi ag bw mt cd s₁ B hml hv
  obtain ⟨rfl, hP, hK⟩ := hv
  have hx := B.exec
  have hb := B.bytes
  have hr := B.returns
  have hts : ∀ w ∈ lw_ok, w.before _ sv = true := fun w hw => atoms_spec (ws := wS yX0_isQuestion cX0_isQuestion 2 (Option.some Jvm.ClassFile.FieldType.boolean)) B.pre w (List.mem_cons_of_mem _ hw)
  have hown : sv.vm.findClass RX0 = some mi.cls := findClass_of_methodNamed B.named
  have hlocks := B.notSynchronized
  have fx : CallFix pg mi cd cX0_isQuestion 2 sv _ lw_ok RX0 := ⟨hx, hb, hml, hown, hts⟩
  have hl := lv_entry ([.ref o, .int x]) (n := 2) (Nat.le_of_ble_eq_true rfl)
  rw [lg_entry_eq]
  generalize (lg_sl ([.ref o, .int x]) ++ List.replicate (2 - (lg_sl ([.ref o, .int x])).length) Slot.unset).toArray = ls at hl ⊢
  replace hl : lv_has ls 2 [(0, .ref o), (1, .int x)] := hl
  obtain ⟨b0, b1, b2⟩ := hI.bd
  refine lv_iload_n hx hb dX0_isQuestion_0 rfl (lv_at hl 1 rfl) ?_
  refine lv_if_lt (tgt := 16) hx hb dX0_isQuestion_1 (by decide) (fun c_1 => ?_) (fun c_1 => ?_)
  ·
    refine lv_iconst (v := nI 0) hx hb dX0_isQuestion_16 (by decide) ?_
    refine W.zret (v := (nI 0)) hx hb hr (by decide) (fun t9 ht9 hW9 => ⟨_, rfl, ?_, ht9⟩) (fun q h => by cases h) dX0_isQuestion_17
    first | exact Or.inl ⟨rfl, inR_lo c_1⟩ | exact Or.inl ⟨rfl, inR_hi (by omega) c_9⟩ | exact Or.inr ⟨rfl, inR_mk (by omega) c_1 c_9⟩
  ·
    refine lv_iload_n hx hb dX0_isQuestion_4 rfl (lv_at hl 1 rfl) ?_
    refine lv_aload_n hx hb dX0_isQuestion_5 rfl (lv_at hl 0 rfl) ?_
    refine c_g0 hx hb hts hown hK hP dX0_isQuestion_6 ?_
    refine lv_icmp_ge (tgt := 16) hx hb dX0_isQuestion_9 (by decide) (fun c_9 => ?_) (fun c_9 => ?_)
    ·
      refine lv_iconst (v := nI 0) hx hb dX0_isQuestion_16 (by decide) ?_
      refine W.zret (v := (nI 0)) hx hb hr (by decide) (fun t9 ht9 hW9 => ⟨_, rfl, ?_, ht9⟩) (fun q h => by cases h) dX0_isQuestion_17
      first | exact Or.inl ⟨rfl, inR_lo c_1⟩ | exact Or.inl ⟨rfl, inR_hi (by omega) c_9⟩ | exact Or.inr ⟨rfl, inR_mk (by omega) c_1 c_9⟩
    ·
      refine lv_iconst (v := nI 1) hx hb dX0_isQuestion_12 (by decide) ?_
      refine lv_goto (tgt := 17) hx hb dX0_isQuestion_13 (by decide) ?_
      refine W.zret (v := (nI 1)) hx hb hr (by decide) (fun t9 ht9 hW9 => ⟨_, rfl, ?_, ht9⟩) (fun q h => by cases h) dX0_isQuestion_17
      first | exact Or.inl ⟨rfl, inR_lo c_1⟩ | exact Or.inl ⟨rfl, inR_hi (by omega) c_9⟩ | exact Or.inr ⟨rfl, inR_mk (by omega) c_1 c_9⟩

set_option maxHeartbeats 4000000 in
set_option maxRecDepth 100000 in
theorem ct_X0_isPaper (l : Launch) (dC : Nat → ClassId) (dI : Nat → Nat → Nat) (cy : ClassId) (o : Nat) (a : Nat → Nat) (Z X : Nat → Nat → Nat) (x : Int32) (hI : Inv Z) : Met l yX0_isPaper (wS yX0_isPaper cX0_isPaper 2 (Option.some Jvm.ClassFile.FieldType.boolean)) (rmF 0 0) (va_Pc [.ref o, .int x] (cR dC dI cy o a Z X)) (vp_Si (fun r => isB r (inR x 0 (Z 0 1)))) 0 0 (fun _ => False) := by
  refine Met.ofW (cc := cX0_isPaper) (maxL := 2) (ret := (Option.some Jvm.ClassFile.FieldType.boolean)) (by decide) rfl ?_
  intro pg en sv mi ag bw mt cd s₁ B hml hv
  obtain ⟨rfl, hP, hK⟩ := hv
  have hx := B.exec
  have hb := B.bytes
  have hr := B.returns
  have hts : ∀ w ∈ lw_ok, w.before _ sv = true := fun w hw => atoms_spec (ws := wS yX0_isPaper cX0_isPaper 2 (Option.some Jvm.ClassFile.FieldType.boolean)) B.pre w (List.mem_cons_of_mem _ hw)
  have hown : sv.vm.findClass RX0 = some mi.cls := findClass_of_methodNamed B.named
  have hlocks := B.notSynchronized
  have fx : CallFix pg mi cd cX0_isPaper 2 sv _ lw_ok RX0 := ⟨hx, hb, hml, hown, hts⟩
  have hl := lv_entry ([.ref o, .int x]) (n := 2) (Nat.le_of_ble_eq_true rfl)
  rw [lg_entry_eq]
  generalize (lg_sl ([.ref o, .int x]) ++ List.replicate (2 - (lg_sl ([.ref o, .int x])).length) Slot.unset).toArray = ls at hl ⊢
  replace hl : lv_has ls 2 [(0, .ref o), (1, .int x)] := hl
  obtain ⟨b0, b1, b2⟩ := hI.bd
  refine lv_iload_n hx hb dX0_isPaper_0 rfl (lv_at hl 1 rfl) ?_
  refine lv_if_lt (tgt := 16) hx hb dX0_isPaper_1 (by decide) (fun c_1 => ?_) (fun c_1 => ?_)
  ·
    refine lv_iconst (v := nI 0) hx hb dX0_isPaper_16 (by decide) ?_
    refine W.zret (v := (nI 0)) hx hb hr (by decide) (fun t9 ht9 hW9 => ⟨_, rfl, ?_, ht9⟩) (fun q h => by cases h) dX0_isPaper_17
    first | exact Or.inl ⟨rfl, inR_lo c_1⟩ | exact Or.inl ⟨rfl, inR_hi (by omega) c_9⟩ | exact Or.inr ⟨rfl, inR_mk (by omega) c_1 c_9⟩
  ·
    refine lv_iload_n hx hb dX0_isPaper_4 rfl (lv_at hl 1 rfl) ?_
    refine lv_aload_n hx hb dX0_isPaper_5 rfl (lv_at hl 0 rfl) ?_
    refine c_g1 hx hb hts hown hK hP dX0_isPaper_6 ?_
    refine lv_icmp_ge (tgt := 16) hx hb dX0_isPaper_9 (by decide) (fun c_9 => ?_) (fun c_9 => ?_)
    ·
      refine lv_iconst (v := nI 0) hx hb dX0_isPaper_16 (by decide) ?_
      refine W.zret (v := (nI 0)) hx hb hr (by decide) (fun t9 ht9 hW9 => ⟨_, rfl, ?_, ht9⟩) (fun q h => by cases h) dX0_isPaper_17
      first | exact Or.inl ⟨rfl, inR_lo c_1⟩ | exact Or.inl ⟨rfl, inR_hi (by omega) c_9⟩ | exact Or.inr ⟨rfl, inR_mk (by omega) c_1 c_9⟩
    ·
      refine lv_iconst (v := nI 1) hx hb dX0_isPaper_12 (by decide) ?_
      refine lv_goto (tgt := 17) hx hb dX0_isPaper_13 (by decide) ?_
      refine W.zret (v := (nI 1)) hx hb hr (by decide) (fun t9 ht9 hW9 => ⟨_, rfl, ?_, ht9⟩) (fun q h => by cases h) dX0_isPaper_17
      first | exact Or.inl ⟨rfl, inR_lo c_1⟩ | exact Or.inl ⟨rfl, inR_hi (by omega) c_9⟩ | exact Or.inr ⟨rfl, inR_mk (by omega) c_1 c_9⟩

set_option maxHeartbeats 4000000 in
set_option maxRecDepth 100000 in
theorem ct_X0_isPupil (l : Launch) (dC : Nat → ClassId) (dI : Nat → Nat → Nat) (cy : ClassId) (o : Nat) (a : Nat → Nat) (Z X : Nat → Nat → Nat) (x : Int32) (hI : Inv Z) : Met l yX0_isPupil (wS yX0_isPupil cX0_isPupil 2 (Option.some Jvm.ClassFile.FieldType.boolean)) (rmF 0 0) (va_Pc [.ref o, .int x] (cR dC dI cy o a Z X)) (vp_Si (fun r => isB r (inR x 0 (Z 0 2)))) 0 0 (fun _ => False) := by
  refine Met.ofW (cc := cX0_isPupil) (maxL := 2) (ret := (Option.some Jvm.ClassFile.FieldType.boolean)) (by decide) rfl ?_
  intro pg en sv mi ag bw mt cd s₁ B hml hv
  obtain ⟨rfl, hP, hK⟩ := hv
  have hx := B.exec
  have hb := B.bytes
  have hr := B.returns
  have hts : ∀ w ∈ lw_ok, w.before _ sv = true := fun w hw => atoms_spec (ws := wS yX0_isPupil cX0_isPupil 2 (Option.some Jvm.ClassFile.FieldType.boolean)) B.pre w (List.mem_cons_of_mem _ hw)
  have hown : sv.vm.findClass RX0 = some mi.cls := findClass_of_methodNamed B.named
  have hlocks := B.notSynchronized
  have fx : CallFix pg mi cd cX0_isPupil 2 sv _ lw_ok RX0 := ⟨hx, hb, hml, hown, hts⟩
  have hl := lv_entry ([.ref o, .int x]) (n := 2) (Nat.le_of_ble_eq_true rfl)
  rw [lg_entry_eq]
  generalize (lg_sl ([.ref o, .int x]) ++ List.replicate (2 - (lg_sl ([.ref o, .int x])).length) Slot.unset).toArray = ls at hl ⊢
  replace hl : lv_has ls 2 [(0, .ref o), (1, .int x)] := hl
  obtain ⟨b0, b1, b2⟩ := hI.bd
  refine lv_iload_n hx hb dX0_isPupil_0 rfl (lv_at hl 1 rfl) ?_
  refine lv_if_lt (tgt := 16) hx hb dX0_isPupil_1 (by decide) (fun c_1 => ?_) (fun c_1 => ?_)
  ·
    refine lv_iconst (v := nI 0) hx hb dX0_isPupil_16 (by decide) ?_
    refine W.zret (v := (nI 0)) hx hb hr (by decide) (fun t9 ht9 hW9 => ⟨_, rfl, ?_, ht9⟩) (fun q h => by cases h) dX0_isPupil_17
    first | exact Or.inl ⟨rfl, inR_lo c_1⟩ | exact Or.inl ⟨rfl, inR_hi (by omega) c_9⟩ | exact Or.inr ⟨rfl, inR_mk (by omega) c_1 c_9⟩
  ·
    refine lv_iload_n hx hb dX0_isPupil_4 rfl (lv_at hl 1 rfl) ?_
    refine lv_aload_n hx hb dX0_isPupil_5 rfl (lv_at hl 0 rfl) ?_
    refine c_g2 hx hb hts hown hK hP dX0_isPupil_6 ?_
    refine lv_icmp_ge (tgt := 16) hx hb dX0_isPupil_9 (by decide) (fun c_9 => ?_) (fun c_9 => ?_)
    ·
      refine lv_iconst (v := nI 0) hx hb dX0_isPupil_16 (by decide) ?_
      refine W.zret (v := (nI 0)) hx hb hr (by decide) (fun t9 ht9 hW9 => ⟨_, rfl, ?_, ht9⟩) (fun q h => by cases h) dX0_isPupil_17
      first | exact Or.inl ⟨rfl, inR_lo c_1⟩ | exact Or.inl ⟨rfl, inR_hi (by omega) c_9⟩ | exact Or.inr ⟨rfl, inR_mk (by omega) c_1 c_9⟩
    ·
      refine lv_iconst (v := nI 1) hx hb dX0_isPupil_12 (by decide) ?_
      refine lv_goto (tgt := 17) hx hb dX0_isPupil_13 (by decide) ?_
      refine W.zret (v := (nI 1)) hx hb hr (by decide) (fun t9 ht9 hW9 => ⟨_, rfl, ?_, ht9⟩) (fun q h => by cases h) dX0_isPupil_17
      first | exact Or.inl ⟨rfl, inR_lo c_1⟩ | exact Or.inl ⟨rfl, inR_hi (by omega) c_9⟩ | exact Or.inr ⟨rfl, inR_mk (by omega) c_1 c_9⟩

set_option maxHeartbeats 4000000 in
set_option maxRecDepth 100000 in
theorem ct_X0_isPlace (l : Launch) (x : Int32)  : Met l yX0_isPlace (wS yX0_isPlace cX0_isPlace 1 (Option.some Jvm.ClassFile.FieldType.boolean)) (rmF 0 0) (va_Pc [.int x] (fun _ => True)) (vp_Si (fun r => isB r (inR x 0 4))) 0 0 (fun _ => False) := by
  refine Met.ofW (cc := cX0_isPlace) (maxL := 1) (ret := (Option.some Jvm.ClassFile.FieldType.boolean)) (by decide) rfl ?_
  intro pg en sv mi ag bw mt cd s₁ B hml hv
  obtain ⟨rfl, -⟩ := hv
  have hx := B.exec
  have hb := B.bytes
  have hr := B.returns
  have hts : ∀ w ∈ lw_ok, w.before _ sv = true := fun w hw => atoms_spec (ws := wS yX0_isPlace cX0_isPlace 1 (Option.some Jvm.ClassFile.FieldType.boolean)) B.pre w (List.mem_cons_of_mem _ hw)
  have hown : sv.vm.findClass RX0 = some mi.cls := findClass_of_methodNamed B.named
  have hlocks := B.notSynchronized
  have fx : CallFix pg mi cd cX0_isPlace 1 sv _ lw_ok RX0 := ⟨hx, hb, hml, hown, hts⟩
  have hl := lv_entry ([.int x]) (n := 1) (Nat.le_of_ble_eq_true rfl)
  rw [lg_entry_eq]
  generalize (lg_sl ([.int x]) ++ List.replicate (1 - (lg_sl ([.int x])).length) Slot.unset).toArray = ls at hl ⊢
  replace hl : lv_has ls 1 [(0, .int x)] := hl
  refine lv_iload_n hx hb dX0_isPlace_0 rfl (lv_at hl 0 rfl) ?_
  refine lv_if_lt (tgt := 13) hx hb dX0_isPlace_1 (by decide) (fun c_1 => ?_) (fun c_1 => ?_)
  ·
    refine lv_iconst (v := nI 0) hx hb dX0_isPlace_13 (by decide) ?_
    refine W.zret (v := (nI 0)) hx hb hr (by decide) (fun t9 ht9 hW9 => ⟨_, rfl, ?_, ht9⟩) (fun q h => by cases h) dX0_isPlace_14
    first | exact Or.inl ⟨rfl, inR_lo c_1⟩ | exact Or.inl ⟨rfl, inR_hi (by decide) c_6⟩ | exact Or.inr ⟨rfl, inR_mk (by decide) c_1 c_6⟩
  ·
    refine lv_iload_n hx hb dX0_isPlace_4 rfl (lv_at hl 0 rfl) ?_
    refine lv_iconst (v := nI 4) hx hb dX0_isPlace_5 (by decide) ?_
    refine lv_icmp_ge (tgt := 13) hx hb dX0_isPlace_6 (by decide) (fun c_6 => ?_) (fun c_6 => ?_)
    ·
      refine lv_iconst (v := nI 0) hx hb dX0_isPlace_13 (by decide) ?_
      refine W.zret (v := (nI 0)) hx hb hr (by decide) (fun t9 ht9 hW9 => ⟨_, rfl, ?_, ht9⟩) (fun q h => by cases h) dX0_isPlace_14
      first | exact Or.inl ⟨rfl, inR_lo c_1⟩ | exact Or.inl ⟨rfl, inR_hi (by decide) c_6⟩ | exact Or.inr ⟨rfl, inR_mk (by decide) c_1 c_6⟩
    ·
      refine lv_iconst (v := nI 1) hx hb dX0_isPlace_9 (by decide) ?_
      refine lv_goto (tgt := 14) hx hb dX0_isPlace_10 (by decide) ?_
      refine W.zret (v := (nI 1)) hx hb hr (by decide) (fun t9 ht9 hW9 => ⟨_, rfl, ?_, ht9⟩) (fun q h => by cases h) dX0_isPlace_14
      first | exact Or.inl ⟨rfl, inR_lo c_1⟩ | exact Or.inl ⟨rfl, inR_hi (by decide) c_6⟩ | exact Or.inr ⟨rfl, inR_mk (by decide) c_1 c_6⟩

set_option maxHeartbeats 4000000 in
set_option maxRecDepth 100000 in
theorem ct_X0_isKey (l : Launch) (x : Int32)  : Met l yX0_isKey (wS yX0_isKey cX0_isKey 1 (Option.some Jvm.ClassFile.FieldType.boolean)) (rmF 0 0) (va_Pc [.int x] (fun _ => True)) (vp_Si (fun r => isB r (inR x 1 256))) 0 0 (fun _ => False) := by
  refine Met.ofW (cc := cX0_isKey) (maxL := 1) (ret := (Option.some Jvm.ClassFile.FieldType.boolean)) (by decide) rfl ?_
  intro pg en sv mi ag bw mt cd s₁ B hml hv
  obtain ⟨rfl, -⟩ := hv
  have hx := B.exec
  have hb := B.bytes
  have hr := B.returns
  have hts : ∀ w ∈ lw_ok, w.before _ sv = true := fun w hw => atoms_spec (ws := wS yX0_isKey cX0_isKey 1 (Option.some Jvm.ClassFile.FieldType.boolean)) B.pre w (List.mem_cons_of_mem _ hw)
  have hown : sv.vm.findClass RX0 = some mi.cls := findClass_of_methodNamed B.named
  have hlocks := B.notSynchronized
  have fx : CallFix pg mi cd cX0_isKey 1 sv _ lw_ok RX0 := ⟨hx, hb, hml, hown, hts⟩
  have hl := lv_entry ([.int x]) (n := 1) (Nat.le_of_ble_eq_true rfl)
  rw [lg_entry_eq]
  generalize (lg_sl ([.int x]) ++ List.replicate (1 - (lg_sl ([.int x])).length) Slot.unset).toArray = ls at hl ⊢
  replace hl : lv_has ls 1 [(0, .int x)] := hl
  refine lv_iload_n hx hb dX0_isKey_0 rfl (lv_at hl 0 rfl) ?_
  refine lv_iconst (v := nI 1) hx hb dX0_isKey_1 (by decide) ?_
  refine lv_icmp_lt (tgt := 16) hx hb dX0_isKey_2 (by decide) (fun c_2 => ?_) (fun c_2 => ?_)
  ·
    refine lv_iconst (v := nI 0) hx hb dX0_isKey_16 (by decide) ?_
    refine W.zret (v := (nI 0)) hx hb hr (by decide) (fun t9 ht9 hW9 => ⟨_, rfl, ?_, ht9⟩) (fun q h => by cases h) dX0_isKey_17
    first | exact Or.inl ⟨rfl, inR_lt (by decide) c_2⟩ | exact Or.inl ⟨rfl, inR_gt (by decide) c_9⟩ | exact Or.inr ⟨rfl, inR_mk2 (by decide) (by decide) c_2 c_9⟩
  ·
    refine lv_iload_n hx hb dX0_isKey_5 rfl (lv_at hl 0 rfl) ?_
    refine lv_sipush (v := nI 255) hx hb dX0_isKey_6 (by decide) ?_
    refine lv_icmp_gt (tgt := 16) hx hb dX0_isKey_9 (by decide) (fun c_9 => ?_) (fun c_9 => ?_)
    ·
      refine lv_iconst (v := nI 0) hx hb dX0_isKey_16 (by decide) ?_
      refine W.zret (v := (nI 0)) hx hb hr (by decide) (fun t9 ht9 hW9 => ⟨_, rfl, ?_, ht9⟩) (fun q h => by cases h) dX0_isKey_17
      first | exact Or.inl ⟨rfl, inR_lt (by decide) c_2⟩ | exact Or.inl ⟨rfl, inR_gt (by decide) c_9⟩ | exact Or.inr ⟨rfl, inR_mk2 (by decide) (by decide) c_2 c_9⟩
    ·
      refine lv_iconst (v := nI 1) hx hb dX0_isKey_12 (by decide) ?_
      refine lv_goto (tgt := 17) hx hb dX0_isKey_13 (by decide) ?_
      refine W.zret (v := (nI 1)) hx hb hr (by decide) (fun t9 ht9 hW9 => ⟨_, rfl, ?_, ht9⟩) (fun q h => by cases h) dX0_isKey_17
      first | exact Or.inl ⟨rfl, inR_lt (by decide) c_2⟩ | exact Or.inl ⟨rfl, inR_gt (by decide) c_9⟩ | exact Or.inr ⟨rfl, inR_mk2 (by decide) (by decide) c_2 c_9⟩

set_option maxHeartbeats 4000000 in
set_option maxRecDepth 100000 in
theorem ct_X0_isBar (l : Launch) (x : Int32)  : Met l yX0_isBar (wS yX0_isBar cX0_isBar 1 (Option.some Jvm.ClassFile.FieldType.boolean)) (rmF 0 0) (va_Pc [.int x] (fun _ => True)) (vp_Si (fun r => isB r (inR x 1 101))) 0 0 (fun _ => False) := by
  refine Met.ofW (cc := cX0_isBar) (maxL := 1) (ret := (Option.some Jvm.ClassFile.FieldType.boolean)) (by decide) rfl ?_
  intro pg en sv mi ag bw mt cd s₁ B hml hv
  obtain ⟨rfl, -⟩ := hv
  have hx := B.exec
  have hb := B.bytes
  have hr := B.returns
  have hts : ∀ w ∈ lw_ok, w.before _ sv = true := fun w hw => atoms_spec (ws := wS yX0_isBar cX0_isBar 1 (Option.some Jvm.ClassFile.FieldType.boolean)) B.pre w (List.mem_cons_of_mem _ hw)
  have hown : sv.vm.findClass RX0 = some mi.cls := findClass_of_methodNamed B.named
  have hlocks := B.notSynchronized
  have fx : CallFix pg mi cd cX0_isBar 1 sv _ lw_ok RX0 := ⟨hx, hb, hml, hown, hts⟩
  have hl := lv_entry ([.int x]) (n := 1) (Nat.le_of_ble_eq_true rfl)
  rw [lg_entry_eq]
  generalize (lg_sl ([.int x]) ++ List.replicate (1 - (lg_sl ([.int x])).length) Slot.unset).toArray = ls at hl ⊢
  replace hl : lv_has ls 1 [(0, .int x)] := hl
  refine lv_iload_n hx hb dX0_isBar_0 rfl (lv_at hl 0 rfl) ?_
  refine lv_iconst (v := nI 1) hx hb dX0_isBar_1 (by decide) ?_
  refine lv_icmp_lt (tgt := 15) hx hb dX0_isBar_2 (by decide) (fun c_2 => ?_) (fun c_2 => ?_)
  ·
    refine lv_iconst (v := nI 0) hx hb dX0_isBar_15 (by decide) ?_
    refine W.zret (v := (nI 0)) hx hb hr (by decide) (fun t9 ht9 hW9 => ⟨_, rfl, ?_, ht9⟩) (fun q h => by cases h) dX0_isBar_16
    first | exact Or.inl ⟨rfl, inR_lt (by decide) c_2⟩ | exact Or.inl ⟨rfl, inR_gt (by decide) c_8⟩ | exact Or.inr ⟨rfl, inR_mk2 (by decide) (by decide) c_2 c_8⟩
  ·
    refine lv_iload_n hx hb dX0_isBar_5 rfl (lv_at hl 0 rfl) ?_
    refine lv_bipush (v := nI 100) hx hb dX0_isBar_6 (by decide) ?_
    refine lv_icmp_gt (tgt := 15) hx hb dX0_isBar_8 (by decide) (fun c_8 => ?_) (fun c_8 => ?_)
    ·
      refine lv_iconst (v := nI 0) hx hb dX0_isBar_15 (by decide) ?_
      refine W.zret (v := (nI 0)) hx hb hr (by decide) (fun t9 ht9 hW9 => ⟨_, rfl, ?_, ht9⟩) (fun q h => by cases h) dX0_isBar_16
      first | exact Or.inl ⟨rfl, inR_lt (by decide) c_2⟩ | exact Or.inl ⟨rfl, inR_gt (by decide) c_8⟩ | exact Or.inr ⟨rfl, inR_mk2 (by decide) (by decide) c_2 c_8⟩
    ·
      refine lv_iconst (v := nI 1) hx hb dX0_isBar_11 (by decide) ?_
      refine lv_goto (tgt := 16) hx hb dX0_isBar_12 (by decide) ?_
      refine W.zret (v := (nI 1)) hx hb hr (by decide) (fun t9 ht9 hW9 => ⟨_, rfl, ?_, ht9⟩) (fun q h => by cases h) dX0_isBar_16
      first | exact Or.inl ⟨rfl, inR_lt (by decide) c_2⟩ | exact Or.inl ⟨rfl, inR_gt (by decide) c_8⟩ | exact Or.inr ⟨rfl, inR_mk2 (by decide) (by decide) c_2 c_8⟩

set_option maxHeartbeats 4000000 in
set_option maxRecDepth 100000 in
theorem ct_X0_isTotal (l : Launch) (x : Int32)  : Met l yX0_isTotal (wS yX0_isTotal cX0_isTotal 1 (Option.some Jvm.ClassFile.FieldType.boolean)) (rmF 0 0) (va_Pc [.int x] (fun _ => True)) (vp_Si (fun r => isB r (inR x 0 121))) 0 0 (fun _ => False) := by
  refine Met.ofW (cc := cX0_isTotal) (maxL := 1) (ret := (Option.some Jvm.ClassFile.FieldType.boolean)) (by decide) rfl ?_
  intro pg en sv mi ag bw mt cd s₁ B hml hv
  obtain ⟨rfl, -⟩ := hv
  have hx := B.exec
  have hb := B.bytes
  have hr := B.returns
  have hts : ∀ w ∈ lw_ok, w.before _ sv = true := fun w hw => atoms_spec (ws := wS yX0_isTotal cX0_isTotal 1 (Option.some Jvm.ClassFile.FieldType.boolean)) B.pre w (List.mem_cons_of_mem _ hw)
  have hown : sv.vm.findClass RX0 = some mi.cls := findClass_of_methodNamed B.named
  have hlocks := B.notSynchronized
  have fx : CallFix pg mi cd cX0_isTotal 1 sv _ lw_ok RX0 := ⟨hx, hb, hml, hown, hts⟩
  have hl := lv_entry ([.int x]) (n := 1) (Nat.le_of_ble_eq_true rfl)
  rw [lg_entry_eq]
  generalize (lg_sl ([.int x]) ++ List.replicate (1 - (lg_sl ([.int x])).length) Slot.unset).toArray = ls at hl ⊢
  replace hl : lv_has ls 1 [(0, .int x)] := hl
  refine lv_iload_n hx hb dX0_isTotal_0 rfl (lv_at hl 0 rfl) ?_
  refine lv_if_lt (tgt := 14) hx hb dX0_isTotal_1 (by decide) (fun c_1 => ?_) (fun c_1 => ?_)
  ·
    refine lv_iconst (v := nI 0) hx hb dX0_isTotal_14 (by decide) ?_
    refine W.zret (v := (nI 0)) hx hb hr (by decide) (fun t9 ht9 hW9 => ⟨_, rfl, ?_, ht9⟩) (fun q h => by cases h) dX0_isTotal_15
    first | exact Or.inl ⟨rfl, inR_lo c_1⟩ | exact Or.inl ⟨rfl, inR_gt (by decide) c_7⟩ | exact Or.inr ⟨rfl, inR_mk2 (by decide) (by decide) (show ¬ x < nI 0 from c_1) c_7⟩
  ·
    refine lv_iload_n hx hb dX0_isTotal_4 rfl (lv_at hl 0 rfl) ?_
    refine lv_bipush (v := nI 120) hx hb dX0_isTotal_5 (by decide) ?_
    refine lv_icmp_gt (tgt := 14) hx hb dX0_isTotal_7 (by decide) (fun c_7 => ?_) (fun c_7 => ?_)
    ·
      refine lv_iconst (v := nI 0) hx hb dX0_isTotal_14 (by decide) ?_
      refine W.zret (v := (nI 0)) hx hb hr (by decide) (fun t9 ht9 hW9 => ⟨_, rfl, ?_, ht9⟩) (fun q h => by cases h) dX0_isTotal_15
      first | exact Or.inl ⟨rfl, inR_lo c_1⟩ | exact Or.inl ⟨rfl, inR_gt (by decide) c_7⟩ | exact Or.inr ⟨rfl, inR_mk2 (by decide) (by decide) (show ¬ x < nI 0 from c_1) c_7⟩
    ·
      refine lv_iconst (v := nI 1) hx hb dX0_isTotal_10 (by decide) ?_
      refine lv_goto (tgt := 15) hx hb dX0_isTotal_11 (by decide) ?_
      refine W.zret (v := (nI 1)) hx hb hr (by decide) (fun t9 ht9 hW9 => ⟨_, rfl, ?_, ht9⟩) (fun q h => by cases h) dX0_isTotal_15
      first | exact Or.inl ⟨rfl, inR_lo c_1⟩ | exact Or.inl ⟨rfl, inR_gt (by decide) c_7⟩ | exact Or.inr ⟨rfl, inR_mk2 (by decide) (by decide) (show ¬ x < nI 0 from c_1) c_7⟩

set_option maxHeartbeats 4000000 in
set_option maxRecDepth 100000 in
theorem ct_X0_isPart (l : Launch) (x : Int32)  : Met l yX0_isPart (wS yX0_isPart cX0_isPart 1 (Option.some Jvm.ClassFile.FieldType.boolean)) (rmF 0 0) (va_Pc [.int x] (fun _ => True)) (vp_Si (fun r => isB r (inR x 0 2))) 0 0 (fun _ => False) := by
  refine Met.ofW (cc := cX0_isPart) (maxL := 1) (ret := (Option.some Jvm.ClassFile.FieldType.boolean)) (by decide) rfl ?_
  intro pg en sv mi ag bw mt cd s₁ B hml hv
  obtain ⟨rfl, -⟩ := hv
  have hx := B.exec
  have hb := B.bytes
  have hr := B.returns
  have hts : ∀ w ∈ lw_ok, w.before _ sv = true := fun w hw => atoms_spec (ws := wS yX0_isPart cX0_isPart 1 (Option.some Jvm.ClassFile.FieldType.boolean)) B.pre w (List.mem_cons_of_mem _ hw)
  have hown : sv.vm.findClass RX0 = some mi.cls := findClass_of_methodNamed B.named
  have hlocks := B.notSynchronized
  have fx : CallFix pg mi cd cX0_isPart 1 sv _ lw_ok RX0 := ⟨hx, hb, hml, hown, hts⟩
  have hl := lv_entry ([.int x]) (n := 1) (Nat.le_of_ble_eq_true rfl)
  rw [lg_entry_eq]
  generalize (lg_sl ([.int x]) ++ List.replicate (1 - (lg_sl ([.int x])).length) Slot.unset).toArray = ls at hl ⊢
  replace hl : lv_has ls 1 [(0, .int x)] := hl
  refine lv_iload_n hx hb dX0_isPart_0 rfl (lv_at hl 0 rfl) ?_
  refine lv_if_eq (tgt := 9) hx hb dX0_isPart_1 (by decide) (fun c_1 => ?_) (fun c_1 => ?_)
  ·
    refine lv_iconst (v := nI 1) hx hb dX0_isPart_9 (by decide) ?_
    refine lv_goto (tgt := 14) hx hb dX0_isPart_10 (by decide) ?_
    refine W.zret (v := (nI 1)) hx hb hr (by decide) (fun t9 ht9 hW9 => ⟨_, rfl, ?_, ht9⟩) (fun q h => by cases h) dX0_isPart_14
    first | (exact Or.inr ⟨rfl, by rw [c_1]; decide⟩) | (exact Or.inr ⟨rfl, by rw [c_6]; decide⟩) | (exact Or.inl ⟨rfl, fun h => by obtain ⟨j, -, hj, e⟩ := inR_of h; subst e; rcases (show j = 0 ∨ j = 1 by omega) with e | e <;> subst e <;> first | exact c_1 rfl | exact c_6 rfl⟩)
  ·
    refine lv_iload_n hx hb dX0_isPart_4 rfl (lv_at hl 0 rfl) ?_
    refine lv_iconst (v := nI 1) hx hb dX0_isPart_5 (by decide) ?_
    refine lv_icmp_ne (tgt := 13) hx hb dX0_isPart_6 (by decide) (fun c_6 => ?_) (fun c_6 => ?_)
    ·
      refine lv_iconst (v := nI 0) hx hb dX0_isPart_13 (by decide) ?_
      refine W.zret (v := (nI 0)) hx hb hr (by decide) (fun t9 ht9 hW9 => ⟨_, rfl, ?_, ht9⟩) (fun q h => by cases h) dX0_isPart_14
      first | (exact Or.inr ⟨rfl, by rw [c_1]; decide⟩) | (exact Or.inr ⟨rfl, by rw [c_6]; decide⟩) | (exact Or.inl ⟨rfl, fun h => by obtain ⟨j, -, hj, e⟩ := inR_of h; subst e; rcases (show j = 0 ∨ j = 1 by omega) with e | e <;> subst e <;> first | exact c_1 rfl | exact c_6 rfl⟩)
    ·
      refine lv_iconst (v := nI 1) hx hb dX0_isPart_9 (by decide) ?_
      refine lv_goto (tgt := 14) hx hb dX0_isPart_10 (by decide) ?_
      refine W.zret (v := (nI 1)) hx hb hr (by decide) (fun t9 ht9 hW9 => ⟨_, rfl, ?_, ht9⟩) (fun q h => by cases h) dX0_isPart_14
      first | (exact Or.inr ⟨rfl, by rw [c_1]; decide⟩) | (exact Or.inr ⟨rfl, by rw [c_6]; decide⟩) | (exact Or.inl ⟨rfl, fun h => by obtain ⟨j, -, hj, e⟩ := inR_of h; subst e; rcases (show j = 0 ∨ j = 1 by omega) with e | e <;> subst e <;> first | exact c_1 rfl | exact c_6 rfl⟩)

set_option maxHeartbeats 4000000 in
set_option maxRecDepth 100000 in
theorem ct_X0_isIn (l : Launch) (x : Nat) (q : Nat) (hx0 : x < 2 ^ 32) (hq0 : q < 32) : Met l yX0_isIn (wS yX0_isIn cX0_isIn 2 (Option.some Jvm.ClassFile.FieldType.boolean)) (rmF 0 0) (va_Pc [.int (nI x), .int (nI q)] (fun _ => True)) (vp_Si (fun r => isB r (x.testBit q = true))) 0 0 (fun _ => False) := by
  refine Met.ofW (cc := cX0_isIn) (maxL := 2) (ret := (Option.some Jvm.ClassFile.FieldType.boolean)) (by decide) rfl ?_
  intro pg en sv mi ag bw mt cd s₁ B hml hv
  obtain ⟨rfl, -⟩ := hv
  have hx := B.exec
  have hb := B.bytes
  have hr := B.returns
  have hts : ∀ w ∈ lw_ok, w.before _ sv = true := fun w hw => atoms_spec (ws := wS yX0_isIn cX0_isIn 2 (Option.some Jvm.ClassFile.FieldType.boolean)) B.pre w (List.mem_cons_of_mem _ hw)
  have hown : sv.vm.findClass RX0 = some mi.cls := findClass_of_methodNamed B.named
  have hlocks := B.notSynchronized
  have fx : CallFix pg mi cd cX0_isIn 2 sv _ lw_ok RX0 := ⟨hx, hb, hml, hown, hts⟩
  have hl := lv_entry ([.int (nI x), .int (nI q)]) (n := 2) (Nat.le_of_ble_eq_true rfl)
  rw [lg_entry_eq]
  generalize (lg_sl ([.int (nI x), .int (nI q)]) ++ List.replicate (2 - (lg_sl ([.int (nI x), .int (nI q)])).length) Slot.unset).toArray = ls at hl ⊢
  replace hl : lv_has ls 2 [(0, .int (nI x)), (1, .int (nI q))] := hl
  refine lv_iload_n hx hb dX0_isIn_0 rfl (lv_at hl 0 rfl) ?_
  refine lv_iload_n hx hb dX0_isIn_1 rfl (lv_at hl 1 rfl) ?_
  refine lv_ishr hx hb dX0_isIn_2 ?_
  refine lv_iconst (v := nI 1) hx hb dX0_isIn_3 (by decide) ?_
  refine lv_iand hx hb dX0_isIn_4 ?_
  rw [bit_nI hx0 hq0]
  refine lv_iconst (v := nI 1) hx hb dX0_isIn_5 (by decide) ?_
  refine x_icmp_ne (x := (x.testBit q).toNat) (y := 1) (tgt := 13) hx hb (by first | decide | (cases x.testBit q <;> decide)) (by first | decide | (cases x.testBit q <;> decide)) dX0_isIn_6 (by decide) (fun c_6 => ?_) (fun c_6 => ?_)
  ·
    refine lv_iconst (v := nI 0) hx hb dX0_isIn_13 (by decide) ?_
    refine W.zret (v := (nI 0)) hx hb hr (by decide) (fun t9 ht9 hW9 => ⟨_, rfl, ?_, ht9⟩) (fun q h => by cases h) dX0_isIn_14
    first | exact Or.inl ⟨rfl, fun h => c_6 (by rw [h]; rfl)⟩ | exact Or.inr ⟨rfl, by cases h : x.testBit q with | true => rfl | false => rw [h] at c_6; exact absurd c_6 (by decide)⟩
  ·
    refine lv_iconst (v := nI 1) hx hb dX0_isIn_9 (by decide) ?_
    refine lv_goto (tgt := 14) hx hb dX0_isIn_10 (by decide) ?_
    refine W.zret (v := (nI 1)) hx hb hr (by decide) (fun t9 ht9 hW9 => ⟨_, rfl, ?_, ht9⟩) (fun q h => by cases h) dX0_isIn_14
    first | exact Or.inl ⟨rfl, fun h => c_6 (by rw [h]; rfl)⟩ | exact Or.inr ⟨rfl, by cases h : x.testBit q with | true => rfl | false => rw [h] at c_6; exact absurd c_6 (by decide)⟩

set_option maxHeartbeats 4000000 in
set_option maxRecDepth 100000 in
theorem ct_X0_stepsInRow (l : Launch) (v : Nat) (hv0 : v < 2 ^ 31) : Met l yX0_stepsInRow (wS yX0_stepsInRow cX0_stepsInRow 2 (Option.some Jvm.ClassFile.FieldType.int)) (rmF 0 0) (va_Pc [.int (nI v)] (fun _ => True)) (vp_Si (fun r => r = nI (fa_first (fun i => !(v.testBit i)) 10))) 0 0 (fun _ => False) := by
  refine Met.ofW (cc := cX0_stepsInRow) (maxL := 2) (ret := (Option.some Jvm.ClassFile.FieldType.int)) (by decide) rfl ?_
  intro pg en sv mi ag bw mt cd s₁ B hml hv
  obtain ⟨rfl, -⟩ := hv
  have hx := B.exec
  have hb := B.bytes
  have hr := B.returns
  have hts : ∀ w ∈ lw_ok, w.before _ sv = true := fun w hw => atoms_spec (ws := wS yX0_stepsInRow cX0_stepsInRow 2 (Option.some Jvm.ClassFile.FieldType.int)) B.pre w (List.mem_cons_of_mem _ hw)
  have hown : sv.vm.findClass RX0 = some mi.cls := findClass_of_methodNamed B.named
  have hlocks := B.notSynchronized
  have fx : CallFix pg mi cd cX0_stepsInRow 2 sv _ lw_ok RX0 := ⟨hx, hb, hml, hown, hts⟩
  have hl := lv_entry ([.int (nI v)]) (n := 2) (Nat.le_of_ble_eq_true rfl)
  rw [lg_entry_eq]
  generalize (lg_sl ([.int (nI v)]) ++ List.replicate (2 - (lg_sl ([.int (nI v)])).length) Slot.unset).toArray = ls at hl ⊢
  replace hl : lv_has ls 2 [(0, .int (nI v))] := hl
  refine lv_iconst (v := nI 0) hx hb dX0_stepsInRow_0 (by decide) ?_
  refine lv_istore_n (lv' := [(1, .int (nI 0)), (0, .int (nI v))]) hx hb dX0_stepsInRow_1 rfl hl (by decide) rfl (fun ls hl => ?_)
  obtain ⟨i, ei⟩ : ∃ i : Nat, i = 0 := ⟨_, rfl⟩
  replace hl : lv_has ls 2 [(1, .int (nI i)), (0, .int (nI v))] := by subst ei; exact lv_sub hl [0, 1] rfl
  have hi : i ≤ 10 := by subst ei; omega
  have ha : ∀ j, j < i → v.testBit j = true := by subst ei; intro j hj; omega
  clear ei
  obtain ⟨n2, hn2⟩ : ∃ n : Nat, 10 - i < n := ⟨_, Nat.lt_succ_self _⟩
  induction n2 generalizing i ls with
  | zero => exact absurd hn2 (Nat.not_lt_zero _)
  | succ n2 ih2 =>
    refine lv_iload_n hx hb dX0_stepsInRow_2 rfl (lv_at hl 0 rfl) ?_
    refine lv_bipush (v := nI 10) hx hb dX0_stepsInRow_3 (by decide) ?_
    refine x_icmp_ge (x := i) (y := 10) (tgt := 23) hx hb (by omega) (by omega) dX0_stepsInRow_5 (by decide) (fun c_5 => ?_) (fun c_5 => ?_)
    ·
      refine lv_iload_n hx hb dX0_stepsInRow_23 rfl (lv_at hl 0 rfl) ?_
      refine W.iret (v := (nI i)) hx hb hr (fun t9 ht9 hW9 => ⟨_, rfl, ?_, ht9⟩) (fun q h => by cases h) dX0_stepsInRow_24
      first | exact congrArg nI (first_eq (by omega) (fun j hj => by rw [ha j hj]; rfl) (Or.inl (by omega))).symm | exact congrArg nI (first_eq (by omega) (fun j hj => by rw [ha j hj]; rfl) (Or.inr (by cases h : v.testBit i with | false => rfl | true => rw [h] at c_14; exact absurd rfl c_14))).symm
    ·
      refine lv_iload_n hx hb dX0_stepsInRow_8 rfl (lv_at hl 1 rfl) ?_
      refine lv_iload_n hx hb dX0_stepsInRow_9 rfl (lv_at hl 0 rfl) ?_
      refine lv_ishr hx hb dX0_stepsInRow_10 ?_
      refine lv_iconst (v := nI 1) hx hb dX0_stepsInRow_11 (by decide) ?_
      refine lv_iand hx hb dX0_stepsInRow_12 ?_
      rw [bit_nI (show v < 2 ^ 32 by omega) (show i < 32 by omega)]
      refine lv_iconst (v := nI 1) hx hb dX0_stepsInRow_13 (by decide) ?_
      refine x_icmp_ne (x := (v.testBit i).toNat) (y := 1) (tgt := 23) hx hb (by first | decide | (cases v.testBit i <;> decide)) (by first | decide | (cases v.testBit i <;> decide)) dX0_stepsInRow_14 (by decide) (fun c_14 => ?_) (fun c_14 => ?_)
      ·
        refine lv_iload_n hx hb dX0_stepsInRow_23 rfl (lv_at hl 0 rfl) ?_
        refine W.iret (v := (nI i)) hx hb hr (fun t9 ht9 hW9 => ⟨_, rfl, ?_, ht9⟩) (fun q h => by cases h) dX0_stepsInRow_24
        first | exact congrArg nI (first_eq (by omega) (fun j hj => by rw [ha j hj]; rfl) (Or.inl (by omega))).symm | exact congrArg nI (first_eq (by omega) (fun j hj => by rw [ha j hj]; rfl) (Or.inr (by cases h : v.testBit i with | false => rfl | true => rw [h] at c_14; exact absurd rfl c_14))).symm
      ·
        have hb1 : v.testBit i = true := by
          cases h : v.testBit i with
          | true => rfl
          | false => rw [h] at c_14; exact absurd c_14 (by decide)
        refine lv_iinc (v := nI (i + 1)) (lv' := [(1, .int (nI (i + 1))), (0, .int (nI v))]) hx hb dX0_stepsInRow_17 hl (k := 0) rfl (x_inc1 _) (by decide) rfl (fun ls hl => ?_)
        refine lv_goto (tgt := 2) hx hb dX0_stepsInRow_20 (by decide) ?_
        exact ih2 ls (i + 1) (lv_sub hl [0, 1] rfl) (by omega) (by intro j hj; rcases Nat.lt_or_ge j i with q | q; exact ha j q; rw [show j = i by omega]; exact hb1) (by omega)

set_option maxHeartbeats 4000000 in
set_option maxRecDepth 100000 in
theorem ct_X0_isAnswer (l : Launch) (dC : Nat → ClassId) (dI : Nat → Nat → Nat) (cy : ClassId) (o : Nat) (a : Nat → Nat) (Z X : Nat → Nat → Nat) (q : Nat) (v : Int32) (hI : Inv Z) (hq : q < Z 0 0) : Met l yX0_isAnswer (wS yX0_isAnswer cX0_isAnswer 4 (Option.some Jvm.ClassFile.FieldType.boolean)) (rmF 0 0) (va_Pc [.ref o, .int (nI q), .int v] (cR dC dI cy o a Z X)) (vp_Si (fun r => isB r (inR v 0 (topA Z q + 1)))) 0 0 (fun _ => False) := by
  refine Met.ofW (cc := cX0_isAnswer) (maxL := 4) (ret := (Option.some Jvm.ClassFile.FieldType.boolean)) (by decide) rfl ?_
  intro pg en sv mi ag bw mt cd s₁ B hml hv
  obtain ⟨rfl, hP, hK⟩ := hv
  have hx := B.exec
  have hb := B.bytes
  have hr := B.returns
  have hts : ∀ w ∈ lw_ok, w.before _ sv = true := fun w hw => atoms_spec (ws := wS yX0_isAnswer cX0_isAnswer 4 (Option.some Jvm.ClassFile.FieldType.boolean)) B.pre w (List.mem_cons_of_mem _ hw)
  have hown : sv.vm.findClass RX0 = some mi.cls := findClass_of_methodNamed B.named
  have hlocks := B.notSynchronized
  have fx : CallFix pg mi cd cX0_isAnswer 4 sv _ lw_ok RX0 := ⟨hx, hb, hml, hown, hts⟩
  have hl := lv_entry ([.ref o, .int (nI q), .int v]) (n := 4) (Nat.le_of_ble_eq_true rfl)
  rw [lg_entry_eq]
  generalize (lg_sl ([.ref o, .int (nI q), .int v]) ++ List.replicate (4 - (lg_sl ([.ref o, .int (nI q), .int v])).length) Slot.unset).toArray = ls at hl ⊢
  replace hl : lv_has ls 4 [(0, .ref o), (1, .int (nI q)), (2, .int v)] := hl
  obtain ⟨b0, b1, b2⟩ := hI.bd
  have hqq := hI.q hq
  have hp2 : 2 ^ Z 6 q ≤ 2 ^ 10 := Nat.pow_le_pow_right (by omega) hqq.2.2.1
  refine lv_aload_n hx hb dX0_isAnswer_0 rfl (lv_at hl 0 rfl) ?_
  refine c_g6 hx hb hts hown hK hP dX0_isAnswer_1 ?_
  refine lv_iload_n hx hb dX0_isAnswer_4 rfl (lv_at hl 1 rfl) ?_
  refine c_l6 (j := q) hx hb hK hP (by omega) dX0_isAnswer_5 ?_
  refine lv_istore_n (lv' := [(3, .int (nI (Z 6 q))), (0, .ref o), (1, .int (nI q)), (2, .int v)]) hx hb dX0_isAnswer_6 rfl hl (by decide) rfl (fun ls hl => ?_)
  refine lv_aload_n hx hb dX0_isAnswer_7 rfl (lv_at hl 1 rfl) ?_
  refine c_g5 hx hb hts hown hK hP dX0_isAnswer_8 ?_
  refine lv_iload_n hx hb dX0_isAnswer_11 rfl (lv_at hl 2 rfl) ?_
  refine c_l5 (j := q) hx hb hK hP (by omega) dX0_isAnswer_12 ?_
  refine lv_iconst (v := nI 1) hx hb dX0_isAnswer_13 (by decide) ?_
  refine x_icmp_ne (x := Z 5 q) (y := 1) (tgt := 23) hx hb (by omega) (by omega) dX0_isAnswer_14 (by decide) (fun c_14 => ?_) (fun c_14 => ?_)
  ·
    refine lv_aload_n hx hb dX0_isAnswer_23 rfl (lv_at hl 1 rfl) ?_
    refine c_g5 hx hb hts hown hK hP dX0_isAnswer_24 ?_
    refine lv_iload_n hx hb dX0_isAnswer_27 rfl (lv_at hl 2 rfl) ?_
    refine c_l5 (j := q) hx hb hK hP (by omega) dX0_isAnswer_28 ?_
    refine lv_iconst (v := nI 2) hx hb dX0_isAnswer_29 (by decide) ?_
    refine x_icmp_ne (x := Z 5 q) (y := 2) (tgt := 44) hx hb (by omega) (by omega) dX0_isAnswer_30 (by decide) (fun c_30 => ?_) (fun c_30 => ?_)
    ·
      have ht : topA Z q = Z 6 q := by simp [topA, c_14, c_30]
      refine lv_iload_n hx hb dX0_isAnswer_44 rfl (lv_at hl 3 rfl) ?_
      refine lv_if_lt (tgt := 57) hx hb dX0_isAnswer_45 (by decide) (fun c_45 => ?_) (fun c_45 => ?_)
      ·
        refine lv_iconst (v := nI 0) hx hb dX0_isAnswer_57 (by decide) ?_
        refine W.zret (v := (nI 0)) hx hb hr (by decide) (fun t9 ht9 hW9 => ⟨_, rfl, ?_, ht9⟩) (fun q h => by cases h) dX0_isAnswer_58
        first | exact Or.inl ⟨rfl, inR_lo c_45⟩ | exact Or.inl ⟨rfl, by rw [ht]; exact inR_gt (by omega) c_50⟩ | exact Or.inr ⟨rfl, by rw [ht]; exact inR_mk2 (lo := 0) (by decide) (by omega) (show ¬ v < nI 0 from c_45) c_50⟩
      ·
        refine lv_iload_n hx hb dX0_isAnswer_48 rfl (lv_at hl 3 rfl) ?_
        refine lv_iload_n hx hb dX0_isAnswer_49 rfl (lv_at hl 0 rfl) ?_
        refine lv_icmp_gt (tgt := 57) hx hb dX0_isAnswer_50 (by decide) (fun c_50 => ?_) (fun c_50 => ?_)
        ·
          refine lv_iconst (v := nI 0) hx hb dX0_isAnswer_57 (by decide) ?_
          refine W.zret (v := (nI 0)) hx hb hr (by decide) (fun t9 ht9 hW9 => ⟨_, rfl, ?_, ht9⟩) (fun q h => by cases h) dX0_isAnswer_58
          first | exact Or.inl ⟨rfl, inR_lo c_45⟩ | exact Or.inl ⟨rfl, by rw [ht]; exact inR_gt (by omega) c_50⟩ | exact Or.inr ⟨rfl, by rw [ht]; exact inR_mk2 (lo := 0) (by decide) (by omega) (show ¬ v < nI 0 from c_45) c_50⟩
        ·
          refine lv_iconst (v := nI 1) hx hb dX0_isAnswer_53 (by decide) ?_
          refine lv_goto (tgt := 58) hx hb dX0_isAnswer_54 (by decide) ?_
          refine W.zret (v := (nI 1)) hx hb hr (by decide) (fun t9 ht9 hW9 => ⟨_, rfl, ?_, ht9⟩) (fun q h => by cases h) dX0_isAnswer_58
          first | exact Or.inl ⟨rfl, inR_lo c_45⟩ | exact Or.inl ⟨rfl, by rw [ht]; exact inR_gt (by omega) c_50⟩ | exact Or.inr ⟨rfl, by rw [ht]; exact inR_mk2 (lo := 0) (by decide) (by omega) (show ¬ v < nI 0 from c_45) c_50⟩
    ·
      refine lv_iconst (v := nI 1) hx hb dX0_isAnswer_33 (by decide) ?_
      refine lv_aload_n hx hb dX0_isAnswer_34 rfl (lv_at hl 1 rfl) ?_
      refine c_g6 hx hb hts hown hK hP dX0_isAnswer_35 ?_
      refine lv_iload_n hx hb dX0_isAnswer_38 rfl (lv_at hl 2 rfl) ?_
      refine c_l6 (j := q) hx hb hK hP (by omega) dX0_isAnswer_39 ?_
      refine lv_ishl hx hb dX0_isAnswer_40 ?_
      rw [shl1 (by omega)]
      refine lv_iconst (v := nI 1) hx hb dX0_isAnswer_41 (by decide) ?_
      refine x_isub hx hb (by exact Nat.one_le_two_pow) dX0_isAnswer_42 ?_
      refine lv_istore_n (lv' := [(3, .int (nI ((2 ^ Z 6 q) - 1))), (0, .ref o), (1, .int (nI q)), (2, .int v)]) hx hb dX0_isAnswer_43 rfl hl (by decide) rfl (fun ls hl => ?_)
      have ht : topA Z q = 2 ^ Z 6 q - 1 := by simp [topA, c_30]
      refine lv_iload_n hx hb dX0_isAnswer_44 rfl (lv_at hl 3 rfl) ?_
      refine lv_if_lt (tgt := 57) hx hb dX0_isAnswer_45 (by decide) (fun c_45 => ?_) (fun c_45 => ?_)
      ·
        refine lv_iconst (v := nI 0) hx hb dX0_isAnswer_57 (by decide) ?_
        refine W.zret (v := (nI 0)) hx hb hr (by decide) (fun t9 ht9 hW9 => ⟨_, rfl, ?_, ht9⟩) (fun q h => by cases h) dX0_isAnswer_58
        first | exact Or.inl ⟨rfl, inR_lo c_45⟩ | exact Or.inl ⟨rfl, by rw [ht]; exact inR_gt (by omega) c_50⟩ | exact Or.inr ⟨rfl, by rw [ht]; exact inR_mk2 (lo := 0) (by decide) (by omega) (show ¬ v < nI 0 from c_45) c_50⟩
      ·
        refine lv_iload_n hx hb dX0_isAnswer_48 rfl (lv_at hl 3 rfl) ?_
        refine lv_iload_n hx hb dX0_isAnswer_49 rfl (lv_at hl 0 rfl) ?_
        refine lv_icmp_gt (tgt := 57) hx hb dX0_isAnswer_50 (by decide) (fun c_50 => ?_) (fun c_50 => ?_)
        ·
          refine lv_iconst (v := nI 0) hx hb dX0_isAnswer_57 (by decide) ?_
          refine W.zret (v := (nI 0)) hx hb hr (by decide) (fun t9 ht9 hW9 => ⟨_, rfl, ?_, ht9⟩) (fun q h => by cases h) dX0_isAnswer_58
          first | exact Or.inl ⟨rfl, inR_lo c_45⟩ | exact Or.inl ⟨rfl, by rw [ht]; exact inR_gt (by omega) c_50⟩ | exact Or.inr ⟨rfl, by rw [ht]; exact inR_mk2 (lo := 0) (by decide) (by omega) (show ¬ v < nI 0 from c_45) c_50⟩
        ·
          refine lv_iconst (v := nI 1) hx hb dX0_isAnswer_53 (by decide) ?_
          refine lv_goto (tgt := 58) hx hb dX0_isAnswer_54 (by decide) ?_
          refine W.zret (v := (nI 1)) hx hb hr (by decide) (fun t9 ht9 hW9 => ⟨_, rfl, ?_, ht9⟩) (fun q h => by cases h) dX0_isAnswer_58
          first | exact Or.inl ⟨rfl, inR_lo c_45⟩ | exact Or.inl ⟨rfl, by rw [ht]; exact inR_gt (by omega) c_50⟩ | exact Or.inr ⟨rfl, by rw [ht]; exact inR_mk2 (lo := 0) (by decide) (by omega) (show ¬ v < nI 0 from c_45) c_50⟩
  ·
    refine lv_bipush (v := nI 7) hx hb dX0_isAnswer_17 (by decide) ?_
    refine lv_istore_n (lv' := [(3, .int (nI 7)), (0, .ref o), (1, .int (nI q)), (2, .int v)]) hx hb dX0_isAnswer_19 rfl hl (by decide) rfl (fun ls hl => ?_)
    have ht : topA Z q = 7 := by simp [topA, c_14]
    refine lv_goto (tgt := 44) hx hb dX0_isAnswer_20 (by decide) ?_
    refine lv_iload_n hx hb dX0_isAnswer_44 rfl (lv_at hl 3 rfl) ?_
    refine lv_if_lt (tgt := 57) hx hb dX0_isAnswer_45 (by decide) (fun c_45 => ?_) (fun c_45 => ?_)
    ·
      refine lv_iconst (v := nI 0) hx hb dX0_isAnswer_57 (by decide) ?_
      refine W.zret (v := (nI 0)) hx hb hr (by decide) (fun t9 ht9 hW9 => ⟨_, rfl, ?_, ht9⟩) (fun q h => by cases h) dX0_isAnswer_58
      first | exact Or.inl ⟨rfl, inR_lo c_45⟩ | exact Or.inl ⟨rfl, by rw [ht]; exact inR_gt (by omega) c_50⟩ | exact Or.inr ⟨rfl, by rw [ht]; exact inR_mk2 (lo := 0) (by decide) (by omega) (show ¬ v < nI 0 from c_45) c_50⟩
    ·
      refine lv_iload_n hx hb dX0_isAnswer_48 rfl (lv_at hl 3 rfl) ?_
      refine lv_iload_n hx hb dX0_isAnswer_49 rfl (lv_at hl 0 rfl) ?_
      refine lv_icmp_gt (tgt := 57) hx hb dX0_isAnswer_50 (by decide) (fun c_50 => ?_) (fun c_50 => ?_)
      ·
        refine lv_iconst (v := nI 0) hx hb dX0_isAnswer_57 (by decide) ?_
        refine W.zret (v := (nI 0)) hx hb hr (by decide) (fun t9 ht9 hW9 => ⟨_, rfl, ?_, ht9⟩) (fun q h => by cases h) dX0_isAnswer_58
        first | exact Or.inl ⟨rfl, inR_lo c_45⟩ | exact Or.inl ⟨rfl, by rw [ht]; exact inR_gt (by omega) c_50⟩ | exact Or.inr ⟨rfl, by rw [ht]; exact inR_mk2 (lo := 0) (by decide) (by omega) (show ¬ v < nI 0 from c_45) c_50⟩
      ·
        refine lv_iconst (v := nI 1) hx hb dX0_isAnswer_53 (by decide) ?_
        refine lv_goto (tgt := 58) hx hb dX0_isAnswer_54 (by decide) ?_
        refine W.zret (v := (nI 1)) hx hb hr (by decide) (fun t9 ht9 hW9 => ⟨_, rfl, ?_, ht9⟩) (fun q h => by cases h) dX0_isAnswer_58
        first | exact Or.inl ⟨rfl, inR_lo c_45⟩ | exact Or.inl ⟨rfl, by rw [ht]; exact inR_gt (by omega) c_50⟩ | exact Or.inr ⟨rfl, by rw [ht]; exact inR_mk2 (lo := 0) (by decide) (by omega) (show ¬ v < nI 0 from c_45) c_50⟩

set_option maxHeartbeats 4000000 in
set_option maxRecDepth 100000 in
theorem ct_X0_hasPupil (l : Launch) (dC : Nat → ClassId) (dI : Nat → Nat → Nat) (cy : ClassId) (o : Nat) (a : Nat → Nat) (Z X : Nat → Nat → Nat) (p : Nat) (hI : Inv Z) (hp : p < Z 0 1) : Met l yX0_hasPupil (wS yX0_hasPupil cX0_hasPupil 3 (Option.some Jvm.ClassFile.FieldType.boolean)) (rmF 0 0) (va_Pc [.ref o, .int (nI p)] (cR dC dI cy o a Z X)) (vp_Si (fun r => isB r (∃ u, u < Z 0 2 ∧ Z 11 u = p))) 0 0 (fun _ => False) := by
  refine Met.ofW (cc := cX0_hasPupil) (maxL := 3) (ret := (Option.some Jvm.ClassFile.FieldType.boolean)) (by decide) rfl ?_
  intro pg en sv mi ag bw mt cd s₁ B hml hv
  obtain ⟨rfl, hP, hK⟩ := hv
  have hx := B.exec
  have hb := B.bytes
  have hr := B.returns
  have hts : ∀ w ∈ lw_ok, w.before _ sv = true := fun w hw => atoms_spec (ws := wS yX0_hasPupil cX0_hasPupil 3 (Option.some Jvm.ClassFile.FieldType.boolean)) B.pre w (List.mem_cons_of_mem _ hw)
  have hown : sv.vm.findClass RX0 = some mi.cls := findClass_of_methodNamed B.named
  have hlocks := B.notSynchronized
  have fx : CallFix pg mi cd cX0_hasPupil 3 sv _ lw_ok RX0 := ⟨hx, hb, hml, hown, hts⟩
  have hl := lv_entry ([.ref o, .int (nI p)]) (n := 3) (Nat.le_of_ble_eq_true rfl)
  rw [lg_entry_eq]
  generalize (lg_sl ([.ref o, .int (nI p)]) ++ List.replicate (3 - (lg_sl ([.ref o, .int (nI p)])).length) Slot.unset).toArray = ls at hl ⊢
  replace hl : lv_has ls 3 [(0, .ref o), (1, .int (nI p))] := hl
  obtain ⟨b0, b1, b2⟩ := hI.bd
  refine lv_iconst (v := nI 0) hx hb dX0_hasPupil_0 (by decide) ?_
  refine lv_istore_n (lv' := [(2, .int (nI 0)), (0, .ref o), (1, .int (nI p))]) hx hb dX0_hasPupil_1 rfl hl (by decide) rfl (fun ls hl => ?_)
  obtain ⟨i, ei⟩ : ∃ i : Nat, i = 0 := ⟨_, rfl⟩
  replace hl : lv_has ls 3 [(2, .int (nI i)), (0, .ref o), (1, .int (nI p))] := by subst ei; exact lv_sub hl [0, 1, 2] rfl
  have hi : i ≤ Z 0 2 := by subst ei; omega
  have ha : ∀ j, j < i → Z 11 j ≠ p := by subst ei; intro j hj; omega
  clear ei
  obtain ⟨n2, hn2⟩ : ∃ n : Nat, Z 0 2 - i < n := ⟨_, Nat.lt_succ_self _⟩
  induction n2 generalizing i ls with
  | zero => exact absurd hn2 (Nat.not_lt_zero _)
  | succ n2 ih2 =>
    refine lv_iload_n hx hb dX0_hasPupil_2 rfl (lv_at hl 0 rfl) ?_
    refine lv_aload_n hx hb dX0_hasPupil_3 rfl (lv_at hl 1 rfl) ?_
    refine c_g2 hx hb hts hown hK hP dX0_hasPupil_4 ?_
    refine x_icmp_ge (x := i) (y := Z 0 2) (tgt := 28) hx hb (by omega) (by omega) dX0_hasPupil_7 (by decide) (fun c_7 => ?_) (fun c_7 => ?_)
    ·
      refine lv_iconst (v := nI 0) hx hb dX0_hasPupil_28 (by decide) ?_
      refine W.zret (v := (nI 0)) hx hb hr (by decide) (fun t9 ht9 hW9 => ⟨_, rfl, ?_, ht9⟩) (fun q h => by cases h) dX0_hasPupil_29
      first | exact Or.inr ⟨rfl, i, by omega, c_17⟩ | exact Or.inl ⟨rfl, fun ⟨u, hu, e⟩ => ha u (by omega) e⟩
    ·
      have hpu := hI.pu (u := i) (by omega)
      refine lv_aload_n hx hb dX0_hasPupil_10 rfl (lv_at hl 1 rfl) ?_
      refine c_g11 hx hb hts hown hK hP dX0_hasPupil_11 ?_
      refine lv_iload_n hx hb dX0_hasPupil_14 rfl (lv_at hl 0 rfl) ?_
      refine c_l11 (j := i) hx hb hK hP (by omega) dX0_hasPupil_15 ?_
      refine lv_iload_n hx hb dX0_hasPupil_16 rfl (lv_at hl 2 rfl) ?_
      refine x_icmp_ne (x := Z 11 i) (y := p) (tgt := 22) hx hb (by omega) (by omega) dX0_hasPupil_17 (by decide) (fun c_17 => ?_) (fun c_17 => ?_)
      ·
        refine lv_iinc (v := nI (i + 1)) (lv' := [(2, .int (nI (i + 1))), (0, .ref o), (1, .int (nI p))]) hx hb dX0_hasPupil_22 hl (k := 0) rfl (x_inc1 _) (by decide) rfl (fun ls hl => ?_)
        refine lv_goto (tgt := 2) hx hb dX0_hasPupil_25 (by decide) ?_
        exact ih2 ls (i + 1) (lv_sub hl [0, 1, 2] rfl) (by omega) (by intro j hj; rcases Nat.lt_or_ge j i with q | q; exact ha j q; rw [show j = i by omega]; exact c_17) (by omega)
      ·
        refine lv_iconst (v := nI 1) hx hb dX0_hasPupil_20 (by decide) ?_
        refine W.zret (v := (nI 1)) hx hb hr (by decide) (fun t9 ht9 hW9 => ⟨_, rfl, ?_, ht9⟩) (fun q h => by cases h) dX0_hasPupil_21
        first | exact Or.inr ⟨rfl, i, by omega, c_17⟩ | exact Or.inl ⟨rfl, fun ⟨u, hu, e⟩ => ha u (by omega) e⟩

set_option maxHeartbeats 4000000 in
set_option maxRecDepth 100000 in
theorem ct_X0_countingSet (l : Launch) (dC : Nat → ClassId) (dI : Nat → Nat → Nat) (cy : ClassId) (o : Nat) (a : Nat → Nat) (Z X : Nat → Nat → Nat)   : Met l yX0_countingSet (wS yX0_countingSet cX0_countingSet 1 (Option.some Jvm.ClassFile.FieldType.int)) (rmF 0 0) (va_Pc [.ref o] (cR dC dI cy o a Z X)) (vp_Si (fun r => r = nI (cset Z))) 0 0 (fun _ => False) := by
  refine Met.ofW (cc := cX0_countingSet) (maxL := 1) (ret := (Option.some Jvm.ClassFile.FieldType.int)) (by decide) rfl ?_
  intro pg en sv mi ag bw mt cd s₁ B hml hv
  obtain ⟨rfl, hP, hK⟩ := hv
  have hx := B.exec
  have hb := B.bytes
  have hr := B.returns
  have hts : ∀ w ∈ lw_ok, w.before _ sv = true := fun w hw => atoms_spec (ws := wS yX0_countingSet cX0_countingSet 1 (Option.some Jvm.ClassFile.FieldType.int)) B.pre w (List.mem_cons_of_mem _ hw)
  have hown : sv.vm.findClass RX0 = some mi.cls := findClass_of_methodNamed B.named
  have hlocks := B.notSynchronized
  have fx : CallFix pg mi cd cX0_countingSet 1 sv _ lw_ok RX0 := ⟨hx, hb, hml, hown, hts⟩
  have hl := lv_entry ([.ref o]) (n := 1) (Nat.le_of_ble_eq_true rfl)
  rw [lg_entry_eq]
  generalize (lg_sl ([.ref o]) ++ List.replicate (1 - (lg_sl ([.ref o])).length) Slot.unset).toArray = ls at hl ⊢
  replace hl : lv_has ls 1 [(0, .ref o)] := hl
  refine lv_aload_n hx hb dX0_countingSet_0 rfl (lv_at hl 0 rfl) ?_
  refine c_g3 hx hb hts hown hK hP dX0_countingSet_1 ?_
  refine lv_aload_n hx hb dX0_countingSet_4 rfl (lv_at hl 0 rfl) ?_
  refine c_g4 hx hb hts hown hK hP dX0_countingSet_5 ?_
  refine lv_ior hx hb dX0_countingSet_8 ?_
  refine lv_iconst (v := -1) hx hb dX0_countingSet_9 (by decide) ?_
  refine lv_ixor hx hb dX0_countingSet_10 ?_
  refine W.iret (v := (((nI (Z 0 3)) ||| (nI (Z 0 4))) ^^^ (-1))) hx hb hr (fun t9 ht9 hW9 => ⟨_, rfl, ?_, ht9⟩) (fun q h => by cases h) dX0_countingSet_11
  rw [show (-1 : Int32) = nI 4294967295 from by decide, fa_or, fb_xorI]; rfl

set_option maxHeartbeats 4000000 in
set_option maxRecDepth 100000 in
theorem ct_X0_sharedSet (l : Launch) (dC : Nat → ClassId) (dI : Nat → Nat → Nat) (cy : ClassId) (o : Nat) (a : Nat → Nat) (Z X : Nat → Nat → Nat) (p : Nat) (q : Nat) (hp : p < 8) (hq : q < 8) : Met l yX0_sharedSet (wS yX0_sharedSet cX0_sharedSet 3 (Option.some Jvm.ClassFile.FieldType.int)) (rmF 1 20) (va_Pc [.ref o, .int (nI p), .int (nI q)] (cR dC dI cy o a Z X)) (vp_Si (fun r => r = nI (Z 9 p &&& Z 9 q &&& cset Z))) 0 0 (fun _ => False) := by
  refine Met.ofW (cc := cX0_sharedSet) (maxL := 3) (ret := (Option.some Jvm.ClassFile.FieldType.int)) (by decide) rfl ?_
  intro pg en sv mi ag bw mt cd s₁ B hml hv
  obtain ⟨rfl, hP, hK⟩ := hv
  have hx := B.exec
  have hb := B.bytes
  have hr := B.returns
  have hts : ∀ w ∈ lw_ok, w.before _ sv = true := fun w hw => atoms_spec (ws := wS yX0_sharedSet cX0_sharedSet 3 (Option.some Jvm.ClassFile.FieldType.int)) B.pre w (List.mem_cons_of_mem _ hw)
  have hown : sv.vm.findClass RX0 = some mi.cls := findClass_of_methodNamed B.named
  have hlocks := B.notSynchronized
  have fx : CallFix pg mi cd cX0_sharedSet 3 sv _ lw_ok RX0 := ⟨hx, hb, hml, hown, hts⟩
  have hl := lv_entry ([.ref o, .int (nI p), .int (nI q)]) (n := 3) (Nat.le_of_ble_eq_true rfl)
  rw [lg_entry_eq]
  generalize (lg_sl ([.ref o, .int (nI p), .int (nI q)]) ++ List.replicate (3 - (lg_sl ([.ref o, .int (nI p), .int (nI q)])).length) Slot.unset).toArray = ls at hl ⊢
  replace hl : lv_has ls 3 [(0, .ref o), (1, .int (nI p)), (2, .int (nI q))] := hl
  refine lv_aload_n hx hb dX0_sharedSet_0 rfl (lv_at hl 0 rfl) ?_
  refine c_g9 hx hb hts hown hK hP dX0_sharedSet_1 ?_
  refine lv_iload_n hx hb dX0_sharedSet_4 rfl (lv_at hl 1 rfl) ?_
  refine c_l9 (j := p) hx hb hK hP (by omega) dX0_sharedSet_5 ?_
  refine lv_aload_n hx hb dX0_sharedSet_6 rfl (lv_at hl 0 rfl) ?_
  refine c_g9 hx hb hts hown hK hP dX0_sharedSet_7 ?_
  refine lv_iload_n hx hb dX0_sharedSet_10 rfl (lv_at hl 2 rfl) ?_
  refine c_l9 (j := q) hx hb hK hP (by omega) dX0_sharedSet_11 ?_
  refine lv_iand hx hb dX0_sharedSet_12 ?_
  refine lv_aload_n hx hb dX0_sharedSet_13 rfl (lv_at hl 0 rfl) ?_
  refine r_Vi (As := []) (rest := [.int ((nI (Z 9 p)) &&& (nI (Z 9 q)))]) fx (ct_X0_countingSet l dC dI cy o a Z X ) fyX0_countingSet tM_RX0_117 rfl rfl ⟨Nat.le_of_ble_eq_true rfl, Nat.le_of_ble_eq_true rfl⟩ (c_pre hK hP) rfl hl.1 rfl (Nat.le_of_ble_eq_true rfl) dX0_sharedSet_14 ⟨Nat.le_of_ble_eq_true rfl, Nat.le_of_ble_eq_true rfl⟩ (fun r_14 hr_14 => ?_)
  subst hr_14
  refine lv_iand hx hb dX0_sharedSet_17 ?_
  refine W.iret (v := (((nI (Z 9 p)) &&& (nI (Z 9 q))) &&& (nI (cset Z)))) hx hb hr (fun t9 ht9 hW9 => ⟨_, rfl, ?_, ht9⟩) (fun q h => by cases h) dX0_sharedSet_18
  rw [fa_and, fa_and]

set_option maxHeartbeats 4000000 in
set_option maxRecDepth 100000 in
theorem ct_X0_spotOf (l : Launch) (dC : Nat → ClassId) (dI : Nat → Nat → Nat) (cy : ClassId) (o : Nat) (a : Nat → Nat) (Z X : Nat → Nat → Nat) (p : Nat) (q : Nat) (hI : Inv Z) (hp : p < Z 0 1) (hq : q < Z 0 0) : Met l yX0_spotOf (wS yX0_spotOf cX0_spotOf 4 (Option.some Jvm.ClassFile.FieldType.int)) (rmF 1 21) (va_Pc [.ref o, .int (nI p), .int (nI q)] (cR dC dI cy o a Z X)) (vp_Si (fun r => (r = -1 ∧ spt Z p q = Z 8 p) ∨ (∃ i, i < Z 8 p ∧ spt Z p q = i ∧ Z 10 (p * 12 + i) = q ∧ r = nI i))) 0 0 (fun _ => False) := by
  refine Met.ofW (cc := cX0_spotOf) (maxL := 4) (ret := (Option.some Jvm.ClassFile.FieldType.int)) (by decide) rfl ?_
  intro pg en sv mi ag bw mt cd s₁ B hml hv
  obtain ⟨rfl, hP, hK⟩ := hv
  have hx := B.exec
  have hb := B.bytes
  have hr := B.returns
  have hts : ∀ w ∈ lw_ok, w.before _ sv = true := fun w hw => atoms_spec (ws := wS yX0_spotOf cX0_spotOf 4 (Option.some Jvm.ClassFile.FieldType.int)) B.pre w (List.mem_cons_of_mem _ hw)
  have hown : sv.vm.findClass RX0 = some mi.cls := findClass_of_methodNamed B.named
  have hlocks := B.notSynchronized
  have fx : CallFix pg mi cd cX0_spotOf 4 sv _ lw_ok RX0 := ⟨hx, hb, hml, hown, hts⟩
  have hl := lv_entry ([.ref o, .int (nI p), .int (nI q)]) (n := 4) (Nat.le_of_ble_eq_true rfl)
  rw [lg_entry_eq]
  generalize (lg_sl ([.ref o, .int (nI p), .int (nI q)]) ++ List.replicate (4 - (lg_sl ([.ref o, .int (nI p), .int (nI q)])).length) Slot.unset).toArray = ls at hl ⊢
  replace hl : lv_has ls 4 [(0, .ref o), (1, .int (nI p)), (2, .int (nI q))] := hl
  obtain ⟨b0, b1, b2⟩ := hI.bd
  have bs := hI.sz (p := p) (by omega)
  refine lv_aload_n hx hb dX0_spotOf_0 rfl (lv_at hl 0 rfl) ?_
  refine c_g9 hx hb hts hown hK hP dX0_spotOf_1 ?_
  refine lv_iload_n hx hb dX0_spotOf_4 rfl (lv_at hl 1 rfl) ?_
  refine c_l9 (j := p) hx hb hK hP (by omega) dX0_spotOf_5 ?_
  refine lv_iload_n hx hb dX0_spotOf_6 rfl (lv_at hl 2 rfl) ?_
  refine r_Si (As := [.int (nI (Z 9 p)), .int (nI q)]) (rest := []) fx (ct_X0_isIn l (Z 9 p) q (by first | assumption | omega) (by first | assumption | omega)) fyX0_isIn tM_RX0_74 rfl rfl ⟨Nat.le_of_ble_eq_true rfl, Nat.le_of_ble_eq_true rfl⟩ rfl hl.1 rfl (Nat.le_of_ble_eq_true rfl) dX0_spotOf_7 ⟨Nat.le_of_ble_eq_true rfl, Nat.le_of_ble_eq_true rfl⟩ (fun r_7 hr_7 => ?_)
  rcases hr_7 with ⟨rfl, hr_7⟩ | ⟨rfl, hr_7⟩
  ·
    refine x_if_ne_F (tgt := 15) hx hb (by decide) dX0_spotOf_10 (by decide) ?_
    refine lv_iconst (v := -1) hx hb dX0_spotOf_13 (by decide) ?_
    refine W.iret (v := (-1)) hx hb hr (fun t9 ht9 hW9 => ⟨_, rfl, ?_, ht9⟩) (fun q h => by cases h) dX0_spotOf_14
    exact Or.inl ⟨rfl, spt_none (fun k hk e => hr_7 ((hI.set (by omega) (by omega)).mpr ⟨k, hk, e⟩))⟩
  ·
    refine x_if_ne_T (tgt := 15) hx hb (by decide) dX0_spotOf_10 (by decide) ?_
    refine lv_iconst (v := nI 0) hx hb dX0_spotOf_15 (by decide) ?_
    refine lv_istore_n (lv' := [(3, .int (nI 0)), (0, .ref o), (1, .int (nI p)), (2, .int (nI q))]) hx hb dX0_spotOf_16 rfl hl (by decide) rfl (fun ls hl => ?_)
    obtain ⟨i, ei⟩ : ∃ i : Nat, i = 0 := ⟨_, rfl⟩
    replace hl : lv_has ls 4 [(3, .int (nI i)), (0, .ref o), (1, .int (nI p)), (2, .int (nI q))] := by subst ei; exact lv_sub hl [0, 1, 2, 3] rfl
    have hi : i ≤ Z 8 p := by subst ei; omega
    have ha : ∀ j, j < i → Z 10 (p * 12 + j) ≠ q := by subst ei; intro j hj; omega
    clear ei
    obtain ⟨n17, hn17⟩ : ∃ n : Nat, Z 8 p - i < n := ⟨_, Nat.lt_succ_self _⟩
    induction n17 generalizing i ls with
    | zero => exact absurd hn17 (Nat.not_lt_zero _)
    | succ n17 ih17 =>
      refine lv_iload_n hx hb dX0_spotOf_17 rfl (lv_at hl 0 rfl) ?_
      refine lv_aload_n hx hb dX0_spotOf_18 rfl (lv_at hl 1 rfl) ?_
      refine c_g8 hx hb hts hown hK hP dX0_spotOf_19 ?_
      refine lv_iload_n hx hb dX0_spotOf_22 rfl (lv_at hl 2 rfl) ?_
      refine c_l8 (j := p) hx hb hK hP (by omega) dX0_spotOf_23 ?_
      refine x_icmp_ge (x := i) (y := Z 8 p) (tgt := 50) hx hb (by omega) (by omega) dX0_spotOf_24 (by decide) (fun c_24 => ?_) (fun c_24 => ?_)
      ·
        refine lv_iconst (v := -1) hx hb dX0_spotOf_50 (by decide) ?_
        refine W.iret (v := (-1)) hx hb hr (fun t9 ht9 hW9 => ⟨_, rfl, ?_, ht9⟩) (fun q h => by cases h) dX0_spotOf_51
        exact Or.inl ⟨rfl, spt_none (fun k hk => ha k (by omega))⟩
      ·
        have hro := hI.row (p := p) (i := i) (by omega) (by omega)
        refine lv_aload_n hx hb dX0_spotOf_27 rfl (lv_at hl 1 rfl) ?_
        refine c_g10 hx hb hts hown hK hP dX0_spotOf_28 ?_
        refine lv_iload_n hx hb dX0_spotOf_31 rfl (lv_at hl 2 rfl) ?_
        refine lv_bipush (v := nI 12) hx hb dX0_spotOf_32 (by decide) ?_
        refine x_imul hx hb dX0_spotOf_34 ?_
        refine lv_iload_n hx hb dX0_spotOf_35 rfl (lv_at hl 0 rfl) ?_
        refine x_iadd hx hb dX0_spotOf_36 ?_
        refine c_l10 (j := p * 12 + i) hx hb hK hP (by omega) dX0_spotOf_37 ?_
        refine lv_iload_n hx hb dX0_spotOf_38 rfl (lv_at hl 3 rfl) ?_
        refine x_icmp_ne (x := Z 10 (p * 12 + i)) (y := q) (tgt := 44) hx hb (by omega) (by omega) dX0_spotOf_39 (by decide) (fun c_39 => ?_) (fun c_39 => ?_)
        ·
          refine lv_iinc (v := nI (i + 1)) (lv' := [(3, .int (nI (i + 1))), (0, .ref o), (1, .int (nI p)), (2, .int (nI q))]) hx hb dX0_spotOf_44 hl (k := 0) rfl (x_inc1 _) (by decide) rfl (fun ls hl => ?_)
          refine lv_goto (tgt := 17) hx hb dX0_spotOf_47 (by decide) ?_
          exact ih17 ls (i + 1) (lv_sub hl [0, 1, 2, 3] rfl) (by omega) (by intro j hj; rcases Nat.lt_or_ge j i with h | h; exact ha j h; rw [show j = i by omega]; exact c_39) (by omega)
        ·
          refine lv_iload_n hx hb dX0_spotOf_42 rfl (lv_at hl 0 rfl) ?_
          refine W.iret (v := (nI i)) hx hb hr (fun t9 ht9 hW9 => ⟨_, rfl, ?_, ht9⟩) (fun q h => by cases h) dX0_spotOf_43
          exact Or.inr ⟨i, by omega, spt_at (by omega) ha c_39, c_39, rfl⟩

set_option maxHeartbeats 4000000 in
set_option maxRecDepth 100000 in
theorem ct_X0_spotFor (l : Launch) (dC : Nat → ClassId) (dI : Nat → Nat → Nat) (cy : ClassId) (o : Nat) (a : Nat → Nat) (Z X : Nat → Nat → Nat) (u : Int32) (q : Int32) (hI : Inv Z) : Met l yX0_spotFor (wS yX0_spotFor cX0_spotFor 3 (Option.some Jvm.ClassFile.FieldType.int)) (rmF 2 44) (va_Pc [.ref o, .int u, .int q] (cR dC dI cy o a Z X)) (vp_Si (fun r => (r = -1 ∧ ¬ own Z u q) ∨ (∃ x y i, x < Z 0 2 ∧ y < Z 0 0 ∧ u = nI x ∧ q = nI y ∧ i < Z 8 (Z 11 x) ∧ spt Z (Z 11 x) y = i ∧ Z 10 (Z 11 x * 12 + i) = y ∧ own Z u q ∧ r = nI i))) 0 0 (fun _ => False) := by
  refine Met.ofW (cc := cX0_spotFor) (maxL := 3) (ret := (Option.some Jvm.ClassFile.FieldType.int)) (by decide) rfl ?_
  intro pg en sv mi ag bw mt cd s₁ B hml hv
  obtain ⟨rfl, hP, hK⟩ := hv
  have hx := B.exec
  have hb := B.bytes
  have hr := B.returns
  have hts : ∀ w ∈ lw_ok, w.before _ sv = true := fun w hw => atoms_spec (ws := wS yX0_spotFor cX0_spotFor 3 (Option.some Jvm.ClassFile.FieldType.int)) B.pre w (List.mem_cons_of_mem _ hw)
  have hown : sv.vm.findClass RX0 = some mi.cls := findClass_of_methodNamed B.named
  have hlocks := B.notSynchronized
  have fx : CallFix pg mi cd cX0_spotFor 3 sv _ lw_ok RX0 := ⟨hx, hb, hml, hown, hts⟩
  have hl := lv_entry ([.ref o, .int u, .int q]) (n := 3) (Nat.le_of_ble_eq_true rfl)
  rw [lg_entry_eq]
  generalize (lg_sl ([.ref o, .int u, .int q]) ++ List.replicate (3 - (lg_sl ([.ref o, .int u, .int q])).length) Slot.unset).toArray = ls at hl ⊢
  replace hl : lv_has ls 3 [(0, .ref o), (1, .int u), (2, .int q)] := hl
  obtain ⟨b0, b1, b2⟩ := hI.bd
  refine lv_aload_n hx hb dX0_spotFor_0 rfl (lv_at hl 0 rfl) ?_
  refine lv_iload_n hx hb dX0_spotFor_1 rfl (lv_at hl 1 rfl) ?_
  refine r_Vi (As := [.int u]) (rest := []) fx (ct_X0_isPupil l dC dI cy o a Z X u hI) fyX0_isPupil tM_RX0_103 rfl rfl ⟨Nat.le_of_ble_eq_true rfl, Nat.le_of_ble_eq_true rfl⟩ (c_pre hK hP) rfl hl.1 rfl (Nat.le_of_ble_eq_true rfl) dX0_spotFor_2 ⟨Nat.le_of_ble_eq_true rfl, Nat.le_of_ble_eq_true rfl⟩ (fun r_2 hr_2 => ?_)
  rcases hr_2 with ⟨rfl, hr_2⟩ | ⟨rfl, hr_2⟩
  ·
    refine x_if_eq_T (tgt := 16) hx hb (by decide) dX0_spotFor_5 (by decide) ?_
    refine lv_iconst (v := -1) hx hb dX0_spotFor_16 (by decide) ?_
    refine W.iret (v := (-1)) hx hb hr (fun t9 ht9 hW9 => ⟨_, rfl, ?_, ht9⟩) (fun q h => by cases h) dX0_spotFor_17
    first | exact Or.inl ⟨rfl, fun h => hr_2 h.1⟩ | exact Or.inl ⟨rfl, fun h => hr_10 h.2.1⟩
  ·
    obtain ⟨x, -, hu, rfl⟩ := inR_of hr_2
    have hpu := hI.pu hu
    refine x_if_eq_F (tgt := 16) hx hb (by decide) dX0_spotFor_5 (by decide) ?_
    refine lv_aload_n hx hb dX0_spotFor_8 rfl (lv_at hl 0 rfl) ?_
    refine lv_iload_n hx hb dX0_spotFor_9 rfl (lv_at hl 2 rfl) ?_
    refine r_Vi (As := [.int q]) (rest := []) fx (ct_X0_isQuestion l dC dI cy o a Z X q hI) fyX0_isQuestion tM_RX0_68 rfl rfl ⟨Nat.le_of_ble_eq_true rfl, Nat.le_of_ble_eq_true rfl⟩ (c_pre hK hP) rfl hl.1 rfl (Nat.le_of_ble_eq_true rfl) dX0_spotFor_10 ⟨Nat.le_of_ble_eq_true rfl, Nat.le_of_ble_eq_true rfl⟩ (fun r_10 hr_10 => ?_)
    rcases hr_10 with ⟨rfl, hr_10⟩ | ⟨rfl, hr_10⟩
    ·
      refine x_if_ne_F (tgt := 18) hx hb (by decide) dX0_spotFor_13 (by decide) ?_
      refine lv_iconst (v := -1) hx hb dX0_spotFor_16 (by decide) ?_
      refine W.iret (v := (-1)) hx hb hr (fun t9 ht9 hW9 => ⟨_, rfl, ?_, ht9⟩) (fun q h => by cases h) dX0_spotFor_17
      first | exact Or.inl ⟨rfl, fun h => hr_2 h.1⟩ | exact Or.inl ⟨rfl, fun h => hr_10 h.2.1⟩
    ·
      obtain ⟨y, -, hq, rfl⟩ := inR_of hr_10
      refine x_if_ne_T (tgt := 18) hx hb (by decide) dX0_spotFor_13 (by decide) ?_
      refine lv_aload_n hx hb dX0_spotFor_18 rfl (lv_at hl 0 rfl) ?_
      refine lv_aload_n hx hb dX0_spotFor_19 rfl (lv_at hl 0 rfl) ?_
      refine c_g11 hx hb hts hown hK hP dX0_spotFor_20 ?_
      refine lv_iload_n hx hb dX0_spotFor_23 rfl (lv_at hl 1 rfl) ?_
      refine c_l11 (j := x) hx hb hK hP (by omega) dX0_spotFor_24 ?_
      refine lv_iload_n hx hb dX0_spotFor_25 rfl (lv_at hl 2 rfl) ?_
      refine r_Vi (As := [.int (nI (Z 11 x)), .int (nI y)]) (rest := []) fx (ct_X0_spotOf l dC dI cy o a Z X (Z 11 x) y hI (by first | assumption | omega) (by first | assumption | omega)) fyX0_spotOf tM_RX0_178 rfl rfl ⟨Nat.le_of_ble_eq_true rfl, Nat.le_of_ble_eq_true rfl⟩ (c_pre hK hP) rfl hl.1 rfl (Nat.le_of_ble_eq_true rfl) dX0_spotFor_26 ⟨Nat.le_of_ble_eq_true rfl, Nat.le_of_ble_eq_true rfl⟩ (fun r_26 hr_26 => ?_)
      rcases hr_26 with ⟨rfl, hs_26⟩ | ⟨i_26, hi_26, hs_26, hq_26, rfl⟩
      ·
        refine W.iret (v := (-1)) hx hb hr (fun t9 ht9 hW9 => ⟨_, rfl, ?_, ht9⟩) (fun q h => by cases h) dX0_spotFor_29
        first | exact Or.inl ⟨rfl, fun h => by have h2 := (own_nI hI hu hq).mp h; omega⟩ | exact Or.inr ⟨x, y, _, hu, hq, rfl, rfl, by assumption, by assumption, by assumption, (own_nI hI hu hq).mpr (by omega), rfl⟩
      ·
        refine W.iret (v := (nI i_26)) hx hb hr (fun t9 ht9 hW9 => ⟨_, rfl, ?_, ht9⟩) (fun q h => by cases h) dX0_spotFor_29
        first | exact Or.inl ⟨rfl, fun h => by have h2 := (own_nI hI hu hq).mp h; omega⟩ | exact Or.inr ⟨x, y, _, hu, hq, rfl, rfl, by assumption, by assumption, by assumption, (own_nI hI hu hq).mpr (by omega), rfl⟩

set_option maxHeartbeats 4000000 in
set_option maxRecDepth 100000 in
theorem ct_X0_worth (l : Launch) (dC : Nat → ClassId) (dI : Nat → Nat → Nat) (cy : ClassId) (o : Nat) (a : Nat → Nat) (Z X : Nat → Nat → Nat) (q : Nat) (v : Nat) (hI : Inv Z) (hq : q < Z 0 0) (hv : okA Z q v) : Met l yX0_worth (wS yX0_worth cX0_worth 3 (Option.some Jvm.ClassFile.FieldType.int)) (rmF 1 21) (va_Pc [.ref o, .int (nI q), .int (nI v)] (cR dC dI cy o a Z X)) (vp_Si (fun r => r = nI (wor Z q v))) 0 0 (fun _ => False) := by
  refine Met.ofW (cc := cX0_worth) (maxL := 3) (ret := (Option.some Jvm.ClassFile.FieldType.int)) (by decide) rfl ?_
  intro pg en sv mi ag bw mt cd s₁ B hml hv
  obtain ⟨rfl, hP, hK⟩ := hv
  have hx := B.exec
  have hb := B.bytes
  have hr := B.returns
  have hts : ∀ w ∈ lw_ok, w.before _ sv = true := fun w hw => atoms_spec (ws := wS yX0_worth cX0_worth 3 (Option.some Jvm.ClassFile.FieldType.int)) B.pre w (List.mem_cons_of_mem _ hw)
  have hown : sv.vm.findClass RX0 = some mi.cls := findClass_of_methodNamed B.named
  have hlocks := B.notSynchronized
  have fx : CallFix pg mi cd cX0_worth 3 sv _ lw_ok RX0 := ⟨hx, hb, hml, hown, hts⟩
  have hl := lv_entry ([.ref o, .int (nI q), .int (nI v)]) (n := 3) (Nat.le_of_ble_eq_true rfl)
  rw [lg_entry_eq]
  generalize (lg_sl ([.ref o, .int (nI q), .int (nI v)]) ++ List.replicate (3 - (lg_sl ([.ref o, .int (nI q), .int (nI v)])).length) Slot.unset).toArray = ls at hl ⊢
  replace hl : lv_has ls 3 [(0, .ref o), (1, .int (nI q)), (2, .int (nI v))] := hl
  obtain ⟨b0, b1, b2⟩ := hI.bd
  have hqq := hI.q hq
  have htt := topA_le hI hq
  have hvt : v ≤ topA Z q := hv
  refine lv_aload_n hx hb dX0_worth_0 rfl (lv_at hl 0 rfl) ?_
  refine c_g5 hx hb hts hown hK hP dX0_worth_1 ?_
  refine lv_iload_n hx hb dX0_worth_4 rfl (lv_at hl 1 rfl) ?_
  refine c_l5 (j := q) hx hb hK hP (by omega) dX0_worth_5 ?_
  refine lv_iconst (v := nI 1) hx hb dX0_worth_6 (by decide) ?_
  refine x_icmp_ne (x := Z 5 q) (y := 1) (tgt := 34) hx hb (by omega) (by omega) dX0_worth_7 (by decide) (fun c_7 => ?_) (fun c_7 => ?_)
  ·
    refine lv_aload_n hx hb dX0_worth_34 rfl (lv_at hl 0 rfl) ?_
    refine c_g5 hx hb hts hown hK hP dX0_worth_35 ?_
    refine lv_iload_n hx hb dX0_worth_38 rfl (lv_at hl 1 rfl) ?_
    refine c_l5 (j := q) hx hb hK hP (by omega) dX0_worth_39 ?_
    refine lv_iconst (v := nI 2) hx hb dX0_worth_40 (by decide) ?_
    refine x_icmp_ne (x := Z 5 q) (y := 2) (tgt := 51) hx hb (by omega) (by omega) dX0_worth_41 (by decide) (fun c_41 => ?_) (fun c_41 => ?_)
    ·
      refine lv_iload_n hx hb dX0_worth_51 rfl (lv_at hl 2 rfl) ?_
      refine W.iret (v := (nI v)) hx hb hr (fun t9 ht9 hW9 => ⟨_, rfl, ?_, ht9⟩) (fun q h => by cases h) dX0_worth_52
      first | (rw [wor, if_neg c_7, if_neg c_41]) | (rw [wor, if_neg c_7, if_pos c_41, steps_lim hqq.2.2.1 hst])
    ·
      have hst : v < 2 ^ Z 6 q := by
        have h := hvt
        rw [topA, if_neg c_7, if_pos c_41] at h
        have := Nat.one_le_two_pow (n := Z 6 q)
        omega
      refine lv_iload_n hx hb dX0_worth_44 rfl (lv_at hl 2 rfl) ?_
      refine r_Si (As := [.int (nI v)]) (rest := []) fx (ct_X0_stepsInRow l v (by first | assumption | omega)) fyX0_stepsInRow tM_RX0_206 rfl rfl ⟨Nat.le_of_ble_eq_true rfl, Nat.le_of_ble_eq_true rfl⟩ rfl hl.1 rfl (Nat.le_of_ble_eq_true rfl) dX0_worth_45 ⟨Nat.le_of_ble_eq_true rfl, Nat.le_of_ble_eq_true rfl⟩ (fun r_45 hr_45 => ?_)
      subst hr_45
      refine lv_goto (tgt := 52) hx hb dX0_worth_48 (by decide) ?_
      refine W.iret (v := (nI (fa_first (fun i => !(v.testBit i)) 10))) hx hb hr (fun t9 ht9 hW9 => ⟨_, rfl, ?_, ht9⟩) (fun q h => by cases h) dX0_worth_52
      first | (rw [wor, if_neg c_7, if_neg c_41]) | (rw [wor, if_neg c_7, if_pos c_41, steps_lim hqq.2.2.1 hst])
  ·
    have hv7 : v ≤ 7 := by have h := hvt; rw [topA, if_pos c_7] at h; exact h
    refine lv_aload_n hx hb dX0_worth_10 rfl (lv_at hl 0 rfl) ?_
    refine c_g7 hx hb hts hown hK hP dX0_worth_11 ?_
    refine lv_iload_n hx hb dX0_worth_14 rfl (lv_at hl 1 rfl) ?_
    refine c_l7 (j := q) hx hb hK hP (by omega) dX0_worth_15 ?_
    refine lv_iload_n hx hb dX0_worth_16 rfl (lv_at hl 2 rfl) ?_
    refine r_Si (As := [.int (nI (Z 7 q)), .int (nI v)]) (rest := []) fx (ct_X0_isIn l (Z 7 q) v (by first | assumption | omega) (by first | assumption | omega)) fyX0_isIn tM_RX0_74 rfl rfl ⟨Nat.le_of_ble_eq_true rfl, Nat.le_of_ble_eq_true rfl⟩ rfl hl.1 rfl (Nat.le_of_ble_eq_true rfl) dX0_worth_17 ⟨Nat.le_of_ble_eq_true rfl, Nat.le_of_ble_eq_true rfl⟩ (fun r_17 hr_17 => ?_)
    rcases hr_17 with ⟨rfl, hr_17⟩ | ⟨rfl, hr_17⟩
    ·
      refine x_if_eq_T (tgt := 32) hx hb (by decide) dX0_worth_20 (by decide) ?_
      refine lv_iconst (v := nI 0) hx hb dX0_worth_32 (by decide) ?_
      refine W.iret (v := (nI 0)) hx hb hr (fun t9 ht9 hW9 => ⟨_, rfl, ?_, ht9⟩) (fun q h => by cases h) dX0_worth_33
      first | (rw [wor, if_pos c_7, if_pos hr_17]) | (rw [wor, if_pos c_7, if_neg hr_17])
    ·
      refine x_if_eq_F (tgt := 32) hx hb (by decide) dX0_worth_20 (by decide) ?_
      refine lv_aload_n hx hb dX0_worth_23 rfl (lv_at hl 0 rfl) ?_
      refine c_g6 hx hb hts hown hK hP dX0_worth_24 ?_
      refine lv_iload_n hx hb dX0_worth_27 rfl (lv_at hl 1 rfl) ?_
      refine c_l6 (j := q) hx hb hK hP (by omega) dX0_worth_28 ?_
      refine lv_goto (tgt := 33) hx hb dX0_worth_29 (by decide) ?_
      refine W.iret (v := (nI (Z 6 q))) hx hb hr (fun t9 ht9 hW9 => ⟨_, rfl, ?_, ht9⟩) (fun q h => by cases h) dX0_worth_33
      first | (rw [wor, if_pos c_7, if_pos hr_17]) | (rw [wor, if_pos c_7, if_neg hr_17])

set_option maxHeartbeats 4000000 in
set_option maxRecDepth 100000 in
theorem ct_X0_markAt (l : Launch) (dC : Nat → ClassId) (dI : Nat → Nat → Nat) (cy : ClassId) (o : Nat) (a : Nat → Nat) (Z X : Nat → Nat → Nat) (u : Nat) (i : Nat) (hI : Inv Z) (hu : u < Z 0 2) (hi : i < Z 8 (Z 11 u)) : Met l yX0_markAt (wS yX0_markAt cX0_markAt 4 (Option.some Jvm.ClassFile.FieldType.int)) (rmF 2 43) (va_Pc [.ref o, .int (nI u), .int (nI i)] (cR dC dI cy o a Z X)) (vp_Si (fun r => r = nI (mrk Z u i))) 0 0 (fun _ => False) := by
  refine Met.ofW (cc := cX0_markAt) (maxL := 4) (ret := (Option.some Jvm.ClassFile.FieldType.int)) (by decide) rfl ?_
  intro pg en sv mi ag bw mt cd s₁ B hml hv
  obtain ⟨rfl, hP, hK⟩ := hv
  have hx := B.exec
  have hb := B.bytes
  have hr := B.returns
  have hts : ∀ w ∈ lw_ok, w.before _ sv = true := fun w hw => atoms_spec (ws := wS yX0_markAt cX0_markAt 4 (Option.some Jvm.ClassFile.FieldType.int)) B.pre w (List.mem_cons_of_mem _ hw)
  have hown : sv.vm.findClass RX0 = some mi.cls := findClass_of_methodNamed B.named
  have hlocks := B.notSynchronized
  have fx : CallFix pg mi cd cX0_markAt 4 sv _ lw_ok RX0 := ⟨hx, hb, hml, hown, hts⟩
  have hl := lv_entry ([.ref o, .int (nI u), .int (nI i)]) (n := 4) (Nat.le_of_ble_eq_true rfl)
  rw [lg_entry_eq]
  generalize (lg_sl ([.ref o, .int (nI u), .int (nI i)]) ++ List.replicate (4 - (lg_sl ([.ref o, .int (nI u), .int (nI i)])).length) Slot.unset).toArray = ls at hl ⊢
  replace hl : lv_has ls 4 [(0, .ref o), (1, .int (nI u)), (2, .int (nI i))] := hl
  obtain ⟨b0, b1, b2⟩ := hI.bd
  have hpu := hI.pu hu
  have bs := hI.sz (p := Z 11 u) (by omega)
  have hro := hI.row (p := Z 11 u) (by omega) hi
  refine lv_aload_n hx hb dX0_markAt_0 rfl (lv_at hl 0 rfl) ?_
  refine c_g13 hx hb hts hown hK hP dX0_markAt_1 ?_
  refine lv_iload_n hx hb dX0_markAt_4 rfl (lv_at hl 1 rfl) ?_
  refine lv_bipush (v := nI 12) hx hb dX0_markAt_5 (by decide) ?_
  refine x_imul hx hb dX0_markAt_7 ?_
  refine lv_iload_n hx hb dX0_markAt_8 rfl (lv_at hl 2 rfl) ?_
  refine x_iadd hx hb dX0_markAt_9 ?_
  refine c_l13 (j := u * 12 + i) hx hb hK hP (by omega) dX0_markAt_10 ?_
  refine x_gap (fun hg_10 => ?_) (fun kg_10 hg_10 => ?_)
  ·
    refine lv_istore_n (lv' := [(3, .int (-1)), (0, .ref o), (1, .int (nI u)), (2, .int (nI i))]) hx hb dX0_markAt_11 rfl hl (by decide) rfl (fun ls hl => ?_)
    refine lv_iload_n hx hb dX0_markAt_12 rfl (lv_at hl 0 rfl) ?_
    refine lv_iconst (v := -1) hx hb dX0_markAt_13 (by decide) ?_
    refine x_icmp_ne_F (tgt := 21) hx hb (by decide) dX0_markAt_14 (by decide) ?_
    refine lv_iconst (v := nI 0) hx hb dX0_markAt_17 (by decide) ?_
    refine lv_goto (tgt := 42) hx hb dX0_markAt_18 (by decide) ?_
    refine W.iret (v := (nI 0)) hx hb hr (fun t9 ht9 hW9 => ⟨_, rfl, ?_, ht9⟩) (fun q h => by cases h) dX0_markAt_42
    first | (rw [mrk, if_pos hg_10]) | (rw [mrk, if_neg (by omega), hg_10, Nat.add_sub_cancel])
  ·
    have hok := okA_of hI hu hi hg_10
    have hkt : kg_10 ≤ 1023 := Nat.le_trans hok (topA_le hI hro)
    refine lv_istore_n (lv' := [(3, .int (nI kg_10)), (0, .ref o), (1, .int (nI u)), (2, .int (nI i))]) hx hb dX0_markAt_11 rfl hl (by decide) rfl (fun ls hl => ?_)
    refine lv_iload_n hx hb dX0_markAt_12 rfl (lv_at hl 0 rfl) ?_
    refine lv_iconst (v := -1) hx hb dX0_markAt_13 (by decide) ?_
    refine x_icmp_ne_T (tgt := 21) hx hb (nI_ne_m1 (by omega)) dX0_markAt_14 (by decide) ?_
    refine lv_aload_n hx hb dX0_markAt_21 rfl (lv_at hl 1 rfl) ?_
    refine lv_aload_n hx hb dX0_markAt_22 rfl (lv_at hl 1 rfl) ?_
    refine c_g10 hx hb hts hown hK hP dX0_markAt_23 ?_
    refine lv_aload_n hx hb dX0_markAt_26 rfl (lv_at hl 1 rfl) ?_
    refine c_g11 hx hb hts hown hK hP dX0_markAt_27 ?_
    refine lv_iload_n hx hb dX0_markAt_30 rfl (lv_at hl 2 rfl) ?_
    refine c_l11 (j := u) hx hb hK hP (by omega) dX0_markAt_31 ?_
    refine lv_bipush (v := nI 12) hx hb dX0_markAt_32 (by decide) ?_
    refine x_imul hx hb dX0_markAt_34 ?_
    refine lv_iload_n hx hb dX0_markAt_35 rfl (lv_at hl 3 rfl) ?_
    refine x_iadd hx hb dX0_markAt_36 ?_
    refine c_l10 (j := ((Z 11 u) * 12) + i) hx hb hK hP (by omega) dX0_markAt_37 ?_
    refine lv_iload_n hx hb dX0_markAt_38 rfl (lv_at hl 0 rfl) ?_
    refine r_Vi (As := [.int (nI (Z 10 (((Z 11 u) * 12) + i))), .int (nI kg_10)]) (rest := []) fx (ct_X0_worth l dC dI cy o a Z X (Z 10 (((Z 11 u) * 12) + i)) kg_10 hI (by first | assumption | omega) (by first | assumption | omega)) fyX0_worth tM_RX0_100 rfl rfl ⟨Nat.le_of_ble_eq_true rfl, Nat.le_of_ble_eq_true rfl⟩ (c_pre hK hP) rfl hl.1 rfl (Nat.le_of_ble_eq_true rfl) dX0_markAt_39 ⟨Nat.le_of_ble_eq_true rfl, Nat.le_of_ble_eq_true rfl⟩ (fun r_39 hr_39 => ?_)
    subst hr_39
    refine W.iret (v := (nI (wor Z (Z 10 (((Z 11 u) * 12) + i)) kg_10))) hx hb hr (fun t9 ht9 hW9 => ⟨_, rfl, ?_, ht9⟩) (fun q h => by cases h) dX0_markAt_42
    first | (rw [mrk, if_pos hg_10]) | (rw [mrk, if_neg (by omega), hg_10, Nat.add_sub_cancel])

set_option maxHeartbeats 4000000 in
set_option maxRecDepth 100000 in
theorem ct_X0_hasComeTo (l : Launch) (dC : Nat → ClassId) (dI : Nat → Nat → Nat) (cy : ClassId) (o : Nat) (a : Nat → Nat) (Z X : Nat → Nat → Nat) (u : Nat) (i : Nat) (hI : Inv Z) (hu : u < Z 0 2) (hi : i ≤ Z 8 (Z 11 u)) : Met l yX0_hasComeTo (wS yX0_hasComeTo cX0_hasComeTo 5 (Option.some Jvm.ClassFile.FieldType.boolean)) (rmF 0 0) (va_Pc [.ref o, .int (nI u), .int (nI i)] (cR dC dI cy o a Z X)) (vp_Si (fun r => isB r (cam Z u i))) 0 0 (fun _ => False) := by
  refine Met.ofW (cc := cX0_hasComeTo) (maxL := 5) (ret := (Option.some Jvm.ClassFile.FieldType.boolean)) (by decide) rfl ?_
  intro pg en sv mi ag bw mt cd s₁ B hml hv
  obtain ⟨rfl, hP, hK⟩ := hv
  have hx := B.exec
  have hb := B.bytes
  have hr := B.returns
  have hts : ∀ w ∈ lw_ok, w.before _ sv = true := fun w hw => atoms_spec (ws := wS yX0_hasComeTo cX0_hasComeTo 5 (Option.some Jvm.ClassFile.FieldType.boolean)) B.pre w (List.mem_cons_of_mem _ hw)
  have hown : sv.vm.findClass RX0 = some mi.cls := findClass_of_methodNamed B.named
  have hlocks := B.notSynchronized
  have fx : CallFix pg mi cd cX0_hasComeTo 5 sv _ lw_ok RX0 := ⟨hx, hb, hml, hown, hts⟩
  have hl := lv_entry ([.ref o, .int (nI u), .int (nI i)]) (n := 5) (Nat.le_of_ble_eq_true rfl)
  rw [lg_entry_eq]
  generalize (lg_sl ([.ref o, .int (nI u), .int (nI i)]) ++ List.replicate (5 - (lg_sl ([.ref o, .int (nI u), .int (nI i)])).length) Slot.unset).toArray = ls at hl ⊢
  replace hl : lv_has ls 5 [(0, .ref o), (1, .int (nI u)), (2, .int (nI i))] := hl
  obtain ⟨b0, b1, b2⟩ := hI.bd
  have hpu := hI.pu hu
  have bs := hI.sz (p := Z 11 u) (by omega)
  refine lv_aload_n hx hb dX0_hasComeTo_0 rfl (lv_at hl 0 rfl) ?_
  refine c_g8 hx hb hts hown hK hP dX0_hasComeTo_1 ?_
  refine lv_aload_n hx hb dX0_hasComeTo_4 rfl (lv_at hl 0 rfl) ?_
  refine c_g11 hx hb hts hown hK hP dX0_hasComeTo_5 ?_
  refine lv_iload_n hx hb dX0_hasComeTo_8 rfl (lv_at hl 1 rfl) ?_
  refine c_l11 (j := u) hx hb hK hP (by omega) dX0_hasComeTo_9 ?_
  refine c_l8 (j := Z 11 u) hx hb hK hP (by omega) dX0_hasComeTo_10 ?_
  refine lv_istore_n (lv' := [(3, .int (nI (Z 8 (Z 11 u)))), (0, .ref o), (1, .int (nI u)), (2, .int (nI i))]) hx hb dX0_hasComeTo_11 rfl hl (by decide) rfl (fun ls hl => ?_)
  refine lv_iload_n hx hb dX0_hasComeTo_12 rfl (lv_at hl 3 rfl) ?_
  refine lv_istore (lv' := [(4, .int (nI i)), (3, .int (nI (Z 8 (Z 11 u)))), (0, .ref o), (1, .int (nI u)), (2, .int (nI i))]) hx hb dX0_hasComeTo_13 hl (by decide) rfl (fun ls hl => ?_)
  obtain ⟨j, ej⟩ : ∃ j : Nat, j = i := ⟨_, rfl⟩
  replace hl : lv_has ls 5 [(4, .int (nI j)), (3, .int (nI (Z 8 (Z 11 u)))), (0, .ref o), (1, .int (nI u)), (2, .int (nI i))] := by subst ej; exact lv_sub hl [0, 1, 2, 3, 4] rfl
  have hj : i ≤ j ∧ j ≤ Z 8 (Z 11 u) := by subst ej; omega
  have ha : ∀ k, i ≤ k → k < j → Z 13 (u * 12 + k) = 0 := by subst ej; intro k h1 h2; omega
  clear ej
  obtain ⟨n15, hn15⟩ : ∃ n : Nat, Z 8 (Z 11 u) - j < n := ⟨_, Nat.lt_succ_self _⟩
  induction n15 generalizing j ls with
  | zero => exact absurd hn15 (Nat.not_lt_zero _)
  | succ n15 ih15 =>
    refine lv_iload hx hb dX0_hasComeTo_15 (lv_at hl 0 rfl) ?_
    refine lv_iload_n hx hb dX0_hasComeTo_17 rfl (lv_at hl 1 rfl) ?_
    refine x_icmp_ge (x := j) (y := Z 8 (Z 11 u)) (tgt := 45) hx hb (by omega) (by omega) dX0_hasComeTo_18 (by decide) (fun c_18 => ?_) (fun c_18 => ?_)
    ·
      refine lv_iconst (v := nI 0) hx hb dX0_hasComeTo_45 (by decide) ?_
      refine W.zret (v := (nI 0)) hx hb hr (by decide) (fun t9 ht9 hW9 => ⟨_, rfl, ?_, ht9⟩) (fun q h => by cases h) dX0_hasComeTo_46
      first | exact Or.inr ⟨rfl, j, by omega, by omega, by omega⟩ | exact Or.inl ⟨rfl, fun ⟨k, h1, h2, h3⟩ => h3 (ha k h1 (by omega))⟩
    ·
      refine lv_aload_n hx hb dX0_hasComeTo_21 rfl (lv_at hl 2 rfl) ?_
      refine c_g13 hx hb hts hown hK hP dX0_hasComeTo_22 ?_
      refine lv_iload_n hx hb dX0_hasComeTo_25 rfl (lv_at hl 3 rfl) ?_
      refine lv_bipush (v := nI 12) hx hb dX0_hasComeTo_26 (by decide) ?_
      refine x_imul hx hb dX0_hasComeTo_28 ?_
      refine lv_iload hx hb dX0_hasComeTo_29 (lv_at hl 0 rfl) ?_
      refine x_iadd hx hb dX0_hasComeTo_31 ?_
      refine c_l13 (j := u * 12 + j) hx hb hK hP (by omega) dX0_hasComeTo_32 ?_
      refine x_gap (fun hg_32 => ?_) (fun kg_32 hg_32 => ?_)
      ·
        refine lv_iconst (v := -1) hx hb dX0_hasComeTo_33 (by decide) ?_
        refine x_icmp_eq_T (tgt := 39) hx hb (by decide) dX0_hasComeTo_34 (by decide) ?_
        refine lv_iinc (v := nI (j + 1)) (lv' := [(4, .int (nI (j + 1))), (3, .int (nI (Z 8 (Z 11 u)))), (0, .ref o), (1, .int (nI u)), (2, .int (nI i))]) hx hb dX0_hasComeTo_39 hl (k := 0) rfl (x_inc1 _) (by decide) rfl (fun ls hl => ?_)
        refine lv_goto (tgt := 15) hx hb dX0_hasComeTo_42 (by decide) ?_
        exact ih15 ls (j + 1) (lv_sub hl [0, 1, 2, 3, 4] rfl) (by omega) (by intro k h1 h2; rcases Nat.lt_or_ge k j with h | h; exact ha k h1 h; rw [show k = j by omega]; exact hg_32) (by omega)
      ·
        have hok := okA_of hI hu (show j < Z 8 (Z 11 u) by omega) hg_32
        have hkt : kg_32 ≤ 1023 := Nat.le_trans hok (topA_le hI (hI.row (p := Z 11 u) (by omega) (by omega)))
        refine lv_iconst (v := -1) hx hb dX0_hasComeTo_33 (by decide) ?_
        refine x_icmp_eq_F (tgt := 39) hx hb (nI_ne_m1 (by omega)) dX0_hasComeTo_34 (by decide) ?_
        refine lv_iconst (v := nI 1) hx hb dX0_hasComeTo_37 (by decide) ?_
        refine W.zret (v := (nI 1)) hx hb hr (by decide) (fun t9 ht9 hW9 => ⟨_, rfl, ?_, ht9⟩) (fun q h => by cases h) dX0_hasComeTo_38
        first | exact Or.inr ⟨rfl, j, by omega, by omega, by omega⟩ | exact Or.inl ⟨rfl, fun ⟨k, h1, h2, h3⟩ => h3 (ha k h1 (by omega))⟩

set_option maxHeartbeats 4000000 in
set_option maxRecDepth 100000 in
theorem ct_X0_spotComeTo (l : Launch) (dC : Nat → ClassId) (dI : Nat → Nat → Nat) (cy : ClassId) (o : Nat) (a : Nat → Nat) (Z X : Nat → Nat → Nat) (u : Nat) (q : Nat) (hI : Inv Z) (hu : u < Z 0 2) (hq : q < Z 0 0) : Met l yX0_spotComeTo (wS yX0_spotComeTo cX0_spotComeTo 4 (Option.some Jvm.ClassFile.FieldType.int)) (rmF 3 66) (va_Pc [.ref o, .int (nI u), .int (nI q)] (cR dC dI cy o a Z X)) (vp_Si (fun r => (r = -1 ∧ ¬ (spt Z (Z 11 u) q < Z 8 (Z 11 u) ∧ cam Z u (spt Z (Z 11 u) q))) ∨ (∃ i, i < Z 8 (Z 11 u) ∧ spt Z (Z 11 u) q = i ∧ Z 10 (Z 11 u * 12 + i) = q ∧ cam Z u i ∧ r = nI i))) 0 0 (fun _ => False) := by
  refine Met.ofW (cc := cX0_spotComeTo) (maxL := 4) (ret := (Option.some Jvm.ClassFile.FieldType.int)) (by decide) rfl ?_
  intro pg en sv mi ag bw mt cd s₁ B hml hv
  obtain ⟨rfl, hP, hK⟩ := hv
  have hx := B.exec
  have hb := B.bytes
  have hr := B.returns
  have hts : ∀ w ∈ lw_ok, w.before _ sv = true := fun w hw => atoms_spec (ws := wS yX0_spotComeTo cX0_spotComeTo 4 (Option.some Jvm.ClassFile.FieldType.int)) B.pre w (List.mem_cons_of_mem _ hw)
  have hown : sv.vm.findClass RX0 = some mi.cls := findClass_of_methodNamed B.named
  have hlocks := B.notSynchronized
  have fx : CallFix pg mi cd cX0_spotComeTo 4 sv _ lw_ok RX0 := ⟨hx, hb, hml, hown, hts⟩
  have hl := lv_entry ([.ref o, .int (nI u), .int (nI q)]) (n := 4) (Nat.le_of_ble_eq_true rfl)
  rw [lg_entry_eq]
  generalize (lg_sl ([.ref o, .int (nI u), .int (nI q)]) ++ List.replicate (4 - (lg_sl ([.ref o, .int (nI u), .int (nI q)])).length) Slot.unset).toArray = ls at hl ⊢
  replace hl : lv_has ls 4 [(0, .ref o), (1, .int (nI u)), (2, .int (nI q))] := hl
  obtain ⟨b0, b1, b2⟩ := hI.bd
  have hpu := hI.pu hu
  have bs := hI.sz (p := Z 11 u) (by omega)
  refine lv_aload_n hx hb dX0_spotComeTo_0 rfl (lv_at hl 0 rfl) ?_
  refine lv_iload_n hx hb dX0_spotComeTo_1 rfl (lv_at hl 1 rfl) ?_
  refine lv_iload_n hx hb dX0_spotComeTo_2 rfl (lv_at hl 2 rfl) ?_
  refine r_Vi (As := [.int (nI u), .int (nI q)]) (rest := []) fx (ct_X0_spotFor l dC dI cy o a Z X ((nI u)) ((nI q)) hI) fyX0_spotFor tM_RX0_93 rfl rfl ⟨Nat.le_of_ble_eq_true rfl, Nat.le_of_ble_eq_true rfl⟩ (c_pre hK hP) rfl hl.1 rfl (Nat.le_of_ble_eq_true rfl) dX0_spotComeTo_3 ⟨Nat.le_of_ble_eq_true rfl, Nat.le_of_ble_eq_true rfl⟩ (fun r_3 hr_3 => ?_)
  rcases hr_3 with ⟨rfl, ho_3⟩ | ⟨x_3, y_3, i_3, hx_3, hy_3, eu_3, eq_3, hi_3, hs_3, hr_3, ho_3, rfl⟩
  ·
    have hno : ¬ spt Z (Z 11 u) q < Z 8 (Z 11 u) := fun h => ho_3 ((own_nI hI hu hq).mpr h)
    refine lv_istore_n (lv' := [(3, .int (-1)), (0, .ref o), (1, .int (nI u)), (2, .int (nI q))]) hx hb dX0_spotComeTo_6 rfl hl (by decide) rfl (fun ls hl => ?_)
    refine lv_iload_n hx hb dX0_spotComeTo_7 rfl (lv_at hl 0 rfl) ?_
    refine lv_iconst (v := -1) hx hb dX0_spotComeTo_8 (by decide) ?_
    refine x_icmp_eq_T (tgt := 25) hx hb (by decide) dX0_spotComeTo_9 (by decide) ?_
    refine lv_iconst (v := -1) hx hb dX0_spotComeTo_25 (by decide) ?_
    refine W.iret (v := (-1)) hx hb hr (fun t9 ht9 hW9 => ⟨_, rfl, ?_, ht9⟩) (fun q h => by cases h) dX0_spotComeTo_26
    first | exact Or.inl ⟨rfl, fun h => hno h.1⟩ | exact Or.inr ⟨_, hi_3, hs_3, hr_3, hr_15, rfl⟩ | exact Or.inl ⟨rfl, fun h => by rw [hs_3] at h; exact hr_15 h.2⟩
  ·
    have e1 := (nI_eq (by omega) (by omega)).mp eu_3
    have e2 := (nI_eq (by omega) (by omega)).mp eq_3
    subst e1 e2
    refine lv_istore_n (lv' := [(3, .int (nI i_3)), (0, .ref o), (1, .int (nI u)), (2, .int (nI q))]) hx hb dX0_spotComeTo_6 rfl hl (by decide) rfl (fun ls hl => ?_)
    refine lv_iload_n hx hb dX0_spotComeTo_7 rfl (lv_at hl 0 rfl) ?_
    refine lv_iconst (v := -1) hx hb dX0_spotComeTo_8 (by decide) ?_
    refine x_icmp_eq_F (tgt := 25) hx hb (nI_ne_m1 (by omega)) dX0_spotComeTo_9 (by decide) ?_
    refine lv_aload_n hx hb dX0_spotComeTo_12 rfl (lv_at hl 1 rfl) ?_
    refine lv_iload_n hx hb dX0_spotComeTo_13 rfl (lv_at hl 2 rfl) ?_
    refine lv_iload_n hx hb dX0_spotComeTo_14 rfl (lv_at hl 0 rfl) ?_
    refine r_Vi (As := [.int (nI u), .int (nI i_3)]) (rest := []) fx (ct_X0_hasComeTo l dC dI cy o a Z X u i_3 hI (by first | assumption | omega) (by first | assumption | omega)) fyX0_hasComeTo tM_RX0_114 rfl rfl ⟨Nat.le_of_ble_eq_true rfl, Nat.le_of_ble_eq_true rfl⟩ (c_pre hK hP) rfl hl.1 rfl (Nat.le_of_ble_eq_true rfl) dX0_spotComeTo_15 ⟨Nat.le_of_ble_eq_true rfl, Nat.le_of_ble_eq_true rfl⟩ (fun r_15 hr_15 => ?_)
    rcases hr_15 with ⟨rfl, hr_15⟩ | ⟨rfl, hr_15⟩
    ·
      refine x_if_eq_T (tgt := 25) hx hb (by decide) dX0_spotComeTo_18 (by decide) ?_
      refine lv_iconst (v := -1) hx hb dX0_spotComeTo_25 (by decide) ?_
      refine W.iret (v := (-1)) hx hb hr (fun t9 ht9 hW9 => ⟨_, rfl, ?_, ht9⟩) (fun q h => by cases h) dX0_spotComeTo_26
      first | exact Or.inl ⟨rfl, fun h => hno h.1⟩ | exact Or.inr ⟨_, hi_3, hs_3, hr_3, hr_15, rfl⟩ | exact Or.inl ⟨rfl, fun h => by rw [hs_3] at h; exact hr_15 h.2⟩
    ·
      refine x_if_eq_F (tgt := 25) hx hb (by decide) dX0_spotComeTo_18 (by decide) ?_
      refine lv_iload_n hx hb dX0_spotComeTo_21 rfl (lv_at hl 0 rfl) ?_
      refine lv_goto (tgt := 26) hx hb dX0_spotComeTo_22 (by decide) ?_
      refine W.iret (v := (nI i_3)) hx hb hr (fun t9 ht9 hW9 => ⟨_, rfl, ?_, ht9⟩) (fun q h => by cases h) dX0_spotComeTo_26
      first | exact Or.inl ⟨rfl, fun h => hno h.1⟩ | exact Or.inr ⟨_, hi_3, hs_3, hr_3, hr_15, rfl⟩ | exact Or.inl ⟨rfl, fun h => by rw [hs_3] at h; exact hr_15 h.2⟩

set_option maxHeartbeats 4000000 in
set_option maxRecDepth 100000 in
theorem ct_X0_sumOver (l : Launch) (dC : Nat → ClassId) (dI : Nat → Nat → Nat) (cy : ClassId) (o : Nat) (a : Nat → Nat) (Z X : Nat → Nat → Nat) (u : Nat) (x : Nat) (hI : Inv Z) (hu : u < Z 0 2) (hx0 : x < 2 ^ 32) : Met l yX0_sumOver (wS yX0_sumOver cX0_sumOver 6 (Option.some Jvm.ClassFile.FieldType.int)) (rmF 3 66) (va_Pc [.ref o, .int (nI u), .int (nI x)] (cR dC dI cy o a Z X)) (vp_Si (fun r => r = nI (smS Z u (fun q => x.testBit q)))) 0 0 (fun _ => False) := by
  refine Met.ofW (cc := cX0_sumOver) (maxL := 6) (ret := (Option.some Jvm.ClassFile.FieldType.int)) (by decide) rfl ?_
  intro pg en sv mi ag bw mt cd s₁ B hml hv
  obtain ⟨rfl, hP, hK⟩ := hv
  have hx := B.exec
  have hb := B.bytes
  have hr := B.returns
  have hts : ∀ w ∈ lw_ok, w.before _ sv = true := fun w hw => atoms_spec (ws := wS yX0_sumOver cX0_sumOver 6 (Option.some Jvm.ClassFile.FieldType.int)) B.pre w (List.mem_cons_of_mem _ hw)
  have hown : sv.vm.findClass RX0 = some mi.cls := findClass_of_methodNamed B.named
  have hlocks := B.notSynchronized
  have fx : CallFix pg mi cd cX0_sumOver 6 sv _ lw_ok RX0 := ⟨hx, hb, hml, hown, hts⟩
  have hl := lv_entry ([.ref o, .int (nI u), .int (nI x)]) (n := 6) (Nat.le_of_ble_eq_true rfl)
  rw [lg_entry_eq]
  generalize (lg_sl ([.ref o, .int (nI u), .int (nI x)]) ++ List.replicate (6 - (lg_sl ([.ref o, .int (nI u), .int (nI x)])).length) Slot.unset).toArray = ls at hl ⊢
  replace hl : lv_has ls 6 [(0, .ref o), (1, .int (nI u)), (2, .int (nI x))] := hl
  obtain ⟨b0, b1, b2⟩ := hI.bd
  have hpu := hI.pu hu
  have bs := hI.sz (p := Z 11 u) (by omega)
  refine lv_aload_n hx hb dX0_sumOver_0 rfl (lv_at hl 0 rfl) ?_
  refine c_g11 hx hb hts hown hK hP dX0_sumOver_1 ?_
  refine lv_iload_n hx hb dX0_sumOver_4 rfl (lv_at hl 1 rfl) ?_
  refine c_l11 (j := u) hx hb hK hP (by omega) dX0_sumOver_5 ?_
  refine lv_istore_n (lv' := [(3, .int (nI (Z 11 u))), (0, .ref o), (1, .int (nI u)), (2, .int (nI x))]) hx hb dX0_sumOver_6 rfl hl (by decide) rfl (fun ls hl => ?_)
  refine lv_iconst (v := nI 0) hx hb dX0_sumOver_7 (by decide) ?_
  refine lv_istore (lv' := [(4, .int (nI 0)), (3, .int (nI (Z 11 u))), (0, .ref o), (1, .int (nI u)), (2, .int (nI x))]) hx hb dX0_sumOver_8 hl (by decide) rfl (fun ls hl => ?_)
  refine lv_iconst (v := nI 0) hx hb dX0_sumOver_10 (by decide) ?_
  refine lv_istore (lv' := [(5, .int (nI 0)), (4, .int (nI 0)), (3, .int (nI (Z 11 u))), (0, .ref o), (1, .int (nI u)), (2, .int (nI x))]) hx hb dX0_sumOver_11 hl (by decide) rfl (fun ls hl => ?_)
  obtain ⟨j, ej⟩ : ∃ j : Nat, j = 0 := ⟨_, rfl⟩
  obtain ⟨t, et⟩ : ∃ t : Nat, t = 0 := ⟨_, rfl⟩
  replace hl : lv_has ls 6 [(5, .int (nI j)), (4, .int (nI t)), (3, .int (nI (Z 11 u))), (0, .ref o), (1, .int (nI u)), (2, .int (nI x))] := by subst ej et; exact lv_sub hl [0, 1, 2, 3, 4, 5] rfl
  have hj : j ≤ Z 8 (Z 11 u) := by subst ej et; omega
  have ht : t = fb_sm (fun i => if x.testBit (Z 10 (Z 11 u * 12 + i)) then mrk Z u i else 0) j := by subst ej et; rfl
  clear ej et
  obtain ⟨n13, hn13⟩ : ∃ n : Nat, Z 8 (Z 11 u) - j < n := ⟨_, Nat.lt_succ_self _⟩
  induction n13 generalizing j t ls with
  | zero => exact absurd hn13 (Nat.not_lt_zero _)
  | succ n13 ih13 =>
    refine lv_iload hx hb dX0_sumOver_13 (lv_at hl 0 rfl) ?_
    refine lv_aload_n hx hb dX0_sumOver_15 rfl (lv_at hl 3 rfl) ?_
    refine c_g8 hx hb hts hown hK hP dX0_sumOver_16 ?_
    refine lv_iload_n hx hb dX0_sumOver_19 rfl (lv_at hl 2 rfl) ?_
    refine c_l8 (j := Z 11 u) hx hb hK hP (by omega) dX0_sumOver_20 ?_
    refine x_icmp_ge (x := j) (y := Z 8 (Z 11 u)) (tgt := 61) hx hb (by omega) (by omega) dX0_sumOver_21 (by decide) (fun c_21 => ?_) (fun c_21 => ?_)
    ·
      refine lv_iload hx hb dX0_sumOver_61 (lv_at hl 1 rfl) ?_
      refine W.iret (v := (nI t)) hx hb hr (fun t9 ht9 hW9 => ⟨_, rfl, ?_, ht9⟩) (fun q h => by cases h) dX0_sumOver_63
      rw [ht, show j = Z 8 (Z 11 u) by omega]; rfl
    ·
      have hro := hI.row (p := Z 11 u) (i := j) (by omega) (by omega)
      refine lv_iload_n hx hb dX0_sumOver_24 rfl (lv_at hl 5 rfl) ?_
      refine lv_aload_n hx hb dX0_sumOver_25 rfl (lv_at hl 3 rfl) ?_
      refine c_g10 hx hb hts hown hK hP dX0_sumOver_26 ?_
      refine lv_iload_n hx hb dX0_sumOver_29 rfl (lv_at hl 2 rfl) ?_
      refine lv_bipush (v := nI 12) hx hb dX0_sumOver_30 (by decide) ?_
      refine x_imul hx hb dX0_sumOver_32 ?_
      refine lv_iload hx hb dX0_sumOver_33 (lv_at hl 0 rfl) ?_
      refine x_iadd hx hb dX0_sumOver_35 ?_
      refine c_l10 (j := ((Z 11 u) * 12) + j) hx hb hK hP (by omega) dX0_sumOver_36 ?_
      refine r_Si (As := [.int (nI x), .int (nI (Z 10 (((Z 11 u) * 12) + j)))]) (rest := []) fx (ct_X0_isIn l x (Z 10 (((Z 11 u) * 12) + j)) (by first | assumption | omega) (by first | assumption | omega)) fyX0_isIn tM_RX0_74 rfl rfl ⟨Nat.le_of_ble_eq_true rfl, Nat.le_of_ble_eq_true rfl⟩ rfl hl.1 rfl (Nat.le_of_ble_eq_true rfl) dX0_sumOver_37 ⟨Nat.le_of_ble_eq_true rfl, Nat.le_of_ble_eq_true rfl⟩ (fun r_37 hr_37 => ?_)
      rcases hr_37 with ⟨rfl, hr_37⟩ | ⟨rfl, hr_37⟩
      ·
        refine x_if_eq_T (tgt := 55) hx hb (by decide) dX0_sumOver_40 (by decide) ?_
        refine lv_iinc (v := nI (j + 1)) (lv' := [(5, .int (nI (j + 1))), (4, .int (nI t)), (3, .int (nI (Z 11 u))), (0, .ref o), (1, .int (nI u)), (2, .int (nI x))]) hx hb dX0_sumOver_55 hl (k := 0) rfl (x_inc1 _) (by decide) rfl (fun ls hl => ?_)
        refine lv_goto (tgt := 13) hx hb dX0_sumOver_58 (by decide) ?_
        exact ih13 ls (j + 1) t (lv_sub hl [0, 1, 2, 3, 4, 5] rfl) (by omega) (by rw [fb_sm_succ, ← ht]; first | rw [if_pos hr_37] | (rw [if_neg hr_37]; rfl)) (by omega)
      ·
        refine x_if_eq_F (tgt := 55) hx hb (by decide) dX0_sumOver_40 (by decide) ?_
        refine lv_iload hx hb dX0_sumOver_43 (lv_at hl 1 rfl) ?_
        refine lv_aload_n hx hb dX0_sumOver_45 rfl (lv_at hl 3 rfl) ?_
        refine lv_iload_n hx hb dX0_sumOver_46 rfl (lv_at hl 4 rfl) ?_
        refine lv_iload hx hb dX0_sumOver_47 (lv_at hl 0 rfl) ?_
        refine r_Vi (As := [.int (nI u), .int (nI j)]) (rest := [.int (nI t)]) fx (ct_X0_markAt l dC dI cy o a Z X u j hI (by first | assumption | omega) (by first | assumption | omega)) fyX0_markAt tM_RX0_111 rfl rfl ⟨Nat.le_of_ble_eq_true rfl, Nat.le_of_ble_eq_true rfl⟩ (c_pre hK hP) rfl hl.1 rfl (Nat.le_of_ble_eq_true rfl) dX0_sumOver_49 ⟨Nat.le_of_ble_eq_true rfl, Nat.le_of_ble_eq_true rfl⟩ (fun r_49 hr_49 => ?_)
        subst hr_49
        refine x_iadd hx hb dX0_sumOver_52 ?_
        refine lv_istore (lv' := [(4, .int (nI (t + (mrk Z u j)))), (5, .int (nI j)), (3, .int (nI (Z 11 u))), (0, .ref o), (1, .int (nI u)), (2, .int (nI x))]) hx hb dX0_sumOver_53 hl (by decide) rfl (fun ls hl => ?_)
        refine lv_iinc (v := nI (j + 1)) (lv' := [(5, .int (nI (j + 1))), (4, .int (nI (t + (mrk Z u j)))), (3, .int (nI (Z 11 u))), (0, .ref o), (1, .int (nI u)), (2, .int (nI x))]) hx hb dX0_sumOver_55 hl (k := 1) rfl (x_inc1 _) (by decide) rfl (fun ls hl => ?_)
        refine lv_goto (tgt := 13) hx hb dX0_sumOver_58 (by decide) ?_
        exact ih13 ls (j + 1) (t + (mrk Z u j)) (lv_sub hl [0, 1, 2, 3, 4, 5] rfl) (by omega) (by rw [fb_sm_succ, ← ht]; first | rw [if_pos hr_37] | (rw [if_neg hr_37]; rfl)) (by omega)
end
