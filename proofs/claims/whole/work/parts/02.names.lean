def RX0 : String := "ExamScales"
def TX0 : u_T := fun k => match k with
  | 0 => ("ExamScales", "questionCount", "I", false)
  | 1 => ("ExamScales", "paperCount", "I", false)
  | 2 => ("ExamScales", "pupilCount", "I", false)
  | 3 => ("ExamScales", "struckSet", "I", false)
  | 4 => ("ExamScales", "trialSet", "I", false)
  | 5 => ("ExamScales", "kinds", "[I", true)
  | 6 => ("ExamScales", "mosts", "[I", true)
  | 7 => ("ExamScales", "keys", "[I", true)
  | 8 => ("ExamScales", "paperSizes", "[I", true)
  | 9 => ("ExamScales", "paperSets", "[I", true)
  | 10 => ("ExamScales", "paperRows", "[I", true)
  | 11 => ("ExamScales", "pupilPapers", "[I", true)
  | 12 => ("ExamScales", "pupilPlaces", "[I", true)
  | 13 => ("ExamScales", "answers", "[I", true)
  | 14 => ("ExamScales", "told", "[I", true)
  | 15 => ("ExamScales", "values", "[I", true)
  | 16 => ("ExamScales", "cameAt", "[I", true)
  | _ => ("ExamScales", "fullAt", "[I", true)
def tyX0 : Nat → FieldType := fun k => match k with
  | 0 => .int
  | 1 => .int
  | 2 => .int
  | 3 => .int
  | 4 => .int
  | 5 => .array .int
  | 6 => .array .int
  | 7 => .array .int
  | 8 => .array .int
  | 9 => .array .int
  | 10 => .array .int
  | 11 => .array .int
  | 12 => .array .int
  | 13 => .array .int
  | 14 => .array .int
  | 15 => .array .int
  | 16 => .array .int
  | _ => .array .int
abbrev wsX00 : List Cond := u_ws RX0 TX0 18
theorem nmX0 : ∀ a, a < 18 → ∀ b, b < 18 → a ≠ b → (TX0 a).2.1 ≠ (TX0 b).2.1 := by decide +kernel
theorem tyX0_ok : ∀ k, k < 18 → parseFieldDescriptor (TX0 k).2.2.1 = some (tyX0 k) := by decide +kernel
abbrev cX0_init : ByteArray := prog_1_method_1_code
def yX0_init : MethodName := ⟨RX0, "<init>", "()V"⟩
abbrev cX0_question : ByteArray := prog_1_method_2_code
def yX0_question : MethodName := ⟨RX0, "question", "(III)I"⟩
abbrev cX0_key : ByteArray := prog_1_method_3_code
def yX0_key : MethodName := ⟨RX0, "key", "(II)I"⟩
abbrev cX0_strike : ByteArray := prog_1_method_4_code
def yX0_strike : MethodName := ⟨RX0, "strike", "(II)I"⟩
abbrev cX0_paper : ByteArray := prog_1_method_5_code
def yX0_paper : MethodName := ⟨RX0, "paper", "()I"⟩
abbrev cX0_put : ByteArray := prog_1_method_6_code
def yX0_put : MethodName := ⟨RX0, "put", "(II)I"⟩
abbrev cX0_at : ByteArray := prog_1_method_7_code
def yX0_at : MethodName := ⟨RX0, "at", "(II)I"⟩
abbrev cX0_pupil : ByteArray := prog_1_method_8_code
def yX0_pupil : MethodName := ⟨RX0, "pupil", "(II)I"⟩
abbrev cX0_answer : ByteArray := prog_1_method_9_code
def yX0_answer : MethodName := ⟨RX0, "answer", "(III)I"⟩
abbrev cX0_gap : ByteArray := prog_1_method_10_code
def yX0_gap : MethodName := ⟨RX0, "gap", "(II)I"⟩
abbrev cX0_row : ByteArray := prog_1_method_11_code
def yX0_row : MethodName := ⟨RX0, "row", "(IJ)I"⟩
abbrev cX0_mark : ByteArray := prog_1_method_12_code
def yX0_mark : MethodName := ⟨RX0, "mark", "(II)I"⟩
abbrev cX0_come : ByteArray := prog_1_method_13_code
def yX0_come : MethodName := ⟨RX0, "come", "(II)I"⟩
abbrev cX0_total : ByteArray := prog_1_method_14_code
def yX0_total : MethodName := ⟨RX0, "total", "(I)I"⟩
abbrev cX0_easy : ByteArray := prog_1_method_15_code
def yX0_easy : MethodName := ⟨RX0, "easy", "(II)J"⟩
abbrev cX0_sharp : ByteArray := prog_1_method_16_code
def yX0_sharp : MethodName := ⟨RX0, "sharp", "(I)J"⟩
abbrev cX0_leaky : ByteArray := prog_1_method_17_code
def yX0_leaky : MethodName := ⟨RX0, "leaky", "(III)I"⟩
abbrev cX0_leak : ByteArray := prog_1_method_18_code
def yX0_leak : MethodName := ⟨RX0, "leak", "(II)I"⟩
abbrev cX0_shared : ByteArray := prog_1_method_19_code
def yX0_shared : MethodName := ⟨RX0, "shared", "(II)I"⟩
abbrev cX0_sum : ByteArray := prog_1_method_20_code
def yX0_sum : MethodName := ⟨RX0, "sum", "(II)I"⟩
abbrev cX0_group : ByteArray := prog_1_method_21_code
def yX0_group : MethodName := ⟨RX0, "group", "(III)J"⟩
abbrev cX0_scale : ByteArray := prog_1_method_22_code
def yX0_scale : MethodName := ⟨RX0, "scale", "(IIII)J"⟩
abbrev cX0_rank : ByteArray := prog_1_method_23_code
def yX0_rank : MethodName := ⟨RX0, "rank", "(II)I"⟩
abbrev cX0_like : ByteArray := prog_1_method_24_code
def yX0_like : MethodName := ⟨RX0, "like", "(III)I"⟩
abbrev cX0_judge : ByteArray := prog_1_method_25_code
def yX0_judge : MethodName := ⟨RX0, "judge", "(IIII)I"⟩
abbrev cX0_cut : ByteArray := prog_1_method_26_code
def yX0_cut : MethodName := ⟨RX0, "cut", "(II)J"⟩
abbrev cX0_passes : ByteArray := prog_1_method_27_code
def yX0_passes : MethodName := ⟨RX0, "passes", "(I)I"⟩
abbrev cX0_border : ByteArray := prog_1_method_28_code
def yX0_border : MethodName := ⟨RX0, "border", "(II)I"⟩
abbrev cX0_alike : ByteArray := prog_1_method_29_code
def yX0_alike : MethodName := ⟨RX0, "alike", "(II)I"⟩
abbrev cX0_pair : ByteArray := prog_1_method_30_code
def yX0_pair : MethodName := ⟨RX0, "pair", "(III)I"⟩
abbrev cX0_count : ByteArray := prog_1_method_31_code
def yX0_count : MethodName := ⟨RX0, "count", "(I)I"⟩
abbrev cX0_isQuestion : ByteArray := prog_1_method_32_code
def yX0_isQuestion : MethodName := ⟨RX0, "isQuestion", "(I)Z"⟩
abbrev cX0_isPaper : ByteArray := prog_1_method_33_code
def yX0_isPaper : MethodName := ⟨RX0, "isPaper", "(I)Z"⟩
abbrev cX0_isPupil : ByteArray := prog_1_method_34_code
def yX0_isPupil : MethodName := ⟨RX0, "isPupil", "(I)Z"⟩
abbrev cX0_isPlace : ByteArray := prog_1_method_35_code
def yX0_isPlace : MethodName := ⟨RX0, "isPlace", "(I)Z"⟩
abbrev cX0_isKey : ByteArray := prog_1_method_36_code
def yX0_isKey : MethodName := ⟨RX0, "isKey", "(I)Z"⟩
abbrev cX0_isBar : ByteArray := prog_1_method_37_code
def yX0_isBar : MethodName := ⟨RX0, "isBar", "(I)Z"⟩
abbrev cX0_isTotal : ByteArray := prog_1_method_38_code
def yX0_isTotal : MethodName := ⟨RX0, "isTotal", "(I)Z"⟩
abbrev cX0_isPart : ByteArray := prog_1_method_39_code
def yX0_isPart : MethodName := ⟨RX0, "isPart", "(I)Z"⟩
abbrev cX0_isAnswer : ByteArray := prog_1_method_40_code
def yX0_isAnswer : MethodName := ⟨RX0, "isAnswer", "(II)Z"⟩
abbrev cX0_hasPupil : ByteArray := prog_1_method_41_code
def yX0_hasPupil : MethodName := ⟨RX0, "hasPupil", "(I)Z"⟩
abbrev cX0_isIn : ByteArray := prog_1_method_42_code
def yX0_isIn : MethodName := ⟨RX0, "isIn", "(II)Z"⟩
abbrev cX0_countingSet : ByteArray := prog_1_method_43_code
def yX0_countingSet : MethodName := ⟨RX0, "countingSet", "()I"⟩
abbrev cX0_sharedSet : ByteArray := prog_1_method_44_code
def yX0_sharedSet : MethodName := ⟨RX0, "sharedSet", "(II)I"⟩
abbrev cX0_spotOf : ByteArray := prog_1_method_45_code
def yX0_spotOf : MethodName := ⟨RX0, "spotOf", "(II)I"⟩
abbrev cX0_spotFor : ByteArray := prog_1_method_46_code
def yX0_spotFor : MethodName := ⟨RX0, "spotFor", "(II)I"⟩
abbrev cX0_worth : ByteArray := prog_1_method_47_code
def yX0_worth : MethodName := ⟨RX0, "worth", "(II)I"⟩
abbrev cX0_stepsInRow : ByteArray := prog_1_method_48_code
def yX0_stepsInRow : MethodName := ⟨RX0, "stepsInRow", "(I)I"⟩
abbrev cX0_markAt : ByteArray := prog_1_method_49_code
def yX0_markAt : MethodName := ⟨RX0, "markAt", "(II)I"⟩
abbrev cX0_hasComeTo : ByteArray := prog_1_method_50_code
def yX0_hasComeTo : MethodName := ⟨RX0, "hasComeTo", "(II)Z"⟩
abbrev cX0_spotComeTo : ByteArray := prog_1_method_51_code
def yX0_spotComeTo : MethodName := ⟨RX0, "spotComeTo", "(II)I"⟩
abbrev cX0_sumOver : ByteArray := prog_1_method_52_code
def yX0_sumOver : MethodName := ⟨RX0, "sumOver", "(II)I"⟩
abbrev cX0_tallyPlaces : ByteArray := prog_1_method_53_code
def yX0_tallyPlaces : MethodName := ⟨RX0, "tallyPlaces", "(I)V"⟩
abbrev cX0_isLeakyByTally : ByteArray := prog_1_method_54_code
def yX0_isLeakyByTally : MethodName := ⟨RX0, "isLeakyByTally", "(II)Z"⟩
abbrev cX0_gatherSums : ByteArray := prog_1_method_55_code
def yX0_gatherSums : MethodName := ⟨RX0, "gatherSums", "(II)I"⟩
abbrev cX0_sumOfValues : ByteArray := prog_1_method_56_code
def yX0_sumOfValues : MethodName := ⟨RX0, "sumOfValues", "(I)J"⟩
abbrev cX0_awayOfValues : ByteArray := prog_1_method_57_code
def yX0_awayOfValues : MethodName := ⟨RX0, "awayOfValues", "(I)J"⟩
abbrev cX0_rankInValues : ByteArray := prog_1_method_58_code
def yX0_rankInValues : MethodName := ⟨RX0, "rankInValues", "(II)I"⟩
abbrev cX0_cutParts : ByteArray := prog_1_method_59_code
def yX0_cutParts : MethodName := ⟨RX0, "cutParts", "(I)I"⟩
abbrev cX0_meanParts : ByteArray := prog_1_method_60_code
def yX0_meanParts : MethodName := ⟨RX0, "meanParts", "(I)I"⟩
abbrev cX0_isPassing : ByteArray := prog_1_method_61_code
def yX0_isPassing : MethodName := ⟨RX0, "isPassing", "(I)Z"⟩
abbrev cX0_countPassing : ByteArray := prog_1_method_62_code
def yX0_countPassing : MethodName := ⟨RX0, "countPassing", "()I"⟩
abbrev cX0_countAnswers : ByteArray := prog_1_method_63_code
def yX0_countAnswers : MethodName := ⟨RX0, "countAnswers", "()I"⟩
abbrev cX0_areAlikeOf : ByteArray := prog_1_method_64_code
def yX0_areAlikeOf : MethodName := ⟨RX0, "areAlikeOf", "(IIII)Z"⟩
abbrev cX0_sameWrongs : ByteArray := prog_1_method_65_code
def yX0_sameWrongs : MethodName := ⟨RX0, "sameWrongs", "(II)I"⟩
abbrev cX0_fraction : ByteArray := prog_1_method_66_code
def yX0_fraction : MethodName := ⟨RX0, "fraction", "(JJI)J"⟩
abbrev cX0_commonDivisor : ByteArray := prog_1_method_67_code
def yX0_commonDivisor : MethodName := ⟨RX0, "commonDivisor", "(JJ)J"⟩
def RX1 : String := "ExamScalesModel"
def TX1 : u_T := fun k => match k with
  | 0 => ("ExamScalesModel", "questions", "I", false)
  | 1 => ("ExamScalesModel", "papers", "I", false)
  | 2 => ("ExamScalesModel", "pupils", "I", false)
  | 3 => ("ExamScalesModel", "kind", "[I", true)
  | 4 => ("ExamScalesModel", "most", "[I", true)
  | 5 => ("ExamScalesModel", "key", "[I", true)
  | 6 => ("ExamScalesModel", "isStruck", "[Z", true)
  | 7 => ("ExamScalesModel", "asked", "[I", true)
  | 8 => ("ExamScalesModel", "size", "[I", true)
  | 9 => ("ExamScalesModel", "paperOf", "[I", true)
  | 10 => ("ExamScalesModel", "placeOf", "[I", true)
  | 11 => ("ExamScalesModel", "given", "[I", true)
  | _ => ("ExamScalesModel", "told", "[I", true)
def tyX1 : Nat → FieldType := fun k => match k with
  | 0 => .int
  | 1 => .int
  | 2 => .int
  | 3 => .array .int
  | 4 => .array .int
  | 5 => .array .int
  | 6 => .array .boolean
  | 7 => .array .int
  | 8 => .array .int
  | 9 => .array .int
  | 10 => .array .int
  | 11 => .array .int
  | _ => .array .int
abbrev wsX10 : List Cond := u_ws RX1 TX1 13
theorem nmX1 : ∀ a, a < 13 → ∀ b, b < 13 → a ≠ b → (TX1 a).2.1 ≠ (TX1 b).2.1 := by decide +kernel
theorem tyX1_ok : ∀ k, k < 13 → parseFieldDescriptor (TX1 k).2.2.1 = some (tyX1 k) := by decide +kernel
abbrev cX1_init : ByteArray := prog_3_method_1_code
def yX1_init : MethodName := ⟨RX1, "<init>", "()V"⟩
abbrev cX1_in : ByteArray := prog_3_method_2_code
def yX1_in : MethodName := ⟨RX1, "in", "(III)Z"⟩
abbrev cX1_isQuestion : ByteArray := prog_3_method_3_code
def yX1_isQuestion : MethodName := ⟨RX1, "isQuestion", "(I)Z"⟩
abbrev cX1_isPaper : ByteArray := prog_3_method_4_code
def yX1_isPaper : MethodName := ⟨RX1, "isPaper", "(I)Z"⟩
abbrev cX1_isPupil : ByteArray := prog_3_method_5_code
def yX1_isPupil : MethodName := ⟨RX1, "isPupil", "(I)Z"⟩
abbrev cX1_isKey : ByteArray := prog_3_method_6_code
def yX1_isKey : MethodName := ⟨RX1, "isKey", "(II)Z"⟩
abbrev cX1_question : ByteArray := prog_3_method_7_code
def yX1_question : MethodName := ⟨RX1, "question", "(III)I"⟩
abbrev cX1_key : ByteArray := prog_3_method_8_code
def yX1_key : MethodName := ⟨RX1, "key", "(II)I"⟩
abbrev cX1_strike : ByteArray := prog_3_method_9_code
def yX1_strike : MethodName := ⟨RX1, "strike", "(II)I"⟩
abbrev cX1_paper : ByteArray := prog_3_method_10_code
def yX1_paper : MethodName := ⟨RX1, "paper", "()I"⟩
abbrev cX1_spot : ByteArray := prog_3_method_11_code
def yX1_spot : MethodName := ⟨RX1, "spot", "(II)I"⟩
abbrev cX1_groupSize : ByteArray := prog_3_method_12_code
def yX1_groupSize : MethodName := ⟨RX1, "groupSize", "(I)I"⟩
abbrev cX1_put : ByteArray := prog_3_method_13_code
def yX1_put : MethodName := ⟨RX1, "put", "(II)I"⟩
abbrev cX1_at : ByteArray := prog_3_method_14_code
def yX1_at : MethodName := ⟨RX1, "at", "(II)I"⟩
abbrev cX1_pupil : ByteArray := prog_3_method_15_code
def yX1_pupil : MethodName := ⟨RX1, "pupil", "(II)I"⟩
abbrev cX1_isAnswer : ByteArray := prog_3_method_16_code
def yX1_isAnswer : MethodName := ⟨RX1, "isAnswer", "(II)Z"⟩
abbrev cX1_worth : ByteArray := prog_3_method_17_code
def yX1_worth : MethodName := ⟨RX1, "worth", "(II)I"⟩
abbrev cX1_own : ByteArray := prog_3_method_18_code
def yX1_own : MethodName := ⟨RX1, "own", "(II)I"⟩
abbrev cX1_answer : ByteArray := prog_3_method_19_code
def yX1_answer : MethodName := ⟨RX1, "answer", "(III)I"⟩
abbrev cX1_gap : ByteArray := prog_3_method_20_code
def yX1_gap : MethodName := ⟨RX1, "gap", "(II)I"⟩
abbrev cX1_row : ByteArray := prog_3_method_21_code
def yX1_row : MethodName := ⟨RX1, "row", "(IJ)I"⟩
abbrev cX1_markAt : ByteArray := prog_3_method_22_code
def yX1_markAt : MethodName := ⟨RX1, "markAt", "(II)I"⟩
abbrev cX1_mark : ByteArray := prog_3_method_23_code
def yX1_mark : MethodName := ⟨RX1, "mark", "(II)I"⟩
abbrev cX1_cameTo : ByteArray := prog_3_method_24_code
def yX1_cameTo : MethodName := ⟨RX1, "cameTo", "(II)Z"⟩
abbrev cX1_come : ByteArray := prog_3_method_25_code
def yX1_come : MethodName := ⟨RX1, "come", "(II)I"⟩
abbrev cX1_isCounted : ByteArray := prog_3_method_26_code
def yX1_isCounted : MethodName := ⟨RX1, "isCounted", "(I)Z"⟩
abbrev cX1_totalOf : ByteArray := prog_3_method_27_code
def yX1_totalOf : MethodName := ⟨RX1, "totalOf", "(I)I"⟩
abbrev cX1_total : ByteArray := prog_3_method_28_code
def yX1_total : MethodName := ⟨RX1, "total", "(I)I"⟩
abbrev cX1_divisor : ByteArray := prog_3_method_29_code
def yX1_divisor : MethodName := ⟨RX1, "divisor", "(JJ)J"⟩
abbrev cX1_part : ByteArray := prog_3_method_30_code
def yX1_part : MethodName := ⟨RX1, "part", "(JJI)J"⟩
abbrev cX1_easy : ByteArray := prog_3_method_31_code
def yX1_easy : MethodName := ⟨RX1, "easy", "(II)J"⟩
abbrev cX1_sharp : ByteArray := prog_3_method_32_code
def yX1_sharp : MethodName := ⟨RX1, "sharp", "(I)J"⟩
abbrev cX1_leaks : ByteArray := prog_3_method_33_code
def yX1_leaks : MethodName := ⟨RX1, "leaks", "(III)Z"⟩
abbrev cX1_leaky : ByteArray := prog_3_method_34_code
def yX1_leaky : MethodName := ⟨RX1, "leaky", "(III)I"⟩
abbrev cX1_leak : ByteArray := prog_3_method_35_code
def yX1_leak : MethodName := ⟨RX1, "leak", "(II)I"⟩
abbrev cX1_isShared : ByteArray := prog_3_method_36_code
def yX1_isShared : MethodName := ⟨RX1, "isShared", "(III)Z"⟩
abbrev cX1_sharedMany : ByteArray := prog_3_method_37_code
def yX1_sharedMany : MethodName := ⟨RX1, "sharedMany", "(II)I"⟩
abbrev cX1_shared : ByteArray := prog_3_method_38_code
def yX1_shared : MethodName := ⟨RX1, "shared", "(II)I"⟩
abbrev cX1_sharedSum : ByteArray := prog_3_method_39_code
def yX1_sharedSum : MethodName := ⟨RX1, "sharedSum", "(II)I"⟩
abbrev cX1_sum : ByteArray := prog_3_method_40_code
def yX1_sum : MethodName := ⟨RX1, "sum", "(II)I"⟩
abbrev cX1_valueOf : ByteArray := prog_3_method_41_code
def yX1_valueOf : MethodName := ⟨RX1, "valueOf", "(II)J"⟩
abbrev cX1_sumOf : ByteArray := prog_3_method_42_code
def yX1_sumOf : MethodName := ⟨RX1, "sumOf", "(II)J"⟩
abbrev cX1_away : ByteArray := prog_3_method_43_code
def yX1_away : MethodName := ⟨RX1, "away", "(II)J"⟩
abbrev cX1_group : ByteArray := prog_3_method_44_code
def yX1_group : MethodName := ⟨RX1, "group", "(III)J"⟩
abbrev cX1_scale : ByteArray := prog_3_method_45_code
def yX1_scale : MethodName := ⟨RX1, "scale", "(IIII)J"⟩
abbrev cX1_rankOf : ByteArray := prog_3_method_46_code
def yX1_rankOf : MethodName := ⟨RX1, "rankOf", "(II)J"⟩
abbrev cX1_rank : ByteArray := prog_3_method_47_code
def yX1_rank : MethodName := ⟨RX1, "rank", "(II)I"⟩
abbrev cX1_like : ByteArray := prog_3_method_48_code
def yX1_like : MethodName := ⟨RX1, "like", "(III)I"⟩
abbrev cX1_judge : ByteArray := prog_3_method_49_code
def yX1_judge : MethodName := ⟨RX1, "judge", "(IIII)I"⟩
abbrev cX1_cutOf : ByteArray := prog_3_method_50_code
def yX1_cutOf : MethodName := ⟨RX1, "cutOf", "(I)J"⟩
abbrev cX1_cut : ByteArray := prog_3_method_51_code
def yX1_cut : MethodName := ⟨RX1, "cut", "(II)J"⟩
abbrev cX1_isPassed : ByteArray := prog_3_method_52_code
def yX1_isPassed : MethodName := ⟨RX1, "isPassed", "(I)Z"⟩
abbrev cX1_passes : ByteArray := prog_3_method_53_code
def yX1_passes : MethodName := ⟨RX1, "passes", "(I)I"⟩
abbrev cX1_border : ByteArray := prog_3_method_54_code
def yX1_border : MethodName := ⟨RX1, "border", "(II)I"⟩
abbrev cX1_alikeMany : ByteArray := prog_3_method_55_code
def yX1_alikeMany : MethodName := ⟨RX1, "alikeMany", "(II)I"⟩
abbrev cX1_alike : ByteArray := prog_3_method_56_code
def yX1_alike : MethodName := ⟨RX1, "alike", "(II)I"⟩
abbrev cX1_pair : ByteArray := prog_3_method_57_code
def yX1_pair : MethodName := ⟨RX1, "pair", "(III)I"⟩
abbrev cX1_count : ByteArray := prog_3_method_58_code
def yX1_count : MethodName := ⟨RX1, "count", "(I)I"⟩
def RJ6 : String := "java/lang/Integer"
def TJ6 : u_T := fun k => match k with
  | _ => ("", "", "", false)
def tyJ6 : Nat → FieldType := fun k => match k with
  | _ => .int
abbrev cJ6_bitCount_0f7a4 : ByteArray := prog_4_method_49_code
def yJ6_bitCount_0f7a4 : MethodName := ⟨RJ6, "bitCount", "(I)I"⟩
def RJ9 : String := "java/lang/Math"
def TJ9 : u_T := fun k => match k with
  | _ => ("", "", "", false)
def tyJ9 : Nat → FieldType := fun k => match k with
  | _ => .int
abbrev cJ9_abs_067f4 : ByteArray := prog_5_method_61_code
def yJ9_abs_067f4 : MethodName := ⟨RJ9, "abs", "(J)J"⟩
abbrev cJ9_max_7cf53 : ByteArray := prog_5_method_65_code
def yJ9_max_7cf53 : MethodName := ⟨RJ9, "max", "(II)I"⟩
abbrev cJ9_min_7cf53 : ByteArray := prog_5_method_69_code
def yJ9_min_7cf53 : MethodName := ⟨RJ9, "min", "(II)I"⟩
def RJ7 : String := "java/util/Arrays"
def TJ7 : u_T := fun k => match k with
  | _ => ("", "", "", false)
def tyJ7 : Nat → FieldType := fun k => match k with
  | _ => .int
abbrev cJ7_fill_53178 : ByteArray := prog_6_method_103_code
def yJ7_fill_53178 : MethodName := ⟨RJ7, "fill", "([II)V"⟩
def RL : String := "ExamScalesLaw"
abbrev cL_law : ByteArray := code
def yL_law : MethodName := ⟨RL, "law", "([I)Z"⟩
abbrev vwCl : List vw_C := [(RX0, TX0, 18), (RX1, TX1, 13)]
set_option maxRecDepth 20000 in
theorem tI_RL : Cond.initialized RL ∈ lw_tbl := List.mem_append_right _ (show _ ∈ tables_1_1 ++ (tables_1_2 ++ tables_1_3) from List.mem_append_left _ (List.mem_of_getElem? (i := 0) (by decide +kernel)))
set_option maxRecDepth 20000 in
theorem tI_RX0 : Cond.initialized RX0 ∈ lw_tbl := List.mem_append_right _ (show _ ∈ tables_1_1 ++ (tables_1_2 ++ tables_1_3) from List.mem_append_left _ (List.mem_of_getElem? (i := 1) (by decide +kernel)))
set_option maxRecDepth 20000 in
theorem tI_RJ7 : Cond.initialized RJ7 ∈ lw_tbl := List.mem_append_right _ (show _ ∈ tables_1_1 ++ (tables_1_2 ++ tables_1_3) from List.mem_append_left _ (List.mem_of_getElem? (i := 2) (by decide +kernel)))
set_option maxRecDepth 20000 in
theorem tI_RX1 : Cond.initialized RX1 ∈ lw_tbl := List.mem_append_right _ (show _ ∈ tables_1_1 ++ (tables_1_2 ++ tables_1_3) from List.mem_append_left _ (List.mem_of_getElem? (i := 3) (by decide +kernel)))
set_option maxRecDepth 20000 in
theorem tI_RJ9 : Cond.initialized RJ9 ∈ lw_tbl := List.mem_append_right _ (show _ ∈ tables_1_1 ++ (tables_1_2 ++ tables_1_3) from List.mem_append_left _ (List.mem_of_getElem? (i := 4) (by decide +kernel)))
set_option maxRecDepth 20000 in
theorem tI_RJ6 : Cond.initialized RJ6 ∈ lw_tbl := List.mem_append_right _ (show _ ∈ tables_1_1 ++ (tables_1_2 ++ tables_1_3) from List.mem_append_left _ (List.mem_of_getElem? (i := 5) (by decide +kernel)))
set_option maxRecDepth 20000 in
theorem tC_RL_7 : Cond.classLink RL 7 RX0 ∈ lw_tbl := List.mem_append_right _ (show _ ∈ tables_1_1 ++ (tables_1_2 ++ tables_1_3) from List.mem_append_left _ (List.mem_of_getElem? (i := 6) (by decide +kernel)))
set_option maxRecDepth 20000 in
theorem tN_RX0 : Cond.instantiable RX0 18 ∈ lw_tbl := List.mem_append_right _ (show _ ∈ tables_1_1 ++ (tables_1_2 ++ tables_1_3) from List.mem_append_left _ (List.mem_of_getElem? (i := 7) (by decide +kernel)))
set_option maxRecDepth 20000 in
theorem tM_RL_9 : Cond.methodLink RL 9 yX0_init ∈ lw_tbl := List.mem_append_right _ (show _ ∈ tables_1_1 ++ (tables_1_2 ++ tables_1_3) from List.mem_append_left _ (List.mem_of_getElem? (i := 8) (by decide +kernel)))
set_option maxRecDepth 20000 in
theorem tV_yX0_init : Cond.instanceMethod yX0_init ∈ lw_tbl := List.mem_append_right _ (show _ ∈ tables_1_1 ++ (tables_1_2 ++ tables_1_3) from List.mem_append_left _ (List.mem_of_getElem? (i := 9) (by decide +kernel)))
set_option maxRecDepth 20000 in
theorem tK_yX0_init : Cond.code yX0_init cX0_init 1 (Option.none : Option Jvm.ClassFile.FieldType) ∈ lw_tbl := List.mem_append_right _ (show _ ∈ tables_1_1 ++ (tables_1_2 ++ tables_1_3) from List.mem_append_left _ (List.mem_of_getElem? (i := 10) rfl))
set_option maxRecDepth 20000 in
theorem tM_RX0_5 : Cond.methodLink RX0 5 objectInit ∈ lw_tbl := List.mem_append_right _ (show _ ∈ tables_1_1 ++ (tables_1_2 ++ tables_1_3) from List.mem_append_left _ (List.mem_of_getElem? (i := 11) (by decide +kernel)))
set_option maxRecDepth 20000 in
theorem tV_objectInit : Cond.instanceMethod objectInit ∈ lw_tbl := List.mem_append_right _ (show _ ∈ tables_1_1 ++ (tables_1_2 ++ tables_1_3) from List.mem_append_left _ (List.mem_of_getElem? (i := 12) (by decide +kernel)))
set_option maxRecDepth 20000 in
theorem tK_objectInit : Cond.code objectInit object_method_1_code 1 (Option.none : Option Jvm.ClassFile.FieldType) ∈ lw_tbl := List.mem_append_right _ (show _ ∈ tables_1_1 ++ (tables_1_2 ++ tables_1_3) from List.mem_append_left _ (List.mem_of_getElem? (i := 13) rfl))
set_option maxRecDepth 20000 in
theorem tM_RX0_51 : Cond.methodLink RX0 51 yJ7_fill_53178 ∈ lw_tbl := List.mem_append_right _ (show _ ∈ tables_1_1 ++ (tables_1_2 ++ tables_1_3) from List.mem_append_left _ (List.mem_of_getElem? (i := 14) (by decide +kernel)))
set_option maxRecDepth 20000 in
theorem tS_yJ7_fill_53178 : Cond.static yJ7_fill_53178 ∈ lw_tbl := List.mem_append_right _ (show _ ∈ tables_1_1 ++ (tables_1_2 ++ tables_1_3) from List.mem_append_left _ (List.mem_of_getElem? (i := 15) (by decide +kernel)))
set_option maxRecDepth 20000 in
theorem tK_yJ7_fill_53178 : Cond.code yJ7_fill_53178 cJ7_fill_53178 4 (Option.none : Option Jvm.ClassFile.FieldType) ∈ lw_tbl := List.mem_append_right _ (show _ ∈ tables_1_1 ++ (tables_1_2 ++ tables_1_3) from List.mem_append_left _ (List.mem_of_getElem? (i := 16) rfl))
set_option maxRecDepth 20000 in
theorem tF_RX0_61 : Cond.fieldLink RX0 61 "ExamScales" "questionCount" "I" ∈ lw_tbl := List.mem_append_right _ (show _ ∈ tables_1_1 ++ (tables_1_2 ++ tables_1_3) from List.mem_append_left _ (List.mem_of_getElem? (i := 17) (by decide +kernel)))
set_option maxRecDepth 20000 in
theorem tF_RX0_78 : Cond.fieldLink RX0 78 "ExamScales" "paperCount" "I" ∈ lw_tbl := List.mem_append_right _ (show _ ∈ tables_1_1 ++ (tables_1_2 ++ tables_1_3) from List.mem_append_left _ (List.mem_of_getElem? (i := 18) (by decide +kernel)))
set_option maxRecDepth 20000 in
theorem tF_RX0_90 : Cond.fieldLink RX0 90 "ExamScales" "pupilCount" "I" ∈ lw_tbl := List.mem_append_right _ (show _ ∈ tables_1_1 ++ (tables_1_2 ++ tables_1_3) from List.mem_append_left _ (List.mem_of_getElem? (i := 19) (by decide +kernel)))
set_option maxRecDepth 20000 in
theorem tF_RX0_71 : Cond.fieldLink RX0 71 "ExamScales" "struckSet" "I" ∈ lw_tbl := List.mem_append_right _ (show _ ∈ tables_1_1 ++ (tables_1_2 ++ tables_1_3) from List.mem_append_left _ (List.mem_of_getElem? (i := 20) (by decide +kernel)))
set_option maxRecDepth 20000 in
theorem tF_RX0_65 : Cond.fieldLink RX0 65 "ExamScales" "trialSet" "I" ∈ lw_tbl := List.mem_append_right _ (show _ ∈ tables_1_1 ++ (tables_1_2 ++ tables_1_3) from List.mem_append_left _ (List.mem_of_getElem? (i := 21) (by decide +kernel)))
set_option maxRecDepth 20000 in
theorem tF_RX0_11 : Cond.fieldLink RX0 11 "ExamScales" "kinds" "[I" ∈ lw_tbl := List.mem_append_right _ (show _ ∈ tables_1_1 ++ (tables_1_2 ++ tables_1_3) from List.mem_append_left _ (List.mem_of_getElem? (i := 22) (by decide +kernel)))
set_option maxRecDepth 20000 in
theorem tF_RX0_15 : Cond.fieldLink RX0 15 "ExamScales" "mosts" "[I" ∈ lw_tbl := List.mem_append_right _ (show _ ∈ tables_1_1 ++ (tables_1_2 ++ tables_1_3) from List.mem_append_left _ (List.mem_of_getElem? (i := 23) (by decide +kernel)))
set_option maxRecDepth 20000 in
theorem tF_RX0_18 : Cond.fieldLink RX0 18 "ExamScales" "keys" "[I" ∈ lw_tbl := List.mem_append_right _ (show _ ∈ tables_1_1 ++ (tables_1_2 ++ tables_1_3) from List.mem_append_left _ (List.mem_of_getElem? (i := 24) (by decide +kernel)))
set_option maxRecDepth 20000 in
theorem tF_RX0_21 : Cond.fieldLink RX0 21 "ExamScales" "paperSizes" "[I" ∈ lw_tbl := List.mem_append_right _ (show _ ∈ tables_1_1 ++ (tables_1_2 ++ tables_1_3) from List.mem_append_left _ (List.mem_of_getElem? (i := 25) (by decide +kernel)))
set_option maxRecDepth 20000 in
theorem tF_RX0_24 : Cond.fieldLink RX0 24 "ExamScales" "paperSets" "[I" ∈ lw_tbl := List.mem_append_right _ (show _ ∈ tables_1_1 ++ (tables_1_2 ++ tables_1_3) from List.mem_append_left _ (List.mem_of_getElem? (i := 26) (by decide +kernel)))
set_option maxRecDepth 20000 in
theorem tF_RX0_27 : Cond.fieldLink RX0 27 "ExamScales" "paperRows" "[I" ∈ lw_tbl := List.mem_append_right _ (show _ ∈ tables_1_1 ++ (tables_1_2 ++ tables_1_3) from List.mem_append_left _ (List.mem_of_getElem? (i := 27) (by decide +kernel)))
set_option maxRecDepth 20000 in
theorem tF_RX0_30 : Cond.fieldLink RX0 30 "ExamScales" "pupilPapers" "[I" ∈ lw_tbl := List.mem_append_right _ (show _ ∈ tables_1_1 ++ (tables_1_2 ++ tables_1_3) from List.mem_append_left _ (List.mem_of_getElem? (i := 28) (by decide +kernel)))
set_option maxRecDepth 20000 in
theorem tF_RX0_33 : Cond.fieldLink RX0 33 "ExamScales" "pupilPlaces" "[I" ∈ lw_tbl := List.mem_append_right _ (show _ ∈ tables_1_1 ++ (tables_1_2 ++ tables_1_3) from List.mem_append_left _ (List.mem_of_getElem? (i := 29) (by decide +kernel)))
set_option maxRecDepth 20000 in
theorem tF_RX0_36 : Cond.fieldLink RX0 36 "ExamScales" "answers" "[I" ∈ lw_tbl := List.mem_append_right _ (show _ ∈ tables_1_1 ++ (tables_1_2 ++ tables_1_3) from List.mem_append_left _ (List.mem_of_getElem? (i := 30) (by decide +kernel)))
set_option maxRecDepth 20000 in
theorem tF_RX0_39 : Cond.fieldLink RX0 39 "ExamScales" "told" "[I" ∈ lw_tbl := List.mem_append_right _ (show _ ∈ tables_1_1 ++ (tables_1_2 ++ tables_1_3) from List.mem_append_left _ (List.mem_of_getElem? (i := 31) (by decide +kernel)))
set_option maxRecDepth 20000 in
theorem tF_RX0_42 : Cond.fieldLink RX0 42 "ExamScales" "values" "[I" ∈ lw_tbl := List.mem_append_right _ (show _ ∈ tables_1_1 ++ (tables_1_2 ++ tables_1_3) from List.mem_append_left _ (List.mem_of_getElem? (i := 32) (by decide +kernel)))
set_option maxRecDepth 20000 in
theorem tF_RX0_45 : Cond.fieldLink RX0 45 "ExamScales" "cameAt" "[I" ∈ lw_tbl := List.mem_append_right _ (show _ ∈ tables_1_1 ++ (tables_1_2 ++ tables_1_3) from List.mem_append_left _ (List.mem_of_getElem? (i := 33) (by decide +kernel)))
set_option maxRecDepth 20000 in
theorem tF_RX0_48 : Cond.fieldLink RX0 48 "ExamScales" "fullAt" "[I" ∈ lw_tbl := List.mem_append_right _ (show _ ∈ tables_1_1 ++ (tables_1_2 ++ tables_1_3) from List.mem_append_left _ (List.mem_of_getElem? (i := 34) (by decide +kernel)))
set_option maxRecDepth 20000 in
theorem tL_RX0_questionCount : Cond.lays RX0 "ExamScales" "questionCount" "I" ∈ lw_tbl := List.mem_append_right _ (show _ ∈ tables_1_1 ++ (tables_1_2 ++ tables_1_3) from List.mem_append_left _ (List.mem_of_getElem? (i := 35) (by decide +kernel)))
set_option maxRecDepth 20000 in
theorem tL_RX0_paperCount : Cond.lays RX0 "ExamScales" "paperCount" "I" ∈ lw_tbl := List.mem_append_right _ (show _ ∈ tables_1_1 ++ (tables_1_2 ++ tables_1_3) from List.mem_append_left _ (List.mem_of_getElem? (i := 37) (by decide +kernel)))
set_option maxRecDepth 20000 in
theorem tL_RX0_pupilCount : Cond.lays RX0 "ExamScales" "pupilCount" "I" ∈ lw_tbl := List.mem_append_right _ (show _ ∈ tables_1_1 ++ (tables_1_2 ++ tables_1_3) from List.mem_append_left _ (List.mem_of_getElem? (i := 39) (by decide +kernel)))
set_option maxRecDepth 20000 in
theorem tL_RX0_struckSet : Cond.lays RX0 "ExamScales" "struckSet" "I" ∈ lw_tbl := List.mem_append_right _ (show _ ∈ tables_1_1 ++ (tables_1_2 ++ tables_1_3) from List.mem_append_left _ (List.mem_of_getElem? (i := 41) (by decide +kernel)))
set_option maxRecDepth 20000 in
theorem tL_RX0_trialSet : Cond.lays RX0 "ExamScales" "trialSet" "I" ∈ lw_tbl := List.mem_append_right _ (show _ ∈ tables_1_1 ++ (tables_1_2 ++ tables_1_3) from List.mem_append_left _ (List.mem_of_getElem? (i := 43) (by decide +kernel)))
set_option maxRecDepth 20000 in
theorem tL_RX0_kinds : Cond.laysFinal RX0 "ExamScales" "kinds" "[I" ∈ lw_tbl := List.mem_append_right _ (show _ ∈ tables_1_1 ++ (tables_1_2 ++ tables_1_3) from List.mem_append_left _ (List.mem_of_getElem? (i := 45) (by decide +kernel)))
set_option maxRecDepth 20000 in
theorem tL_RX0_mosts : Cond.laysFinal RX0 "ExamScales" "mosts" "[I" ∈ lw_tbl := List.mem_append_right _ (show _ ∈ tables_1_1 ++ (tables_1_2 ++ tables_1_3) from List.mem_append_left _ (List.mem_of_getElem? (i := 47) (by decide +kernel)))
set_option maxRecDepth 20000 in
theorem tL_RX0_keys : Cond.laysFinal RX0 "ExamScales" "keys" "[I" ∈ lw_tbl := List.mem_append_right _ (show _ ∈ tables_1_1 ++ (tables_1_2 ++ tables_1_3) from List.mem_append_left _ (List.mem_of_getElem? (i := 49) (by decide +kernel)))
set_option maxRecDepth 20000 in
theorem tL_RX0_paperSizes : Cond.laysFinal RX0 "ExamScales" "paperSizes" "[I" ∈ lw_tbl := List.mem_append_right _ (show _ ∈ tables_1_1 ++ (tables_1_2 ++ tables_1_3) from List.mem_append_left _ (List.mem_of_getElem? (i := 51) (by decide +kernel)))
set_option maxRecDepth 20000 in
theorem tL_RX0_paperSets : Cond.laysFinal RX0 "ExamScales" "paperSets" "[I" ∈ lw_tbl := List.mem_append_right _ (show _ ∈ tables_1_1 ++ (tables_1_2 ++ tables_1_3) from List.mem_append_left _ (List.mem_of_getElem? (i := 53) (by decide +kernel)))
set_option maxRecDepth 20000 in
theorem tL_RX0_paperRows : Cond.laysFinal RX0 "ExamScales" "paperRows" "[I" ∈ lw_tbl := List.mem_append_right _ (show _ ∈ tables_1_1 ++ (tables_1_2 ++ tables_1_3) from List.mem_append_left _ (List.mem_of_getElem? (i := 55) (by decide +kernel)))
set_option maxRecDepth 20000 in
theorem tL_RX0_pupilPapers : Cond.laysFinal RX0 "ExamScales" "pupilPapers" "[I" ∈ lw_tbl := List.mem_append_right _ (show _ ∈ tables_1_1 ++ (tables_1_2 ++ tables_1_3) from List.mem_append_left _ (List.mem_of_getElem? (i := 57) (by decide +kernel)))
set_option maxRecDepth 20000 in
theorem tL_RX0_pupilPlaces : Cond.laysFinal RX0 "ExamScales" "pupilPlaces" "[I" ∈ lw_tbl := List.mem_append_right _ (show _ ∈ tables_1_1 ++ (tables_1_2 ++ tables_1_3) from List.mem_append_left _ (List.mem_of_getElem? (i := 59) (by decide +kernel)))
set_option maxRecDepth 20000 in
theorem tL_RX0_answers : Cond.laysFinal RX0 "ExamScales" "answers" "[I" ∈ lw_tbl := List.mem_append_right _ (show _ ∈ tables_1_1 ++ (tables_1_2 ++ tables_1_3) from List.mem_append_left _ (List.mem_of_getElem? (i := 61) (by decide +kernel)))
set_option maxRecDepth 20000 in
theorem tL_RX0_told : Cond.laysFinal RX0 "ExamScales" "told" "[I" ∈ lw_tbl := List.mem_append_right _ (show _ ∈ tables_1_1 ++ (tables_1_2 ++ tables_1_3) from List.mem_append_left _ (List.mem_of_getElem? (i := 63) (by decide +kernel)))
set_option maxRecDepth 20000 in
theorem tL_RX0_values : Cond.laysFinal RX0 "ExamScales" "values" "[I" ∈ lw_tbl := List.mem_append_right _ (show _ ∈ tables_1_1 ++ (tables_1_2 ++ tables_1_3) from List.mem_append_left _ (List.mem_of_getElem? (i := 65) (by decide +kernel)))
set_option maxRecDepth 20000 in
theorem tL_RX0_cameAt : Cond.laysFinal RX0 "ExamScales" "cameAt" "[I" ∈ lw_tbl := List.mem_append_right _ (show _ ∈ tables_1_1 ++ (tables_1_2 ++ tables_1_3) from List.mem_append_left _ (List.mem_of_getElem? (i := 67) (by decide +kernel)))
set_option maxRecDepth 20000 in
theorem tL_RX0_fullAt : Cond.laysFinal RX0 "ExamScales" "fullAt" "[I" ∈ lw_tbl := List.mem_append_right _ (show _ ∈ tables_1_1 ++ (tables_1_2 ++ tables_1_3) from List.mem_append_left _ (List.mem_of_getElem? (i := 69) (by decide +kernel)))
set_option maxRecDepth 20000 in
theorem tA_int : Cond.arrayClass (.int) ∈ lw_tbl := List.mem_append_right _ (show _ ∈ tables_1_1 ++ (tables_1_2 ++ tables_1_3) from List.mem_append_left _ (List.mem_of_getElem? (i := 72) (by decide +kernel)))
set_option maxRecDepth 20000 in
theorem tM_RL_13 : Cond.methodLink RL 13 yX0_question ∈ lw_tbl := List.mem_append_right _ (show _ ∈ tables_1_1 ++ (tables_1_2 ++ tables_1_3) from List.mem_append_left _ (List.mem_of_getElem? (i := 73) (by decide +kernel)))
set_option maxRecDepth 20000 in
theorem tV_yX0_question : Cond.instanceMethod yX0_question ∈ lw_tbl := List.mem_append_right _ (show _ ∈ tables_1_1 ++ (tables_1_2 ++ tables_1_3) from List.mem_append_left _ (List.mem_of_getElem? (i := 74) (by decide +kernel)))
set_option maxRecDepth 20000 in
theorem tP_yX0_question : Cond.selects yX0_question.cls yX0_question yX0_question ∈ lw_tbl := List.mem_append_right _ (show _ ∈ tables_1_1 ++ (tables_1_2 ++ tables_1_3) from List.mem_append_left _ (List.mem_of_getElem? (i := 75) (by decide +kernel)))
set_option maxRecDepth 20000 in
theorem tK_yX0_question : Cond.code yX0_question cX0_question 5 (Option.some Jvm.ClassFile.FieldType.int) ∈ lw_tbl := List.mem_append_right _ (show _ ∈ tables_1_1 ++ (tables_1_2 ++ tables_1_3) from List.mem_append_left _ (List.mem_of_getElem? (i := 76) rfl))
set_option maxRecDepth 20000 in
theorem tM_RX0_57 : Cond.methodLink RX0 57 yX0_isKey ∈ lw_tbl := List.mem_append_right _ (show _ ∈ tables_1_1 ++ (tables_1_2 ++ tables_1_3) from List.mem_append_left _ (List.mem_of_getElem? (i := 77) (by decide +kernel)))
set_option maxRecDepth 20000 in
theorem tS_yX0_isKey : Cond.static yX0_isKey ∈ lw_tbl := List.mem_append_right _ (show _ ∈ tables_1_1 ++ (tables_1_2 ++ tables_1_3) from List.mem_append_left _ (List.mem_of_getElem? (i := 78) (by decide +kernel)))
set_option maxRecDepth 20000 in
theorem tK_yX0_isKey : Cond.code yX0_isKey cX0_isKey 1 (Option.some Jvm.ClassFile.FieldType.boolean) ∈ lw_tbl := List.mem_append_right _ (show _ ∈ tables_1_1 ++ (tables_1_2 ++ tables_1_3) from List.mem_append_left _ (List.mem_of_getElem? (i := 79) rfl))
set_option maxRecDepth 20000 in
theorem tM_RL_18 : Cond.methodLink RL 18 yX0_key ∈ lw_tbl := List.mem_append_right _ (show _ ∈ tables_1_1 ++ (tables_1_2 ++ tables_1_3) from List.mem_append_left _ (List.mem_of_getElem? (i := 80) (by decide +kernel)))
set_option maxRecDepth 20000 in
theorem tV_yX0_key : Cond.instanceMethod yX0_key ∈ lw_tbl := List.mem_append_right _ (show _ ∈ tables_1_1 ++ (tables_1_2 ++ tables_1_3) from List.mem_append_left _ (List.mem_of_getElem? (i := 81) (by decide +kernel)))
set_option maxRecDepth 20000 in
theorem tP_yX0_key : Cond.selects yX0_key.cls yX0_key yX0_key ∈ lw_tbl := List.mem_append_right _ (show _ ∈ tables_1_1 ++ (tables_1_2 ++ tables_1_3) from List.mem_append_left _ (List.mem_of_getElem? (i := 82) (by decide +kernel)))
set_option maxRecDepth 20000 in
theorem tK_yX0_key : Cond.code yX0_key cX0_key 4 (Option.some Jvm.ClassFile.FieldType.int) ∈ lw_tbl := List.mem_append_right _ (show _ ∈ tables_1_1 ++ (tables_1_2 ++ tables_1_3) from List.mem_append_left _ (List.mem_of_getElem? (i := 83) rfl))
set_option maxRecDepth 20000 in
theorem tM_RX0_68 : Cond.methodLink RX0 68 yX0_isQuestion ∈ lw_tbl := List.mem_append_right _ (show _ ∈ tables_1_1 ++ (tables_1_2 ++ tables_1_3) from List.mem_append_left _ (List.mem_of_getElem? (i := 84) (by decide +kernel)))
set_option maxRecDepth 20000 in
theorem tV_yX0_isQuestion : Cond.instanceMethod yX0_isQuestion ∈ lw_tbl := List.mem_append_right _ (show _ ∈ tables_1_1 ++ (tables_1_2 ++ tables_1_3) from List.mem_append_left _ (List.mem_of_getElem? (i := 86) (by decide +kernel)))
set_option maxRecDepth 20000 in
theorem tK_yX0_isQuestion : Cond.code yX0_isQuestion cX0_isQuestion 2 (Option.some Jvm.ClassFile.FieldType.boolean) ∈ lw_tbl := List.mem_append_right _ (show _ ∈ tables_1_1 ++ (tables_1_2 ++ tables_1_3) from List.mem_append_left _ (List.mem_of_getElem? (i := 87) rfl))
set_option maxRecDepth 20000 in
theorem tM_RL_23 : Cond.methodLink RL 23 yX0_strike ∈ lw_tbl := List.mem_append_right _ (show _ ∈ tables_1_1 ++ (tables_1_2 ++ tables_1_3) from List.mem_append_left _ (List.mem_of_getElem? (i := 88) (by decide +kernel)))
set_option maxRecDepth 20000 in
theorem tV_yX0_strike : Cond.instanceMethod yX0_strike ∈ lw_tbl := List.mem_append_right _ (show _ ∈ tables_1_1 ++ (tables_1_2 ++ tables_1_3) from List.mem_append_left _ (List.mem_of_getElem? (i := 89) (by decide +kernel)))
set_option maxRecDepth 20000 in
theorem tP_yX0_strike : Cond.selects yX0_strike.cls yX0_strike yX0_strike ∈ lw_tbl := List.mem_append_right _ (show _ ∈ tables_1_1 ++ (tables_1_2 ++ tables_1_3) from List.mem_append_left _ (List.mem_of_getElem? (i := 90) (by decide +kernel)))
set_option maxRecDepth 20000 in
theorem tK_yX0_strike : Cond.code yX0_strike cX0_strike 4 (Option.some Jvm.ClassFile.FieldType.int) ∈ lw_tbl := List.mem_append_right _ (show _ ∈ tables_1_1 ++ (tables_1_2 ++ tables_1_3) from List.mem_append_left _ (List.mem_of_getElem? (i := 91) rfl))
set_option maxRecDepth 20000 in
theorem tM_RX0_74 : Cond.methodLink RX0 74 yX0_isIn ∈ lw_tbl := List.mem_append_right _ (show _ ∈ tables_1_1 ++ (tables_1_2 ++ tables_1_3) from List.mem_append_left _ (List.mem_of_getElem? (i := 92) (by decide +kernel)))
set_option maxRecDepth 20000 in
theorem tS_yX0_isIn : Cond.static yX0_isIn ∈ lw_tbl := List.mem_append_right _ (show _ ∈ tables_1_1 ++ (tables_1_2 ++ tables_1_3) from List.mem_append_left _ (List.mem_of_getElem? (i := 93) (by decide +kernel)))
set_option maxRecDepth 20000 in
theorem tK_yX0_isIn : Cond.code yX0_isIn cX0_isIn 2 (Option.some Jvm.ClassFile.FieldType.boolean) ∈ lw_tbl := List.mem_append_right _ (show _ ∈ tables_1_1 ++ (tables_1_2 ++ tables_1_3) from List.mem_append_left _ (List.mem_of_getElem? (i := 94) rfl))
set_option maxRecDepth 20000 in
theorem tM_RL_27 : Cond.methodLink RL 27 yX0_paper ∈ lw_tbl := List.mem_append_right _ (show _ ∈ tables_1_1 ++ (tables_1_2 ++ tables_1_3) from List.mem_append_left _ (List.mem_of_getElem? (i := 95) (by decide +kernel)))
set_option maxRecDepth 20000 in
theorem tV_yX0_paper : Cond.instanceMethod yX0_paper ∈ lw_tbl := List.mem_append_right _ (show _ ∈ tables_1_1 ++ (tables_1_2 ++ tables_1_3) from List.mem_append_left _ (List.mem_of_getElem? (i := 96) (by decide +kernel)))
set_option maxRecDepth 20000 in
theorem tP_yX0_paper : Cond.selects yX0_paper.cls yX0_paper yX0_paper ∈ lw_tbl := List.mem_append_right _ (show _ ∈ tables_1_1 ++ (tables_1_2 ++ tables_1_3) from List.mem_append_left _ (List.mem_of_getElem? (i := 97) (by decide +kernel)))
set_option maxRecDepth 20000 in
theorem tK_yX0_paper : Cond.code yX0_paper cX0_paper 2 (Option.some Jvm.ClassFile.FieldType.int) ∈ lw_tbl := List.mem_append_right _ (show _ ∈ tables_1_1 ++ (tables_1_2 ++ tables_1_3) from List.mem_append_left _ (List.mem_of_getElem? (i := 98) rfl))
set_option maxRecDepth 20000 in
theorem tM_RL_32 : Cond.methodLink RL 32 yX0_put ∈ lw_tbl := List.mem_append_right _ (show _ ∈ tables_1_1 ++ (tables_1_2 ++ tables_1_3) from List.mem_append_left _ (List.mem_of_getElem? (i := 99) (by decide +kernel)))
set_option maxRecDepth 20000 in
theorem tV_yX0_put : Cond.instanceMethod yX0_put ∈ lw_tbl := List.mem_append_right _ (show _ ∈ tables_1_1 ++ (tables_1_2 ++ tables_1_3) from List.mem_append_left _ (List.mem_of_getElem? (i := 100) (by decide +kernel)))
set_option maxRecDepth 20000 in
theorem tP_yX0_put : Cond.selects yX0_put.cls yX0_put yX0_put ∈ lw_tbl := List.mem_append_right _ (show _ ∈ tables_1_1 ++ (tables_1_2 ++ tables_1_3) from List.mem_append_left _ (List.mem_of_getElem? (i := 101) (by decide +kernel)))
set_option maxRecDepth 20000 in
theorem tK_yX0_put : Cond.code yX0_put cX0_put 4 (Option.some Jvm.ClassFile.FieldType.int) ∈ lw_tbl := List.mem_append_right _ (show _ ∈ tables_1_1 ++ (tables_1_2 ++ tables_1_3) from List.mem_append_left _ (List.mem_of_getElem? (i := 102) rfl))
set_option maxRecDepth 20000 in
theorem tM_RX0_81 : Cond.methodLink RX0 81 yX0_isPaper ∈ lw_tbl := List.mem_append_right _ (show _ ∈ tables_1_1 ++ (tables_1_2 ++ tables_1_3) from List.mem_append_left _ (List.mem_of_getElem? (i := 103) (by decide +kernel)))
set_option maxRecDepth 20000 in
theorem tV_yX0_isPaper : Cond.instanceMethod yX0_isPaper ∈ lw_tbl := List.mem_append_right _ (show _ ∈ tables_1_1 ++ (tables_1_2 ++ tables_1_3) from List.mem_append_left _ (List.mem_of_getElem? (i := 105) (by decide +kernel)))
set_option maxRecDepth 20000 in
theorem tK_yX0_isPaper : Cond.code yX0_isPaper cX0_isPaper 2 (Option.some Jvm.ClassFile.FieldType.boolean) ∈ lw_tbl := List.mem_append_right _ (show _ ∈ tables_1_1 ++ (tables_1_2 ++ tables_1_3) from List.mem_append_left _ (List.mem_of_getElem? (i := 106) rfl))
set_option maxRecDepth 20000 in
theorem tM_RX0_84 : Cond.methodLink RX0 84 yX0_hasPupil ∈ lw_tbl := List.mem_append_right _ (show _ ∈ tables_1_1 ++ (tables_1_2 ++ tables_1_3) from List.mem_append_left _ (List.mem_of_getElem? (i := 107) (by decide +kernel)))
set_option maxRecDepth 20000 in
theorem tV_yX0_hasPupil : Cond.instanceMethod yX0_hasPupil ∈ lw_tbl := List.mem_append_right _ (show _ ∈ tables_1_1 ++ (tables_1_2 ++ tables_1_3) from List.mem_append_left _ (List.mem_of_getElem? (i := 109) (by decide +kernel)))
set_option maxRecDepth 20000 in
theorem tK_yX0_hasPupil : Cond.code yX0_hasPupil cX0_hasPupil 3 (Option.some Jvm.ClassFile.FieldType.boolean) ∈ lw_tbl := List.mem_append_right _ (show _ ∈ tables_1_1 ++ (tables_1_2 ++ tables_1_3) from List.mem_append_left _ (List.mem_of_getElem? (i := 110) rfl))
set_option maxRecDepth 20000 in
theorem tM_RL_36 : Cond.methodLink RL 36 yX0_at ∈ lw_tbl := List.mem_append_right _ (show _ ∈ tables_1_1 ++ (tables_1_2 ++ tables_1_3) from List.mem_append_left _ (List.mem_of_getElem? (i := 111) (by decide +kernel)))
set_option maxRecDepth 20000 in
theorem tV_yX0_at : Cond.instanceMethod yX0_at ∈ lw_tbl := List.mem_append_right _ (show _ ∈ tables_1_1 ++ (tables_1_2 ++ tables_1_3) from List.mem_append_left _ (List.mem_of_getElem? (i := 112) (by decide +kernel)))
set_option maxRecDepth 20000 in
theorem tP_yX0_at : Cond.selects yX0_at.cls yX0_at yX0_at ∈ lw_tbl := List.mem_append_right _ (show _ ∈ tables_1_1 ++ (tables_1_2 ++ tables_1_3) from List.mem_append_left _ (List.mem_of_getElem? (i := 113) (by decide +kernel)))
set_option maxRecDepth 20000 in
theorem tK_yX0_at : Cond.code yX0_at cX0_at 3 (Option.some Jvm.ClassFile.FieldType.int) ∈ lw_tbl := List.mem_append_right _ (show _ ∈ tables_1_1 ++ (tables_1_2 ++ tables_1_3) from List.mem_append_left _ (List.mem_of_getElem? (i := 114) rfl))
set_option maxRecDepth 20000 in
theorem tM_RL_40 : Cond.methodLink RL 40 yX0_pupil ∈ lw_tbl := List.mem_append_right _ (show _ ∈ tables_1_1 ++ (tables_1_2 ++ tables_1_3) from List.mem_append_left _ (List.mem_of_getElem? (i := 115) (by decide +kernel)))
set_option maxRecDepth 20000 in
theorem tV_yX0_pupil : Cond.instanceMethod yX0_pupil ∈ lw_tbl := List.mem_append_right _ (show _ ∈ tables_1_1 ++ (tables_1_2 ++ tables_1_3) from List.mem_append_left _ (List.mem_of_getElem? (i := 116) (by decide +kernel)))
set_option maxRecDepth 20000 in
theorem tP_yX0_pupil : Cond.selects yX0_pupil.cls yX0_pupil yX0_pupil ∈ lw_tbl := List.mem_append_right _ (show _ ∈ tables_1_1 ++ (tables_1_2 ++ tables_1_3) from List.mem_append_left _ (List.mem_of_getElem? (i := 117) (by decide +kernel)))
set_option maxRecDepth 20000 in
theorem tK_yX0_pupil : Cond.code yX0_pupil cX0_pupil 4 (Option.some Jvm.ClassFile.FieldType.int) ∈ lw_tbl := List.mem_append_right _ (show _ ∈ tables_1_1 ++ (tables_1_2 ++ tables_1_3) from List.mem_append_left _ (List.mem_of_getElem? (i := 118) rfl))
set_option maxRecDepth 20000 in
theorem tM_RX0_87 : Cond.methodLink RX0 87 yX0_isPlace ∈ lw_tbl := List.mem_append_right _ (show _ ∈ tables_1_1 ++ (tables_1_2 ++ tables_1_3) from List.mem_append_left _ (List.mem_of_getElem? (i := 119) (by decide +kernel)))
set_option maxRecDepth 20000 in
theorem tS_yX0_isPlace : Cond.static yX0_isPlace ∈ lw_tbl := List.mem_append_right _ (show _ ∈ tables_1_1 ++ (tables_1_2 ++ tables_1_3) from List.mem_append_left _ (List.mem_of_getElem? (i := 120) (by decide +kernel)))
set_option maxRecDepth 20000 in
theorem tK_yX0_isPlace : Cond.code yX0_isPlace cX0_isPlace 1 (Option.some Jvm.ClassFile.FieldType.boolean) ∈ lw_tbl := List.mem_append_right _ (show _ ∈ tables_1_1 ++ (tables_1_2 ++ tables_1_3) from List.mem_append_left _ (List.mem_of_getElem? (i := 121) rfl))
set_option maxRecDepth 20000 in
theorem tM_RL_44 : Cond.methodLink RL 44 yX0_answer ∈ lw_tbl := List.mem_append_right _ (show _ ∈ tables_1_1 ++ (tables_1_2 ++ tables_1_3) from List.mem_append_left _ (List.mem_of_getElem? (i := 122) (by decide +kernel)))
set_option maxRecDepth 20000 in
theorem tV_yX0_answer : Cond.instanceMethod yX0_answer ∈ lw_tbl := List.mem_append_right _ (show _ ∈ tables_1_1 ++ (tables_1_2 ++ tables_1_3) from List.mem_append_left _ (List.mem_of_getElem? (i := 123) (by decide +kernel)))
set_option maxRecDepth 20000 in
theorem tP_yX0_answer : Cond.selects yX0_answer.cls yX0_answer yX0_answer ∈ lw_tbl := List.mem_append_right _ (show _ ∈ tables_1_1 ++ (tables_1_2 ++ tables_1_3) from List.mem_append_left _ (List.mem_of_getElem? (i := 124) (by decide +kernel)))
set_option maxRecDepth 20000 in
theorem tK_yX0_answer : Cond.code yX0_answer cX0_answer 5 (Option.some Jvm.ClassFile.FieldType.int) ∈ lw_tbl := List.mem_append_right _ (show _ ∈ tables_1_1 ++ (tables_1_2 ++ tables_1_3) from List.mem_append_left _ (List.mem_of_getElem? (i := 125) rfl))
set_option maxRecDepth 20000 in
theorem tM_RX0_93 : Cond.methodLink RX0 93 yX0_spotFor ∈ lw_tbl := List.mem_append_right _ (show _ ∈ tables_1_1 ++ (tables_1_2 ++ tables_1_3) from List.mem_append_left _ (List.mem_of_getElem? (i := 126) (by decide +kernel)))
set_option maxRecDepth 20000 in
theorem tV_yX0_spotFor : Cond.instanceMethod yX0_spotFor ∈ lw_tbl := List.mem_append_right _ (show _ ∈ tables_1_1 ++ (tables_1_2 ++ tables_1_3) from List.mem_append_left _ (List.mem_of_getElem? (i := 128) (by decide +kernel)))
set_option maxRecDepth 20000 in
theorem tK_yX0_spotFor : Cond.code yX0_spotFor cX0_spotFor 3 (Option.some Jvm.ClassFile.FieldType.int) ∈ lw_tbl := List.mem_append_right _ (show _ ∈ tables_1_1 ++ (tables_1_2 ++ tables_1_3) from List.mem_append_left _ (List.mem_of_getElem? (i := 129) rfl))
set_option maxRecDepth 20000 in
theorem tM_RX0_103 : Cond.methodLink RX0 103 yX0_isPupil ∈ lw_tbl := List.mem_append_right _ (show _ ∈ tables_1_1 ++ (tables_1_2 ++ tables_1_3) from List.mem_append_left _ (List.mem_of_getElem? (i := 130) (by decide +kernel)))
set_option maxRecDepth 20000 in
theorem tV_yX0_isPupil : Cond.instanceMethod yX0_isPupil ∈ lw_tbl := List.mem_append_right _ (show _ ∈ tables_1_1 ++ (tables_1_2 ++ tables_1_3) from List.mem_append_left _ (List.mem_of_getElem? (i := 132) (by decide +kernel)))
set_option maxRecDepth 20000 in
theorem tK_yX0_isPupil : Cond.code yX0_isPupil cX0_isPupil 2 (Option.some Jvm.ClassFile.FieldType.boolean) ∈ lw_tbl := List.mem_append_right _ (show _ ∈ tables_1_1 ++ (tables_1_2 ++ tables_1_3) from List.mem_append_left _ (List.mem_of_getElem? (i := 133) rfl))
set_option maxRecDepth 20000 in
theorem tM_RX0_178 : Cond.methodLink RX0 178 yX0_spotOf ∈ lw_tbl := List.mem_append_right _ (show _ ∈ tables_1_1 ++ (tables_1_2 ++ tables_1_3) from List.mem_append_left _ (List.mem_of_getElem? (i := 134) (by decide +kernel)))
set_option maxRecDepth 20000 in
theorem tV_yX0_spotOf : Cond.instanceMethod yX0_spotOf ∈ lw_tbl := List.mem_append_right _ (show _ ∈ tables_1_1 ++ (tables_1_2 ++ tables_1_3) from List.mem_append_left _ (List.mem_of_getElem? (i := 136) (by decide +kernel)))
set_option maxRecDepth 20000 in
theorem tK_yX0_spotOf : Cond.code yX0_spotOf cX0_spotOf 4 (Option.some Jvm.ClassFile.FieldType.int) ∈ lw_tbl := List.mem_append_right _ (show _ ∈ tables_1_1 ++ (tables_1_2 ++ tables_1_3) from List.mem_append_left _ (List.mem_of_getElem? (i := 137) rfl))
set_option maxRecDepth 20000 in
theorem tM_RX0_97 : Cond.methodLink RX0 97 yX0_isAnswer ∈ lw_tbl := List.mem_append_right _ (show _ ∈ tables_1_1 ++ (tables_1_2 ++ tables_1_3) from List.mem_append_left _ (List.mem_of_getElem? (i := 138) (by decide +kernel)))
set_option maxRecDepth 20000 in
theorem tV_yX0_isAnswer : Cond.instanceMethod yX0_isAnswer ∈ lw_tbl := List.mem_append_right _ (show _ ∈ tables_1_1 ++ (tables_1_2 ++ tables_1_3) from List.mem_append_left _ (List.mem_of_getElem? (i := 140) (by decide +kernel)))
set_option maxRecDepth 20000 in
theorem tK_yX0_isAnswer : Cond.code yX0_isAnswer cX0_isAnswer 4 (Option.some Jvm.ClassFile.FieldType.boolean) ∈ lw_tbl := List.mem_append_right _ (show _ ∈ tables_1_1 ++ (tables_1_2 ++ tables_1_3) from List.mem_append_left _ (List.mem_of_getElem? (i := 141) rfl))
set_option maxRecDepth 20000 in
theorem tM_RX0_100 : Cond.methodLink RX0 100 yX0_worth ∈ lw_tbl := List.mem_append_right _ (show _ ∈ tables_1_1 ++ (tables_1_2 ++ tables_1_3) from List.mem_append_left _ (List.mem_of_getElem? (i := 142) (by decide +kernel)))
set_option maxRecDepth 20000 in
theorem tV_yX0_worth : Cond.instanceMethod yX0_worth ∈ lw_tbl := List.mem_append_right _ (show _ ∈ tables_1_1 ++ (tables_1_2 ++ tables_1_3) from List.mem_append_left _ (List.mem_of_getElem? (i := 144) (by decide +kernel)))
set_option maxRecDepth 20000 in
theorem tK_yX0_worth : Cond.code yX0_worth cX0_worth 3 (Option.some Jvm.ClassFile.FieldType.int) ∈ lw_tbl := List.mem_append_right _ (show _ ∈ tables_1_1 ++ (tables_1_2 ++ tables_1_3) from List.mem_append_left _ (List.mem_of_getElem? (i := 145) rfl))
set_option maxRecDepth 20000 in
theorem tM_RX0_206 : Cond.methodLink RX0 206 yX0_stepsInRow ∈ lw_tbl := List.mem_append_right _ (show _ ∈ tables_1_1 ++ (tables_1_2 ++ tables_1_3) from List.mem_append_left _ (List.mem_of_getElem? (i := 146) (by decide +kernel)))
set_option maxRecDepth 20000 in
theorem tS_yX0_stepsInRow : Cond.static yX0_stepsInRow ∈ lw_tbl := List.mem_append_right _ (show _ ∈ tables_1_1 ++ (tables_1_2 ++ tables_1_3) from List.mem_append_left _ (List.mem_of_getElem? (i := 147) (by decide +kernel)))
set_option maxRecDepth 20000 in
theorem tK_yX0_stepsInRow : Cond.code yX0_stepsInRow cX0_stepsInRow 2 (Option.some Jvm.ClassFile.FieldType.int) ∈ lw_tbl := List.mem_append_right _ (show _ ∈ tables_1_1 ++ (tables_1_2 ++ tables_1_3) from List.mem_append_left _ (List.mem_of_getElem? (i := 148) rfl))
set_option maxRecDepth 20000 in
theorem tM_RL_48 : Cond.methodLink RL 48 yX0_gap ∈ lw_tbl := List.mem_append_right _ (show _ ∈ tables_1_1 ++ (tables_1_2 ++ tables_1_3) from List.mem_append_left _ (List.mem_of_getElem? (i := 149) (by decide +kernel)))
set_option maxRecDepth 20000 in
theorem tV_yX0_gap : Cond.instanceMethod yX0_gap ∈ lw_tbl := List.mem_append_right _ (show _ ∈ tables_1_1 ++ (tables_1_2 ++ tables_1_3) from List.mem_append_left _ (List.mem_of_getElem? (i := 150) (by decide +kernel)))
set_option maxRecDepth 20000 in
theorem tP_yX0_gap : Cond.selects yX0_gap.cls yX0_gap yX0_gap ∈ lw_tbl := List.mem_append_right _ (show _ ∈ tables_1_1 ++ (tables_1_2 ++ tables_1_3) from List.mem_append_left _ (List.mem_of_getElem? (i := 151) (by decide +kernel)))
set_option maxRecDepth 20000 in
theorem tK_yX0_gap : Cond.code yX0_gap cX0_gap 5 (Option.some Jvm.ClassFile.FieldType.int) ∈ lw_tbl := List.mem_append_right _ (show _ ∈ tables_1_1 ++ (tables_1_2 ++ tables_1_3) from List.mem_append_left _ (List.mem_of_getElem? (i := 152) rfl))
set_option maxRecDepth 20000 in
theorem tM_RL_54 : Cond.methodLink RL 54 yX0_row ∈ lw_tbl := List.mem_append_right _ (show _ ∈ tables_1_1 ++ (tables_1_2 ++ tables_1_3) from List.mem_append_left _ (List.mem_of_getElem? (i := 153) (by decide +kernel)))
set_option maxRecDepth 20000 in
theorem tV_yX0_row : Cond.instanceMethod yX0_row ∈ lw_tbl := List.mem_append_right _ (show _ ∈ tables_1_1 ++ (tables_1_2 ++ tables_1_3) from List.mem_append_left _ (List.mem_of_getElem? (i := 154) (by decide +kernel)))
set_option maxRecDepth 20000 in
theorem tP_yX0_row : Cond.selects yX0_row.cls yX0_row yX0_row ∈ lw_tbl := List.mem_append_right _ (show _ ∈ tables_1_1 ++ (tables_1_2 ++ tables_1_3) from List.mem_append_left _ (List.mem_of_getElem? (i := 155) (by decide +kernel)))
set_option maxRecDepth 20000 in
theorem tK_yX0_row : Cond.code yX0_row cX0_row 9 (Option.some Jvm.ClassFile.FieldType.int) ∈ lw_tbl := List.mem_append_right _ (show _ ∈ tables_1_1 ++ (tables_1_2 ++ tables_1_3) from List.mem_append_left _ (List.mem_of_getElem? (i := 156) rfl))
set_option maxRecDepth 20000 in
theorem tM_RX0_106 : Cond.methodLink RX0 106 yJ9_min_7cf53 ∈ lw_tbl := List.mem_append_right _ (show _ ∈ tables_1_1 ++ (tables_1_2 ++ tables_1_3) from List.mem_append_left _ (List.mem_of_getElem? (i := 157) (by decide +kernel)))
set_option maxRecDepth 20000 in
theorem tS_yJ9_min_7cf53 : Cond.static yJ9_min_7cf53 ∈ lw_tbl := List.mem_append_right _ (show _ ∈ tables_1_1 ++ (tables_1_2 ++ tables_1_3) from List.mem_append_left _ (List.mem_of_getElem? (i := 158) (by decide +kernel)))
set_option maxRecDepth 20000 in
theorem tK_yJ9_min_7cf53 : Cond.code yJ9_min_7cf53 cJ9_min_7cf53 2 (Option.some Jvm.ClassFile.FieldType.int) ∈ lw_tbl := List.mem_append_right _ (show _ ∈ tables_1_1 ++ (tables_1_2 ++ tables_1_3) from List.mem_append_left _ (List.mem_of_getElem? (i := 159) rfl))
set_option maxRecDepth 20000 in
theorem tM_RL_59 : Cond.methodLink RL 59 yX0_mark ∈ lw_tbl := List.mem_append_right _ (show _ ∈ tables_1_1 ++ (tables_1_2 ++ tables_1_3) from List.mem_append_left _ (List.mem_of_getElem? (i := 160) (by decide +kernel)))
set_option maxRecDepth 20000 in
theorem tV_yX0_mark : Cond.instanceMethod yX0_mark ∈ lw_tbl := List.mem_append_right _ (show _ ∈ tables_1_1 ++ (tables_1_2 ++ tables_1_3) from List.mem_append_left _ (List.mem_of_getElem? (i := 161) (by decide +kernel)))
set_option maxRecDepth 20000 in
theorem tP_yX0_mark : Cond.selects yX0_mark.cls yX0_mark yX0_mark ∈ lw_tbl := List.mem_append_right _ (show _ ∈ tables_1_1 ++ (tables_1_2 ++ tables_1_3) from List.mem_append_left _ (List.mem_of_getElem? (i := 162) (by decide +kernel)))
set_option maxRecDepth 20000 in
theorem tK_yX0_mark : Cond.code yX0_mark cX0_mark 4 (Option.some Jvm.ClassFile.FieldType.int) ∈ lw_tbl := List.mem_append_right _ (show _ ∈ tables_1_1 ++ (tables_1_2 ++ tables_1_3) from List.mem_append_left _ (List.mem_of_getElem? (i := 163) rfl))
set_option maxRecDepth 20000 in
theorem tM_RX0_111 : Cond.methodLink RX0 111 yX0_markAt ∈ lw_tbl := List.mem_append_right _ (show _ ∈ tables_1_1 ++ (tables_1_2 ++ tables_1_3) from List.mem_append_left _ (List.mem_of_getElem? (i := 164) (by decide +kernel)))
set_option maxRecDepth 20000 in
theorem tV_yX0_markAt : Cond.instanceMethod yX0_markAt ∈ lw_tbl := List.mem_append_right _ (show _ ∈ tables_1_1 ++ (tables_1_2 ++ tables_1_3) from List.mem_append_left _ (List.mem_of_getElem? (i := 166) (by decide +kernel)))
set_option maxRecDepth 20000 in
theorem tK_yX0_markAt : Cond.code yX0_markAt cX0_markAt 4 (Option.some Jvm.ClassFile.FieldType.int) ∈ lw_tbl := List.mem_append_right _ (show _ ∈ tables_1_1 ++ (tables_1_2 ++ tables_1_3) from List.mem_append_left _ (List.mem_of_getElem? (i := 167) rfl))
set_option maxRecDepth 20000 in
theorem tM_RL_63 : Cond.methodLink RL 63 yX0_come ∈ lw_tbl := List.mem_append_right _ (show _ ∈ tables_1_1 ++ (tables_1_2 ++ tables_1_3) from List.mem_append_left _ (List.mem_of_getElem? (i := 168) (by decide +kernel)))
set_option maxRecDepth 20000 in
theorem tV_yX0_come : Cond.instanceMethod yX0_come ∈ lw_tbl := List.mem_append_right _ (show _ ∈ tables_1_1 ++ (tables_1_2 ++ tables_1_3) from List.mem_append_left _ (List.mem_of_getElem? (i := 169) (by decide +kernel)))
set_option maxRecDepth 20000 in
theorem tP_yX0_come : Cond.selects yX0_come.cls yX0_come yX0_come ∈ lw_tbl := List.mem_append_right _ (show _ ∈ tables_1_1 ++ (tables_1_2 ++ tables_1_3) from List.mem_append_left _ (List.mem_of_getElem? (i := 170) (by decide +kernel)))
set_option maxRecDepth 20000 in
theorem tK_yX0_come : Cond.code yX0_come cX0_come 4 (Option.some Jvm.ClassFile.FieldType.int) ∈ lw_tbl := List.mem_append_right _ (show _ ∈ tables_1_1 ++ (tables_1_2 ++ tables_1_3) from List.mem_append_left _ (List.mem_of_getElem? (i := 171) rfl))
set_option maxRecDepth 20000 in
theorem tM_RX0_114 : Cond.methodLink RX0 114 yX0_hasComeTo ∈ lw_tbl := List.mem_append_right _ (show _ ∈ tables_1_1 ++ (tables_1_2 ++ tables_1_3) from List.mem_append_left _ (List.mem_of_getElem? (i := 172) (by decide +kernel)))
set_option maxRecDepth 20000 in
theorem tV_yX0_hasComeTo : Cond.instanceMethod yX0_hasComeTo ∈ lw_tbl := List.mem_append_right _ (show _ ∈ tables_1_1 ++ (tables_1_2 ++ tables_1_3) from List.mem_append_left _ (List.mem_of_getElem? (i := 174) (by decide +kernel)))
set_option maxRecDepth 20000 in
theorem tK_yX0_hasComeTo : Cond.code yX0_hasComeTo cX0_hasComeTo 5 (Option.some Jvm.ClassFile.FieldType.boolean) ∈ lw_tbl := List.mem_append_right _ (show _ ∈ tables_1_1 ++ (tables_1_2 ++ tables_1_3) from List.mem_append_left _ (List.mem_of_getElem? (i := 175) rfl))
set_option maxRecDepth 20000 in
theorem tM_RL_67 : Cond.methodLink RL 67 yX0_total ∈ lw_tbl := List.mem_append_right _ (show _ ∈ tables_1_1 ++ (tables_1_2 ++ tables_1_3) from List.mem_append_left _ (List.mem_of_getElem? (i := 176) (by decide +kernel)))
set_option maxRecDepth 20000 in
theorem tV_yX0_total : Cond.instanceMethod yX0_total ∈ lw_tbl := List.mem_append_right _ (show _ ∈ tables_1_1 ++ (tables_1_2 ++ tables_1_3) from List.mem_append_left _ (List.mem_of_getElem? (i := 177) (by decide +kernel)))
set_option maxRecDepth 20000 in
theorem tP_yX0_total : Cond.selects yX0_total.cls yX0_total yX0_total ∈ lw_tbl := List.mem_append_right _ (show _ ∈ tables_1_1 ++ (tables_1_2 ++ tables_1_3) from List.mem_append_left _ (List.mem_of_getElem? (i := 178) (by decide +kernel)))
set_option maxRecDepth 20000 in
theorem tK_yX0_total : Cond.code yX0_total cX0_total 2 (Option.some Jvm.ClassFile.FieldType.int) ∈ lw_tbl := List.mem_append_right _ (show _ ∈ tables_1_1 ++ (tables_1_2 ++ tables_1_3) from List.mem_append_left _ (List.mem_of_getElem? (i := 179) rfl))
set_option maxRecDepth 20000 in
theorem tM_RX0_117 : Cond.methodLink RX0 117 yX0_countingSet ∈ lw_tbl := List.mem_append_right _ (show _ ∈ tables_1_1 ++ (tables_1_2 ++ tables_1_3) from List.mem_append_left _ (List.mem_of_getElem? (i := 180) (by decide +kernel)))
set_option maxRecDepth 20000 in
theorem tV_yX0_countingSet : Cond.instanceMethod yX0_countingSet ∈ lw_tbl := List.mem_append_right _ (show _ ∈ tables_1_1 ++ (tables_1_2 ++ tables_1_3) from List.mem_append_left _ (List.mem_of_getElem? (i := 182) (by decide +kernel)))
set_option maxRecDepth 20000 in
theorem tK_yX0_countingSet : Cond.code yX0_countingSet cX0_countingSet 1 (Option.some Jvm.ClassFile.FieldType.int) ∈ lw_tbl := List.mem_append_right _ (show _ ∈ tables_1_1 ++ (tables_1_2 ++ tables_1_3) from List.mem_append_left _ (List.mem_of_getElem? (i := 183) rfl))
set_option maxRecDepth 20000 in
theorem tM_RX0_121 : Cond.methodLink RX0 121 yX0_sumOver ∈ lw_tbl := List.mem_append_right _ (show _ ∈ tables_1_1 ++ (tables_1_2 ++ tables_1_3) from List.mem_append_left _ (List.mem_of_getElem? (i := 184) (by decide +kernel)))
set_option maxRecDepth 20000 in
theorem tV_yX0_sumOver : Cond.instanceMethod yX0_sumOver ∈ lw_tbl := List.mem_append_right _ (show _ ∈ tables_1_1 ++ (tables_1_2 ++ tables_1_3) from List.mem_append_left _ (List.mem_of_getElem? (i := 186) (by decide +kernel)))
set_option maxRecDepth 20000 in
theorem tK_yX0_sumOver : Cond.code yX0_sumOver cX0_sumOver 6 (Option.some Jvm.ClassFile.FieldType.int) ∈ lw_tbl := List.mem_append_right _ (show _ ∈ tables_1_1 ++ (tables_1_2 ++ tables_1_3) from List.mem_append_left _ (List.mem_of_getElem? (i := 187) rfl))
set_option maxRecDepth 20000 in
theorem tM_RL_72 : Cond.methodLink RL 72 yX0_easy ∈ lw_tbl := List.mem_append_right _ (show _ ∈ tables_1_1 ++ (tables_1_2 ++ tables_1_3) from List.mem_append_left _ (List.mem_of_getElem? (i := 188) (by decide +kernel)))
set_option maxRecDepth 20000 in
theorem tV_yX0_easy : Cond.instanceMethod yX0_easy ∈ lw_tbl := List.mem_append_right _ (show _ ∈ tables_1_1 ++ (tables_1_2 ++ tables_1_3) from List.mem_append_left _ (List.mem_of_getElem? (i := 189) (by decide +kernel)))
set_option maxRecDepth 20000 in
theorem tP_yX0_easy : Cond.selects yX0_easy.cls yX0_easy yX0_easy ∈ lw_tbl := List.mem_append_right _ (show _ ∈ tables_1_1 ++ (tables_1_2 ++ tables_1_3) from List.mem_append_left _ (List.mem_of_getElem? (i := 190) (by decide +kernel)))
set_option maxRecDepth 20000 in
theorem tK_yX0_easy : Cond.code yX0_easy cX0_easy 9 (Option.some Jvm.ClassFile.FieldType.long) ∈ lw_tbl := List.mem_append_right _ (show _ ∈ tables_1_1 ++ (tables_1_2 ++ tables_1_3) from List.mem_append_left _ (List.mem_of_getElem? (i := 191) rfl))
set_option maxRecDepth 20000 in
theorem tM_RX0_124 : Cond.methodLink RX0 124 yX0_isPart ∈ lw_tbl := List.mem_append_right _ (show _ ∈ tables_1_1 ++ (tables_1_2 ++ tables_1_3) from List.mem_append_left _ (List.mem_of_getElem? (i := 192) (by decide +kernel)))
set_option maxRecDepth 20000 in
theorem tS_yX0_isPart : Cond.static yX0_isPart ∈ lw_tbl := List.mem_append_right _ (show _ ∈ tables_1_1 ++ (tables_1_2 ++ tables_1_3) from List.mem_append_left _ (List.mem_of_getElem? (i := 193) (by decide +kernel)))
set_option maxRecDepth 20000 in
theorem tK_yX0_isPart : Cond.code yX0_isPart cX0_isPart 1 (Option.some Jvm.ClassFile.FieldType.boolean) ∈ lw_tbl := List.mem_append_right _ (show _ ∈ tables_1_1 ++ (tables_1_2 ++ tables_1_3) from List.mem_append_left _ (List.mem_of_getElem? (i := 194) rfl))
set_option maxRecDepth 20000 in
theorem tJ_RX0_127 : Cond.constantLong RX0 127 (-9223372036854775808) ∈ lw_tbl := List.mem_append_right _ (show _ ∈ tables_1_1 ++ (tables_1_2 ++ tables_1_3) from List.mem_append_left _ (List.mem_of_getElem? (i := 195) (by decide +kernel)))
set_option maxRecDepth 20000 in
theorem tM_RX0_129 : Cond.methodLink RX0 129 yX0_spotComeTo ∈ lw_tbl := List.mem_append_right _ (show _ ∈ tables_1_1 ++ (tables_1_2 ++ tables_1_3) from List.mem_append_left _ (List.mem_of_getElem? (i := 196) (by decide +kernel)))
set_option maxRecDepth 20000 in
theorem tV_yX0_spotComeTo : Cond.instanceMethod yX0_spotComeTo ∈ lw_tbl := List.mem_append_right _ (show _ ∈ tables_1_1 ++ (tables_1_2 ++ tables_1_3) from List.mem_append_left _ (List.mem_of_getElem? (i := 198) (by decide +kernel)))
set_option maxRecDepth 20000 in
theorem tK_yX0_spotComeTo : Cond.code yX0_spotComeTo cX0_spotComeTo 4 (Option.some Jvm.ClassFile.FieldType.int) ∈ lw_tbl := List.mem_append_right _ (show _ ∈ tables_1_1 ++ (tables_1_2 ++ tables_1_3) from List.mem_append_left _ (List.mem_of_getElem? (i := 199) rfl))
set_option maxRecDepth 20000 in
theorem tM_RX0_132 : Cond.methodLink RX0 132 yX0_fraction ∈ lw_tbl := List.mem_append_right _ (show _ ∈ tables_1_1 ++ (tables_1_2 ++ tables_1_3) from List.mem_append_left _ (List.mem_of_getElem? (i := 200) (by decide +kernel)))
set_option maxRecDepth 20000 in
theorem tS_yX0_fraction : Cond.static yX0_fraction ∈ lw_tbl := List.mem_append_right _ (show _ ∈ tables_1_1 ++ (tables_1_2 ++ tables_1_3) from List.mem_append_left _ (List.mem_of_getElem? (i := 201) (by decide +kernel)))
set_option maxRecDepth 20000 in
theorem tK_yX0_fraction : Cond.code yX0_fraction cX0_fraction 7 (Option.some Jvm.ClassFile.FieldType.long) ∈ lw_tbl := List.mem_append_right _ (show _ ∈ tables_1_1 ++ (tables_1_2 ++ tables_1_3) from List.mem_append_left _ (List.mem_of_getElem? (i := 202) rfl))
set_option maxRecDepth 20000 in
theorem tM_RX0_189 : Cond.methodLink RX0 189 yJ9_abs_067f4 ∈ lw_tbl := List.mem_append_right _ (show _ ∈ tables_1_1 ++ (tables_1_2 ++ tables_1_3) from List.mem_append_left _ (List.mem_of_getElem? (i := 203) (by decide +kernel)))
set_option maxRecDepth 20000 in
theorem tS_yJ9_abs_067f4 : Cond.static yJ9_abs_067f4 ∈ lw_tbl := List.mem_append_right _ (show _ ∈ tables_1_1 ++ (tables_1_2 ++ tables_1_3) from List.mem_append_left _ (List.mem_of_getElem? (i := 204) (by decide +kernel)))
set_option maxRecDepth 20000 in
theorem tK_yJ9_abs_067f4 : Cond.code yJ9_abs_067f4 cJ9_abs_067f4 2 (Option.some Jvm.ClassFile.FieldType.long) ∈ lw_tbl := List.mem_append_right _ (show _ ∈ tables_1_1 ++ (tables_1_2 ++ tables_1_3) from List.mem_append_left _ (List.mem_of_getElem? (i := 205) rfl))
set_option maxRecDepth 20000 in
theorem tM_RX0_212 : Cond.methodLink RX0 212 yX0_commonDivisor ∈ lw_tbl := List.mem_append_right _ (show _ ∈ tables_1_1 ++ (tables_1_2 ++ tables_1_3) from List.mem_append_left _ (List.mem_of_getElem? (i := 206) (by decide +kernel)))
set_option maxRecDepth 20000 in
theorem tS_yX0_commonDivisor : Cond.static yX0_commonDivisor ∈ lw_tbl := List.mem_append_right _ (show _ ∈ tables_1_1 ++ (tables_1_2 ++ tables_1_3) from List.mem_append_left _ (List.mem_of_getElem? (i := 207) (by decide +kernel)))
set_option maxRecDepth 20000 in
theorem tK_yX0_commonDivisor : Cond.code yX0_commonDivisor cX0_commonDivisor 11 (Option.some Jvm.ClassFile.FieldType.long) ∈ lw_tbl := List.mem_append_right _ (show _ ∈ tables_1_1 ++ (tables_1_2 ++ tables_1_3) from List.mem_append_left _ (List.mem_of_getElem? (i := 208) rfl))
set_option maxRecDepth 20000 in
theorem tM_RL_77 : Cond.methodLink RL 77 yX0_sharp ∈ lw_tbl := List.mem_append_right _ (show _ ∈ tables_1_1 ++ (tables_1_2 ++ tables_1_3) from List.mem_append_left _ (List.mem_of_getElem? (i := 209) (by decide +kernel)))
set_option maxRecDepth 20000 in
theorem tV_yX0_sharp : Cond.instanceMethod yX0_sharp ∈ lw_tbl := List.mem_append_right _ (show _ ∈ tables_1_1 ++ (tables_1_2 ++ tables_1_3) from List.mem_append_left _ (List.mem_of_getElem? (i := 210) (by decide +kernel)))
set_option maxRecDepth 20000 in
theorem tP_yX0_sharp : Cond.selects yX0_sharp.cls yX0_sharp yX0_sharp ∈ lw_tbl := List.mem_append_right _ (show _ ∈ tables_1_1 ++ (tables_1_2 ++ tables_1_3) from List.mem_append_left _ (List.mem_of_getElem? (i := 211) (by decide +kernel)))
set_option maxRecDepth 20000 in
theorem tK_yX0_sharp : Cond.code yX0_sharp cX0_sharp 17 (Option.some Jvm.ClassFile.FieldType.long) ∈ lw_tbl := List.mem_append_right _ (show _ ∈ tables_1_1 ++ (tables_1_2 ++ tables_1_3) from List.mem_append_left _ (List.mem_of_getElem? (i := 212) rfl))
set_option maxRecDepth 20000 in
theorem tM_RL_82 : Cond.methodLink RL 82 yX0_leaky ∈ lw_tbl := List.mem_append_right _ (show _ ∈ tables_1_1 ++ (tables_1_2 ++ tables_1_3) from List.mem_append_left _ (List.mem_of_getElem? (i := 213) (by decide +kernel)))
set_option maxRecDepth 20000 in
theorem tV_yX0_leaky : Cond.instanceMethod yX0_leaky ∈ lw_tbl := List.mem_append_right _ (show _ ∈ tables_1_1 ++ (tables_1_2 ++ tables_1_3) from List.mem_append_left _ (List.mem_of_getElem? (i := 214) (by decide +kernel)))
set_option maxRecDepth 20000 in
theorem tP_yX0_leaky : Cond.selects yX0_leaky.cls yX0_leaky yX0_leaky ∈ lw_tbl := List.mem_append_right _ (show _ ∈ tables_1_1 ++ (tables_1_2 ++ tables_1_3) from List.mem_append_left _ (List.mem_of_getElem? (i := 215) (by decide +kernel)))
set_option maxRecDepth 20000 in
theorem tK_yX0_leaky : Cond.code yX0_leaky cX0_leaky 4 (Option.some Jvm.ClassFile.FieldType.int) ∈ lw_tbl := List.mem_append_right _ (show _ ∈ tables_1_1 ++ (tables_1_2 ++ tables_1_3) from List.mem_append_left _ (List.mem_of_getElem? (i := 216) rfl))
set_option maxRecDepth 20000 in
theorem tM_RX0_136 : Cond.methodLink RX0 136 yX0_isBar ∈ lw_tbl := List.mem_append_right _ (show _ ∈ tables_1_1 ++ (tables_1_2 ++ tables_1_3) from List.mem_append_left _ (List.mem_of_getElem? (i := 217) (by decide +kernel)))
set_option maxRecDepth 20000 in
theorem tS_yX0_isBar : Cond.static yX0_isBar ∈ lw_tbl := List.mem_append_right _ (show _ ∈ tables_1_1 ++ (tables_1_2 ++ tables_1_3) from List.mem_append_left _ (List.mem_of_getElem? (i := 218) (by decide +kernel)))
set_option maxRecDepth 20000 in
theorem tK_yX0_isBar : Cond.code yX0_isBar cX0_isBar 1 (Option.some Jvm.ClassFile.FieldType.boolean) ∈ lw_tbl := List.mem_append_right _ (show _ ∈ tables_1_1 ++ (tables_1_2 ++ tables_1_3) from List.mem_append_left _ (List.mem_of_getElem? (i := 219) rfl))
set_option maxRecDepth 20000 in
theorem tM_RX0_139 : Cond.methodLink RX0 139 yX0_tallyPlaces ∈ lw_tbl := List.mem_append_right _ (show _ ∈ tables_1_1 ++ (tables_1_2 ++ tables_1_3) from List.mem_append_left _ (List.mem_of_getElem? (i := 220) (by decide +kernel)))
set_option maxRecDepth 20000 in
theorem tV_yX0_tallyPlaces : Cond.instanceMethod yX0_tallyPlaces ∈ lw_tbl := List.mem_append_right _ (show _ ∈ tables_1_1 ++ (tables_1_2 ++ tables_1_3) from List.mem_append_left _ (List.mem_of_getElem? (i := 222) (by decide +kernel)))
set_option maxRecDepth 20000 in
theorem tK_yX0_tallyPlaces : Cond.code yX0_tallyPlaces cX0_tallyPlaces 4 (Option.none : Option Jvm.ClassFile.FieldType) ∈ lw_tbl := List.mem_append_right _ (show _ ∈ tables_1_1 ++ (tables_1_2 ++ tables_1_3) from List.mem_append_left _ (List.mem_of_getElem? (i := 223) rfl))
set_option maxRecDepth 20000 in
theorem tM_RX0_143 : Cond.methodLink RX0 143 yX0_isLeakyByTally ∈ lw_tbl := List.mem_append_right _ (show _ ∈ tables_1_1 ++ (tables_1_2 ++ tables_1_3) from List.mem_append_left _ (List.mem_of_getElem? (i := 224) (by decide +kernel)))
set_option maxRecDepth 20000 in
theorem tV_yX0_isLeakyByTally : Cond.instanceMethod yX0_isLeakyByTally ∈ lw_tbl := List.mem_append_right _ (show _ ∈ tables_1_1 ++ (tables_1_2 ++ tables_1_3) from List.mem_append_left _ (List.mem_of_getElem? (i := 226) (by decide +kernel)))
set_option maxRecDepth 20000 in
theorem tK_yX0_isLeakyByTally : Cond.code yX0_isLeakyByTally cX0_isLeakyByTally 8 (Option.some Jvm.ClassFile.FieldType.boolean) ∈ lw_tbl := List.mem_append_right _ (show _ ∈ tables_1_1 ++ (tables_1_2 ++ tables_1_3) from List.mem_append_left _ (List.mem_of_getElem? (i := 227) rfl))
set_option maxRecDepth 20000 in
theorem tM_RL_86 : Cond.methodLink RL 86 yX0_leak ∈ lw_tbl := List.mem_append_right _ (show _ ∈ tables_1_1 ++ (tables_1_2 ++ tables_1_3) from List.mem_append_left _ (List.mem_of_getElem? (i := 228) (by decide +kernel)))
set_option maxRecDepth 20000 in
theorem tV_yX0_leak : Cond.instanceMethod yX0_leak ∈ lw_tbl := List.mem_append_right _ (show _ ∈ tables_1_1 ++ (tables_1_2 ++ tables_1_3) from List.mem_append_left _ (List.mem_of_getElem? (i := 229) (by decide +kernel)))
set_option maxRecDepth 20000 in
theorem tP_yX0_leak : Cond.selects yX0_leak.cls yX0_leak yX0_leak ∈ lw_tbl := List.mem_append_right _ (show _ ∈ tables_1_1 ++ (tables_1_2 ++ tables_1_3) from List.mem_append_left _ (List.mem_of_getElem? (i := 230) (by decide +kernel)))
set_option maxRecDepth 20000 in
theorem tK_yX0_leak : Cond.code yX0_leak cX0_leak 6 (Option.some Jvm.ClassFile.FieldType.int) ∈ lw_tbl := List.mem_append_right _ (show _ ∈ tables_1_1 ++ (tables_1_2 ++ tables_1_3) from List.mem_append_left _ (List.mem_of_getElem? (i := 231) rfl))
set_option maxRecDepth 20000 in
theorem tM_RL_90 : Cond.methodLink RL 90 yX0_shared ∈ lw_tbl := List.mem_append_right _ (show _ ∈ tables_1_1 ++ (tables_1_2 ++ tables_1_3) from List.mem_append_left _ (List.mem_of_getElem? (i := 232) (by decide +kernel)))
set_option maxRecDepth 20000 in
theorem tV_yX0_shared : Cond.instanceMethod yX0_shared ∈ lw_tbl := List.mem_append_right _ (show _ ∈ tables_1_1 ++ (tables_1_2 ++ tables_1_3) from List.mem_append_left _ (List.mem_of_getElem? (i := 233) (by decide +kernel)))
set_option maxRecDepth 20000 in
theorem tP_yX0_shared : Cond.selects yX0_shared.cls yX0_shared yX0_shared ∈ lw_tbl := List.mem_append_right _ (show _ ∈ tables_1_1 ++ (tables_1_2 ++ tables_1_3) from List.mem_append_left _ (List.mem_of_getElem? (i := 234) (by decide +kernel)))
set_option maxRecDepth 20000 in
theorem tK_yX0_shared : Cond.code yX0_shared cX0_shared 3 (Option.some Jvm.ClassFile.FieldType.int) ∈ lw_tbl := List.mem_append_right _ (show _ ∈ tables_1_1 ++ (tables_1_2 ++ tables_1_3) from List.mem_append_left _ (List.mem_of_getElem? (i := 235) rfl))
set_option maxRecDepth 20000 in
theorem tM_RX0_146 : Cond.methodLink RX0 146 yX0_sharedSet ∈ lw_tbl := List.mem_append_right _ (show _ ∈ tables_1_1 ++ (tables_1_2 ++ tables_1_3) from List.mem_append_left _ (List.mem_of_getElem? (i := 236) (by decide +kernel)))
set_option maxRecDepth 20000 in
theorem tV_yX0_sharedSet : Cond.instanceMethod yX0_sharedSet ∈ lw_tbl := List.mem_append_right _ (show _ ∈ tables_1_1 ++ (tables_1_2 ++ tables_1_3) from List.mem_append_left _ (List.mem_of_getElem? (i := 238) (by decide +kernel)))
set_option maxRecDepth 20000 in
theorem tK_yX0_sharedSet : Cond.code yX0_sharedSet cX0_sharedSet 3 (Option.some Jvm.ClassFile.FieldType.int) ∈ lw_tbl := List.mem_append_right _ (show _ ∈ tables_1_1 ++ (tables_1_2 ++ tables_1_3) from List.mem_append_left _ (List.mem_of_getElem? (i := 239) rfl))
set_option maxRecDepth 20000 in
theorem tM_RX0_149 : Cond.methodLink RX0 149 yJ6_bitCount_0f7a4 ∈ lw_tbl := List.mem_append_right _ (show _ ∈ tables_1_1 ++ (tables_1_2 ++ tables_1_3) from List.mem_append_right _ (List.mem_append_left _ (List.mem_of_getElem? (i := 0) (by decide +kernel))))
set_option maxRecDepth 20000 in
theorem tS_yJ6_bitCount_0f7a4 : Cond.static yJ6_bitCount_0f7a4 ∈ lw_tbl := List.mem_append_right _ (show _ ∈ tables_1_1 ++ (tables_1_2 ++ tables_1_3) from List.mem_append_right _ (List.mem_append_left _ (List.mem_of_getElem? (i := 1) (by decide +kernel))))
set_option maxRecDepth 20000 in
theorem tK_yJ6_bitCount_0f7a4 : Cond.code yJ6_bitCount_0f7a4 cJ6_bitCount_0f7a4 1 (Option.some Jvm.ClassFile.FieldType.int) ∈ lw_tbl := List.mem_append_right _ (show _ ∈ tables_1_1 ++ (tables_1_2 ++ tables_1_3) from List.mem_append_right _ (List.mem_append_left _ (List.mem_of_getElem? (i := 2) rfl)))
set_option maxRecDepth 20000 in
theorem tG_RJ6_265 : Cond.constant RJ6 265 (1431655765) ∈ lw_tbl := List.mem_append_right _ (show _ ∈ tables_1_1 ++ (tables_1_2 ++ tables_1_3) from List.mem_append_right _ (List.mem_append_left _ (List.mem_of_getElem? (i := 3) (by decide +kernel))))
set_option maxRecDepth 20000 in
theorem tG_RJ6_266 : Cond.constant RJ6 266 (858993459) ∈ lw_tbl := List.mem_append_right _ (show _ ∈ tables_1_1 ++ (tables_1_2 ++ tables_1_3) from List.mem_append_right _ (List.mem_append_left _ (List.mem_of_getElem? (i := 4) (by decide +kernel))))
set_option maxRecDepth 20000 in
theorem tG_RJ6_267 : Cond.constant RJ6 267 (252645135) ∈ lw_tbl := List.mem_append_right _ (show _ ∈ tables_1_1 ++ (tables_1_2 ++ tables_1_3) from List.mem_append_right _ (List.mem_append_left _ (List.mem_of_getElem? (i := 5) (by decide +kernel))))
set_option maxRecDepth 20000 in
theorem tM_RL_94 : Cond.methodLink RL 94 yX0_sum ∈ lw_tbl := List.mem_append_right _ (show _ ∈ tables_1_1 ++ (tables_1_2 ++ tables_1_3) from List.mem_append_right _ (List.mem_append_left _ (List.mem_of_getElem? (i := 6) (by decide +kernel))))
set_option maxRecDepth 20000 in
theorem tV_yX0_sum : Cond.instanceMethod yX0_sum ∈ lw_tbl := List.mem_append_right _ (show _ ∈ tables_1_1 ++ (tables_1_2 ++ tables_1_3) from List.mem_append_right _ (List.mem_append_left _ (List.mem_of_getElem? (i := 7) (by decide +kernel))))
set_option maxRecDepth 20000 in
theorem tP_yX0_sum : Cond.selects yX0_sum.cls yX0_sum yX0_sum ∈ lw_tbl := List.mem_append_right _ (show _ ∈ tables_1_1 ++ (tables_1_2 ++ tables_1_3) from List.mem_append_right _ (List.mem_append_left _ (List.mem_of_getElem? (i := 8) (by decide +kernel))))
set_option maxRecDepth 20000 in
theorem tK_yX0_sum : Cond.code yX0_sum cX0_sum 4 (Option.some Jvm.ClassFile.FieldType.int) ∈ lw_tbl := List.mem_append_right _ (show _ ∈ tables_1_1 ++ (tables_1_2 ++ tables_1_3) from List.mem_append_right _ (List.mem_append_left _ (List.mem_of_getElem? (i := 9) rfl)))
set_option maxRecDepth 20000 in
theorem tM_RL_98 : Cond.methodLink RL 98 yX0_group ∈ lw_tbl := List.mem_append_right _ (show _ ∈ tables_1_1 ++ (tables_1_2 ++ tables_1_3) from List.mem_append_right _ (List.mem_append_left _ (List.mem_of_getElem? (i := 10) (by decide +kernel))))
set_option maxRecDepth 20000 in
theorem tV_yX0_group : Cond.instanceMethod yX0_group ∈ lw_tbl := List.mem_append_right _ (show _ ∈ tables_1_1 ++ (tables_1_2 ++ tables_1_3) from List.mem_append_right _ (List.mem_append_left _ (List.mem_of_getElem? (i := 11) (by decide +kernel))))
set_option maxRecDepth 20000 in
theorem tP_yX0_group : Cond.selects yX0_group.cls yX0_group yX0_group ∈ lw_tbl := List.mem_append_right _ (show _ ∈ tables_1_1 ++ (tables_1_2 ++ tables_1_3) from List.mem_append_right _ (List.mem_append_left _ (List.mem_of_getElem? (i := 12) (by decide +kernel))))
set_option maxRecDepth 20000 in
theorem tK_yX0_group : Cond.code yX0_group cX0_group 5 (Option.some Jvm.ClassFile.FieldType.long) ∈ lw_tbl := List.mem_append_right _ (show _ ∈ tables_1_1 ++ (tables_1_2 ++ tables_1_3) from List.mem_append_right _ (List.mem_append_left _ (List.mem_of_getElem? (i := 13) rfl)))
set_option maxRecDepth 20000 in
theorem tM_RX0_155 : Cond.methodLink RX0 155 yX0_gatherSums ∈ lw_tbl := List.mem_append_right _ (show _ ∈ tables_1_1 ++ (tables_1_2 ++ tables_1_3) from List.mem_append_right _ (List.mem_append_left _ (List.mem_of_getElem? (i := 14) (by decide +kernel))))
set_option maxRecDepth 20000 in
theorem tV_yX0_gatherSums : Cond.instanceMethod yX0_gatherSums ∈ lw_tbl := List.mem_append_right _ (show _ ∈ tables_1_1 ++ (tables_1_2 ++ tables_1_3) from List.mem_append_right _ (List.mem_append_left _ (List.mem_of_getElem? (i := 16) (by decide +kernel))))
set_option maxRecDepth 20000 in
theorem tK_yX0_gatherSums : Cond.code yX0_gatherSums cX0_gatherSums 5 (Option.some Jvm.ClassFile.FieldType.int) ∈ lw_tbl := List.mem_append_right _ (show _ ∈ tables_1_1 ++ (tables_1_2 ++ tables_1_3) from List.mem_append_right _ (List.mem_append_left _ (List.mem_of_getElem? (i := 17) rfl)))
set_option maxRecDepth 20000 in
theorem tM_RX0_158 : Cond.methodLink RX0 158 yX0_sumOfValues ∈ lw_tbl := List.mem_append_right _ (show _ ∈ tables_1_1 ++ (tables_1_2 ++ tables_1_3) from List.mem_append_right _ (List.mem_append_left _ (List.mem_of_getElem? (i := 18) (by decide +kernel))))
set_option maxRecDepth 20000 in
theorem tV_yX0_sumOfValues : Cond.instanceMethod yX0_sumOfValues ∈ lw_tbl := List.mem_append_right _ (show _ ∈ tables_1_1 ++ (tables_1_2 ++ tables_1_3) from List.mem_append_right _ (List.mem_append_left _ (List.mem_of_getElem? (i := 20) (by decide +kernel))))
set_option maxRecDepth 20000 in
theorem tK_yX0_sumOfValues : Cond.code yX0_sumOfValues cX0_sumOfValues 5 (Option.some Jvm.ClassFile.FieldType.long) ∈ lw_tbl := List.mem_append_right _ (show _ ∈ tables_1_1 ++ (tables_1_2 ++ tables_1_3) from List.mem_append_right _ (List.mem_append_left _ (List.mem_of_getElem? (i := 21) rfl)))
set_option maxRecDepth 20000 in
theorem tM_RX0_162 : Cond.methodLink RX0 162 yX0_awayOfValues ∈ lw_tbl := List.mem_append_right _ (show _ ∈ tables_1_1 ++ (tables_1_2 ++ tables_1_3) from List.mem_append_right _ (List.mem_append_left _ (List.mem_of_getElem? (i := 22) (by decide +kernel))))
set_option maxRecDepth 20000 in
theorem tV_yX0_awayOfValues : Cond.instanceMethod yX0_awayOfValues ∈ lw_tbl := List.mem_append_right _ (show _ ∈ tables_1_1 ++ (tables_1_2 ++ tables_1_3) from List.mem_append_right _ (List.mem_append_left _ (List.mem_of_getElem? (i := 24) (by decide +kernel))))
set_option maxRecDepth 20000 in
theorem tK_yX0_awayOfValues : Cond.code yX0_awayOfValues cX0_awayOfValues 7 (Option.some Jvm.ClassFile.FieldType.long) ∈ lw_tbl := List.mem_append_right _ (show _ ∈ tables_1_1 ++ (tables_1_2 ++ tables_1_3) from List.mem_append_right _ (List.mem_append_left _ (List.mem_of_getElem? (i := 25) rfl)))
set_option maxRecDepth 20000 in
theorem tM_RL_103 : Cond.methodLink RL 103 yX0_scale ∈ lw_tbl := List.mem_append_right _ (show _ ∈ tables_1_1 ++ (tables_1_2 ++ tables_1_3) from List.mem_append_right _ (List.mem_append_left _ (List.mem_of_getElem? (i := 26) (by decide +kernel))))
set_option maxRecDepth 20000 in
theorem tV_yX0_scale : Cond.instanceMethod yX0_scale ∈ lw_tbl := List.mem_append_right _ (show _ ∈ tables_1_1 ++ (tables_1_2 ++ tables_1_3) from List.mem_append_right _ (List.mem_append_left _ (List.mem_of_getElem? (i := 27) (by decide +kernel))))
set_option maxRecDepth 20000 in
theorem tP_yX0_scale : Cond.selects yX0_scale.cls yX0_scale yX0_scale ∈ lw_tbl := List.mem_append_right _ (show _ ∈ tables_1_1 ++ (tables_1_2 ++ tables_1_3) from List.mem_append_right _ (List.mem_append_left _ (List.mem_of_getElem? (i := 28) (by decide +kernel))))
set_option maxRecDepth 20000 in
theorem tK_yX0_scale : Cond.code yX0_scale cX0_scale 21 (Option.some Jvm.ClassFile.FieldType.long) ∈ lw_tbl := List.mem_append_right _ (show _ ∈ tables_1_1 ++ (tables_1_2 ++ tables_1_3) from List.mem_append_right _ (List.mem_append_left _ (List.mem_of_getElem? (i := 29) rfl)))
set_option maxRecDepth 20000 in
theorem tM_RX0_165 : Cond.methodLink RX0 165 yX0_isTotal ∈ lw_tbl := List.mem_append_right _ (show _ ∈ tables_1_1 ++ (tables_1_2 ++ tables_1_3) from List.mem_append_right _ (List.mem_append_left _ (List.mem_of_getElem? (i := 30) (by decide +kernel))))
set_option maxRecDepth 20000 in
theorem tS_yX0_isTotal : Cond.static yX0_isTotal ∈ lw_tbl := List.mem_append_right _ (show _ ∈ tables_1_1 ++ (tables_1_2 ++ tables_1_3) from List.mem_append_right _ (List.mem_append_left _ (List.mem_of_getElem? (i := 31) (by decide +kernel))))
set_option maxRecDepth 20000 in
theorem tK_yX0_isTotal : Cond.code yX0_isTotal cX0_isTotal 1 (Option.some Jvm.ClassFile.FieldType.boolean) ∈ lw_tbl := List.mem_append_right _ (show _ ∈ tables_1_1 ++ (tables_1_2 ++ tables_1_3) from List.mem_append_right _ (List.mem_append_left _ (List.mem_of_getElem? (i := 32) rfl)))
set_option maxRecDepth 20000 in
theorem tM_RX0_168 : Cond.methodLink RX0 168 yX0_group ∈ lw_tbl := List.mem_append_right _ (show _ ∈ tables_1_1 ++ (tables_1_2 ++ tables_1_3) from List.mem_append_right _ (List.mem_append_left _ (List.mem_of_getElem? (i := 33) (by decide +kernel))))
set_option maxRecDepth 20000 in
theorem tM_RL_108 : Cond.methodLink RL 108 yX0_rank ∈ lw_tbl := List.mem_append_right _ (show _ ∈ tables_1_1 ++ (tables_1_2 ++ tables_1_3) from List.mem_append_right _ (List.mem_append_left _ (List.mem_of_getElem? (i := 34) (by decide +kernel))))
set_option maxRecDepth 20000 in
theorem tV_yX0_rank : Cond.instanceMethod yX0_rank ∈ lw_tbl := List.mem_append_right _ (show _ ∈ tables_1_1 ++ (tables_1_2 ++ tables_1_3) from List.mem_append_right _ (List.mem_append_left _ (List.mem_of_getElem? (i := 35) (by decide +kernel))))
set_option maxRecDepth 20000 in
theorem tP_yX0_rank : Cond.selects yX0_rank.cls yX0_rank yX0_rank ∈ lw_tbl := List.mem_append_right _ (show _ ∈ tables_1_1 ++ (tables_1_2 ++ tables_1_3) from List.mem_append_right _ (List.mem_append_left _ (List.mem_of_getElem? (i := 36) (by decide +kernel))))
set_option maxRecDepth 20000 in
theorem tK_yX0_rank : Cond.code yX0_rank cX0_rank 3 (Option.some Jvm.ClassFile.FieldType.int) ∈ lw_tbl := List.mem_append_right _ (show _ ∈ tables_1_1 ++ (tables_1_2 ++ tables_1_3) from List.mem_append_right _ (List.mem_append_left _ (List.mem_of_getElem? (i := 37) rfl)))
set_option maxRecDepth 20000 in
theorem tM_RX0_172 : Cond.methodLink RX0 172 yX0_rankInValues ∈ lw_tbl := List.mem_append_right _ (show _ ∈ tables_1_1 ++ (tables_1_2 ++ tables_1_3) from List.mem_append_right _ (List.mem_append_left _ (List.mem_of_getElem? (i := 38) (by decide +kernel))))
set_option maxRecDepth 20000 in
theorem tV_yX0_rankInValues : Cond.instanceMethod yX0_rankInValues ∈ lw_tbl := List.mem_append_right _ (show _ ∈ tables_1_1 ++ (tables_1_2 ++ tables_1_3) from List.mem_append_right _ (List.mem_append_left _ (List.mem_of_getElem? (i := 40) (by decide +kernel))))
set_option maxRecDepth 20000 in
theorem tK_yX0_rankInValues : Cond.code yX0_rankInValues cX0_rankInValues 5 (Option.some Jvm.ClassFile.FieldType.int) ∈ lw_tbl := List.mem_append_right _ (show _ ∈ tables_1_1 ++ (tables_1_2 ++ tables_1_3) from List.mem_append_right _ (List.mem_append_left _ (List.mem_of_getElem? (i := 41) rfl)))
set_option maxRecDepth 20000 in
theorem tM_RL_112 : Cond.methodLink RL 112 yX0_like ∈ lw_tbl := List.mem_append_right _ (show _ ∈ tables_1_1 ++ (tables_1_2 ++ tables_1_3) from List.mem_append_right _ (List.mem_append_left _ (List.mem_of_getElem? (i := 42) (by decide +kernel))))
set_option maxRecDepth 20000 in
theorem tV_yX0_like : Cond.instanceMethod yX0_like ∈ lw_tbl := List.mem_append_right _ (show _ ∈ tables_1_1 ++ (tables_1_2 ++ tables_1_3) from List.mem_append_right _ (List.mem_append_left _ (List.mem_of_getElem? (i := 43) (by decide +kernel))))
set_option maxRecDepth 20000 in
theorem tP_yX0_like : Cond.selects yX0_like.cls yX0_like yX0_like ∈ lw_tbl := List.mem_append_right _ (show _ ∈ tables_1_1 ++ (tables_1_2 ++ tables_1_3) from List.mem_append_right _ (List.mem_append_left _ (List.mem_of_getElem? (i := 44) (by decide +kernel))))
set_option maxRecDepth 20000 in
theorem tK_yX0_like : Cond.code yX0_like cX0_like 10 (Option.some Jvm.ClassFile.FieldType.int) ∈ lw_tbl := List.mem_append_right _ (show _ ∈ tables_1_1 ++ (tables_1_2 ++ tables_1_3) from List.mem_append_right _ (List.mem_append_left _ (List.mem_of_getElem? (i := 45) rfl)))
set_option maxRecDepth 20000 in
theorem tM_RX0_175 : Cond.methodLink RX0 175 yJ9_max_7cf53 ∈ lw_tbl := List.mem_append_right _ (show _ ∈ tables_1_1 ++ (tables_1_2 ++ tables_1_3) from List.mem_append_right _ (List.mem_append_left _ (List.mem_of_getElem? (i := 46) (by decide +kernel))))
set_option maxRecDepth 20000 in
theorem tS_yJ9_max_7cf53 : Cond.static yJ9_max_7cf53 ∈ lw_tbl := List.mem_append_right _ (show _ ∈ tables_1_1 ++ (tables_1_2 ++ tables_1_3) from List.mem_append_right _ (List.mem_append_left _ (List.mem_of_getElem? (i := 47) (by decide +kernel))))
set_option maxRecDepth 20000 in
theorem tK_yJ9_max_7cf53 : Cond.code yJ9_max_7cf53 cJ9_max_7cf53 2 (Option.some Jvm.ClassFile.FieldType.int) ∈ lw_tbl := List.mem_append_right _ (show _ ∈ tables_1_1 ++ (tables_1_2 ++ tables_1_3) from List.mem_append_right _ (List.mem_append_left _ (List.mem_of_getElem? (i := 48) rfl)))
set_option maxRecDepth 20000 in
theorem tM_RL_116 : Cond.methodLink RL 116 yX0_judge ∈ lw_tbl := List.mem_append_right _ (show _ ∈ tables_1_1 ++ (tables_1_2 ++ tables_1_3) from List.mem_append_right _ (List.mem_append_left _ (List.mem_of_getElem? (i := 49) (by decide +kernel))))
set_option maxRecDepth 20000 in
theorem tV_yX0_judge : Cond.instanceMethod yX0_judge ∈ lw_tbl := List.mem_append_right _ (show _ ∈ tables_1_1 ++ (tables_1_2 ++ tables_1_3) from List.mem_append_right _ (List.mem_append_left _ (List.mem_of_getElem? (i := 50) (by decide +kernel))))
set_option maxRecDepth 20000 in
theorem tP_yX0_judge : Cond.selects yX0_judge.cls yX0_judge yX0_judge ∈ lw_tbl := List.mem_append_right _ (show _ ∈ tables_1_1 ++ (tables_1_2 ++ tables_1_3) from List.mem_append_right _ (List.mem_append_left _ (List.mem_of_getElem? (i := 51) (by decide +kernel))))
set_option maxRecDepth 20000 in
theorem tK_yX0_judge : Cond.code yX0_judge cX0_judge 8 (Option.some Jvm.ClassFile.FieldType.int) ∈ lw_tbl := List.mem_append_right _ (show _ ∈ tables_1_1 ++ (tables_1_2 ++ tables_1_3) from List.mem_append_right _ (List.mem_append_left _ (List.mem_of_getElem? (i := 52) rfl)))
set_option maxRecDepth 20000 in
theorem tM_RL_121 : Cond.methodLink RL 121 yX0_cut ∈ lw_tbl := List.mem_append_right _ (show _ ∈ tables_1_1 ++ (tables_1_2 ++ tables_1_3) from List.mem_append_right _ (List.mem_append_left _ (List.mem_of_getElem? (i := 53) (by decide +kernel))))
set_option maxRecDepth 20000 in
theorem tV_yX0_cut : Cond.instanceMethod yX0_cut ∈ lw_tbl := List.mem_append_right _ (show _ ∈ tables_1_1 ++ (tables_1_2 ++ tables_1_3) from List.mem_append_right _ (List.mem_append_left _ (List.mem_of_getElem? (i := 54) (by decide +kernel))))
set_option maxRecDepth 20000 in
theorem tP_yX0_cut : Cond.selects yX0_cut.cls yX0_cut yX0_cut ∈ lw_tbl := List.mem_append_right _ (show _ ∈ tables_1_1 ++ (tables_1_2 ++ tables_1_3) from List.mem_append_right _ (List.mem_append_left _ (List.mem_of_getElem? (i := 55) (by decide +kernel))))
set_option maxRecDepth 20000 in
theorem tK_yX0_cut : Cond.code yX0_cut cX0_cut 3 (Option.some Jvm.ClassFile.FieldType.long) ∈ lw_tbl := List.mem_append_right _ (show _ ∈ tables_1_1 ++ (tables_1_2 ++ tables_1_3) from List.mem_append_right _ (List.mem_append_left _ (List.mem_of_getElem? (i := 56) rfl)))
set_option maxRecDepth 20000 in
theorem tM_RX0_181 : Cond.methodLink RX0 181 yX0_cutParts ∈ lw_tbl := List.mem_append_right _ (show _ ∈ tables_1_1 ++ (tables_1_2 ++ tables_1_3) from List.mem_append_right _ (List.mem_append_left _ (List.mem_of_getElem? (i := 57) (by decide +kernel))))
set_option maxRecDepth 20000 in
theorem tV_yX0_cutParts : Cond.instanceMethod yX0_cutParts ∈ lw_tbl := List.mem_append_right _ (show _ ∈ tables_1_1 ++ (tables_1_2 ++ tables_1_3) from List.mem_append_right _ (List.mem_append_left _ (List.mem_of_getElem? (i := 59) (by decide +kernel))))
set_option maxRecDepth 20000 in
theorem tK_yX0_cutParts : Cond.code yX0_cutParts cX0_cutParts 5 (Option.some Jvm.ClassFile.FieldType.int) ∈ lw_tbl := List.mem_append_right _ (show _ ∈ tables_1_1 ++ (tables_1_2 ++ tables_1_3) from List.mem_append_right _ (List.mem_append_left _ (List.mem_of_getElem? (i := 60) rfl)))
set_option maxRecDepth 20000 in
theorem tM_RX0_209 : Cond.methodLink RX0 209 yX0_meanParts ∈ lw_tbl := List.mem_append_right _ (show _ ∈ tables_1_1 ++ (tables_1_2 ++ tables_1_3) from List.mem_append_right _ (List.mem_append_left _ (List.mem_of_getElem? (i := 61) (by decide +kernel))))
set_option maxRecDepth 20000 in
theorem tV_yX0_meanParts : Cond.instanceMethod yX0_meanParts ∈ lw_tbl := List.mem_append_right _ (show _ ∈ tables_1_1 ++ (tables_1_2 ++ tables_1_3) from List.mem_append_right _ (List.mem_append_left _ (List.mem_of_getElem? (i := 63) (by decide +kernel))))
set_option maxRecDepth 20000 in
theorem tK_yX0_meanParts : Cond.code yX0_meanParts cX0_meanParts 6 (Option.some Jvm.ClassFile.FieldType.int) ∈ lw_tbl := List.mem_append_right _ (show _ ∈ tables_1_1 ++ (tables_1_2 ++ tables_1_3) from List.mem_append_right _ (List.mem_append_left _ (List.mem_of_getElem? (i := 64) rfl)))
set_option maxRecDepth 20000 in
theorem tJ_RX0_184 : Cond.constantLong RX0 184 (840) ∈ lw_tbl := List.mem_append_right _ (show _ ∈ tables_1_1 ++ (tables_1_2 ++ tables_1_3) from List.mem_append_right _ (List.mem_append_left _ (List.mem_of_getElem? (i := 65) (by decide +kernel))))
set_option maxRecDepth 20000 in
theorem tM_RL_125 : Cond.methodLink RL 125 yX0_passes ∈ lw_tbl := List.mem_append_right _ (show _ ∈ tables_1_1 ++ (tables_1_2 ++ tables_1_3) from List.mem_append_right _ (List.mem_append_left _ (List.mem_of_getElem? (i := 66) (by decide +kernel))))
set_option maxRecDepth 20000 in
theorem tV_yX0_passes : Cond.instanceMethod yX0_passes ∈ lw_tbl := List.mem_append_right _ (show _ ∈ tables_1_1 ++ (tables_1_2 ++ tables_1_3) from List.mem_append_right _ (List.mem_append_left _ (List.mem_of_getElem? (i := 67) (by decide +kernel))))
set_option maxRecDepth 20000 in
theorem tP_yX0_passes : Cond.selects yX0_passes.cls yX0_passes yX0_passes ∈ lw_tbl := List.mem_append_right _ (show _ ∈ tables_1_1 ++ (tables_1_2 ++ tables_1_3) from List.mem_append_right _ (List.mem_append_left _ (List.mem_of_getElem? (i := 68) (by decide +kernel))))
set_option maxRecDepth 20000 in
theorem tK_yX0_passes : Cond.code yX0_passes cX0_passes 2 (Option.some Jvm.ClassFile.FieldType.int) ∈ lw_tbl := List.mem_append_right _ (show _ ∈ tables_1_1 ++ (tables_1_2 ++ tables_1_3) from List.mem_append_right _ (List.mem_append_left _ (List.mem_of_getElem? (i := 69) rfl)))
set_option maxRecDepth 20000 in
theorem tM_RX0_186 : Cond.methodLink RX0 186 yX0_isPassing ∈ lw_tbl := List.mem_append_right _ (show _ ∈ tables_1_1 ++ (tables_1_2 ++ tables_1_3) from List.mem_append_right _ (List.mem_append_left _ (List.mem_of_getElem? (i := 70) (by decide +kernel))))
set_option maxRecDepth 20000 in
theorem tV_yX0_isPassing : Cond.instanceMethod yX0_isPassing ∈ lw_tbl := List.mem_append_right _ (show _ ∈ tables_1_1 ++ (tables_1_2 ++ tables_1_3) from List.mem_append_right _ (List.mem_append_left _ (List.mem_of_getElem? (i := 72) (by decide +kernel))))
set_option maxRecDepth 20000 in
theorem tK_yX0_isPassing : Cond.code yX0_isPassing cX0_isPassing 2 (Option.some Jvm.ClassFile.FieldType.boolean) ∈ lw_tbl := List.mem_append_right _ (show _ ∈ tables_1_1 ++ (tables_1_2 ++ tables_1_3) from List.mem_append_right _ (List.mem_append_left _ (List.mem_of_getElem? (i := 73) rfl)))
set_option maxRecDepth 20000 in
theorem tM_RL_129 : Cond.methodLink RL 129 yX0_border ∈ lw_tbl := List.mem_append_right _ (show _ ∈ tables_1_1 ++ (tables_1_2 ++ tables_1_3) from List.mem_append_right _ (List.mem_append_left _ (List.mem_of_getElem? (i := 74) (by decide +kernel))))
set_option maxRecDepth 20000 in
theorem tV_yX0_border : Cond.instanceMethod yX0_border ∈ lw_tbl := List.mem_append_right _ (show _ ∈ tables_1_1 ++ (tables_1_2 ++ tables_1_3) from List.mem_append_right _ (List.mem_append_left _ (List.mem_of_getElem? (i := 75) (by decide +kernel))))
set_option maxRecDepth 20000 in
theorem tP_yX0_border : Cond.selects yX0_border.cls yX0_border yX0_border ∈ lw_tbl := List.mem_append_right _ (show _ ∈ tables_1_1 ++ (tables_1_2 ++ tables_1_3) from List.mem_append_right _ (List.mem_append_left _ (List.mem_of_getElem? (i := 76) (by decide +kernel))))
set_option maxRecDepth 20000 in
theorem tK_yX0_border : Cond.code yX0_border cX0_border 10 (Option.some Jvm.ClassFile.FieldType.int) ∈ lw_tbl := List.mem_append_right _ (show _ ∈ tables_1_1 ++ (tables_1_2 ++ tables_1_3) from List.mem_append_right _ (List.mem_append_left _ (List.mem_of_getElem? (i := 77) rfl)))
set_option maxRecDepth 20000 in
theorem tM_RL_133 : Cond.methodLink RL 133 yX0_alike ∈ lw_tbl := List.mem_append_right _ (show _ ∈ tables_1_1 ++ (tables_1_2 ++ tables_1_3) from List.mem_append_right _ (List.mem_append_left _ (List.mem_of_getElem? (i := 78) (by decide +kernel))))
set_option maxRecDepth 20000 in
theorem tV_yX0_alike : Cond.instanceMethod yX0_alike ∈ lw_tbl := List.mem_append_right _ (show _ ∈ tables_1_1 ++ (tables_1_2 ++ tables_1_3) from List.mem_append_right _ (List.mem_append_left _ (List.mem_of_getElem? (i := 79) (by decide +kernel))))
set_option maxRecDepth 20000 in
theorem tP_yX0_alike : Cond.selects yX0_alike.cls yX0_alike yX0_alike ∈ lw_tbl := List.mem_append_right _ (show _ ∈ tables_1_1 ++ (tables_1_2 ++ tables_1_3) from List.mem_append_right _ (List.mem_append_left _ (List.mem_of_getElem? (i := 80) (by decide +kernel))))
set_option maxRecDepth 20000 in
theorem tK_yX0_alike : Cond.code yX0_alike cX0_alike 3 (Option.some Jvm.ClassFile.FieldType.int) ∈ lw_tbl := List.mem_append_right _ (show _ ∈ tables_1_1 ++ (tables_1_2 ++ tables_1_3) from List.mem_append_right _ (List.mem_append_left _ (List.mem_of_getElem? (i := 81) rfl)))
set_option maxRecDepth 20000 in
theorem tM_RX0_193 : Cond.methodLink RX0 193 yX0_sameWrongs ∈ lw_tbl := List.mem_append_right _ (show _ ∈ tables_1_1 ++ (tables_1_2 ++ tables_1_3) from List.mem_append_right _ (List.mem_append_left _ (List.mem_of_getElem? (i := 82) (by decide +kernel))))
set_option maxRecDepth 20000 in
theorem tV_yX0_sameWrongs : Cond.instanceMethod yX0_sameWrongs ∈ lw_tbl := List.mem_append_right _ (show _ ∈ tables_1_1 ++ (tables_1_2 ++ tables_1_3) from List.mem_append_right _ (List.mem_append_left _ (List.mem_of_getElem? (i := 84) (by decide +kernel))))
set_option maxRecDepth 20000 in
theorem tK_yX0_sameWrongs : Cond.code yX0_sameWrongs cX0_sameWrongs 7 (Option.some Jvm.ClassFile.FieldType.int) ∈ lw_tbl := List.mem_append_right _ (show _ ∈ tables_1_1 ++ (tables_1_2 ++ tables_1_3) from List.mem_append_right _ (List.mem_append_left _ (List.mem_of_getElem? (i := 85) rfl)))
set_option maxRecDepth 20000 in
theorem tM_RL_137 : Cond.methodLink RL 137 yX0_pair ∈ lw_tbl := List.mem_append_right _ (show _ ∈ tables_1_1 ++ (tables_1_2 ++ tables_1_3) from List.mem_append_right _ (List.mem_append_left _ (List.mem_of_getElem? (i := 86) (by decide +kernel))))
set_option maxRecDepth 20000 in
theorem tV_yX0_pair : Cond.instanceMethod yX0_pair ∈ lw_tbl := List.mem_append_right _ (show _ ∈ tables_1_1 ++ (tables_1_2 ++ tables_1_3) from List.mem_append_right _ (List.mem_append_left _ (List.mem_of_getElem? (i := 87) (by decide +kernel))))
set_option maxRecDepth 20000 in
theorem tP_yX0_pair : Cond.selects yX0_pair.cls yX0_pair yX0_pair ∈ lw_tbl := List.mem_append_right _ (show _ ∈ tables_1_1 ++ (tables_1_2 ++ tables_1_3) from List.mem_append_right _ (List.mem_append_left _ (List.mem_of_getElem? (i := 88) (by decide +kernel))))
set_option maxRecDepth 20000 in
theorem tK_yX0_pair : Cond.code yX0_pair cX0_pair 7 (Option.some Jvm.ClassFile.FieldType.int) ∈ lw_tbl := List.mem_append_right _ (show _ ∈ tables_1_1 ++ (tables_1_2 ++ tables_1_3) from List.mem_append_right _ (List.mem_append_left _ (List.mem_of_getElem? (i := 89) rfl)))
set_option maxRecDepth 20000 in
theorem tM_RX0_196 : Cond.methodLink RX0 196 yX0_areAlikeOf ∈ lw_tbl := List.mem_append_right _ (show _ ∈ tables_1_1 ++ (tables_1_2 ++ tables_1_3) from List.mem_append_right _ (List.mem_append_left _ (List.mem_of_getElem? (i := 90) (by decide +kernel))))
set_option maxRecDepth 20000 in
theorem tV_yX0_areAlikeOf : Cond.instanceMethod yX0_areAlikeOf ∈ lw_tbl := List.mem_append_right _ (show _ ∈ tables_1_1 ++ (tables_1_2 ++ tables_1_3) from List.mem_append_right _ (List.mem_append_left _ (List.mem_of_getElem? (i := 92) (by decide +kernel))))
set_option maxRecDepth 20000 in
theorem tK_yX0_areAlikeOf : Cond.code yX0_areAlikeOf cX0_areAlikeOf 5 (Option.some Jvm.ClassFile.FieldType.boolean) ∈ lw_tbl := List.mem_append_right _ (show _ ∈ tables_1_1 ++ (tables_1_2 ++ tables_1_3) from List.mem_append_right _ (List.mem_append_left _ (List.mem_of_getElem? (i := 93) rfl)))
set_option maxRecDepth 20000 in
theorem tM_RL_141 : Cond.methodLink RL 141 yX0_count ∈ lw_tbl := List.mem_append_right _ (show _ ∈ tables_1_1 ++ (tables_1_2 ++ tables_1_3) from List.mem_append_right _ (List.mem_append_left _ (List.mem_of_getElem? (i := 94) (by decide +kernel))))
set_option maxRecDepth 20000 in
theorem tV_yX0_count : Cond.instanceMethod yX0_count ∈ lw_tbl := List.mem_append_right _ (show _ ∈ tables_1_1 ++ (tables_1_2 ++ tables_1_3) from List.mem_append_right _ (List.mem_append_left _ (List.mem_of_getElem? (i := 95) (by decide +kernel))))
set_option maxRecDepth 20000 in
theorem tP_yX0_count : Cond.selects yX0_count.cls yX0_count yX0_count ∈ lw_tbl := List.mem_append_right _ (show _ ∈ tables_1_1 ++ (tables_1_2 ++ tables_1_3) from List.mem_append_right _ (List.mem_append_left _ (List.mem_of_getElem? (i := 96) (by decide +kernel))))
set_option maxRecDepth 20000 in
theorem tK_yX0_count : Cond.code yX0_count cX0_count 2 (Option.some Jvm.ClassFile.FieldType.int) ∈ lw_tbl := List.mem_append_right _ (show _ ∈ tables_1_1 ++ (tables_1_2 ++ tables_1_3) from List.mem_append_right _ (List.mem_append_left _ (List.mem_of_getElem? (i := 97) rfl)))
set_option maxRecDepth 20000 in
theorem tM_RX0_200 : Cond.methodLink RX0 200 yX0_countAnswers ∈ lw_tbl := List.mem_append_right _ (show _ ∈ tables_1_1 ++ (tables_1_2 ++ tables_1_3) from List.mem_append_right _ (List.mem_append_left _ (List.mem_of_getElem? (i := 98) (by decide +kernel))))
set_option maxRecDepth 20000 in
theorem tV_yX0_countAnswers : Cond.instanceMethod yX0_countAnswers ∈ lw_tbl := List.mem_append_right _ (show _ ∈ tables_1_1 ++ (tables_1_2 ++ tables_1_3) from List.mem_append_right _ (List.mem_append_left _ (List.mem_of_getElem? (i := 100) (by decide +kernel))))
set_option maxRecDepth 20000 in
theorem tK_yX0_countAnswers : Cond.code yX0_countAnswers cX0_countAnswers 3 (Option.some Jvm.ClassFile.FieldType.int) ∈ lw_tbl := List.mem_append_right _ (show _ ∈ tables_1_1 ++ (tables_1_2 ++ tables_1_3) from List.mem_append_right _ (List.mem_append_left _ (List.mem_of_getElem? (i := 101) rfl)))
set_option maxRecDepth 20000 in
theorem tM_RX0_203 : Cond.methodLink RX0 203 yX0_countPassing ∈ lw_tbl := List.mem_append_right _ (show _ ∈ tables_1_1 ++ (tables_1_2 ++ tables_1_3) from List.mem_append_right _ (List.mem_append_left _ (List.mem_of_getElem? (i := 102) (by decide +kernel))))
set_option maxRecDepth 20000 in
theorem tV_yX0_countPassing : Cond.instanceMethod yX0_countPassing ∈ lw_tbl := List.mem_append_right _ (show _ ∈ tables_1_1 ++ (tables_1_2 ++ tables_1_3) from List.mem_append_right _ (List.mem_append_left _ (List.mem_of_getElem? (i := 104) (by decide +kernel))))
set_option maxRecDepth 20000 in
theorem tK_yX0_countPassing : Cond.code yX0_countPassing cX0_countPassing 3 (Option.some Jvm.ClassFile.FieldType.int) ∈ lw_tbl := List.mem_append_right _ (show _ ∈ tables_1_1 ++ (tables_1_2 ++ tables_1_3) from List.mem_append_right _ (List.mem_append_left _ (List.mem_of_getElem? (i := 105) rfl)))
set_option maxRecDepth 20000 in
theorem tC_RL_10 : Cond.classLink RL 10 RX1 ∈ lw_tbl := List.mem_append_right _ (show _ ∈ tables_1_1 ++ (tables_1_2 ++ tables_1_3) from List.mem_append_right _ (List.mem_append_left _ (List.mem_of_getElem? (i := 106) (by decide +kernel))))
set_option maxRecDepth 20000 in
theorem tN_RX1 : Cond.instantiable RX1 13 ∈ lw_tbl := List.mem_append_right _ (show _ ∈ tables_1_1 ++ (tables_1_2 ++ tables_1_3) from List.mem_append_right _ (List.mem_append_left _ (List.mem_of_getElem? (i := 107) (by decide +kernel))))
set_option maxRecDepth 20000 in
theorem tM_RL_12 : Cond.methodLink RL 12 yX1_init ∈ lw_tbl := List.mem_append_right _ (show _ ∈ tables_1_1 ++ (tables_1_2 ++ tables_1_3) from List.mem_append_right _ (List.mem_append_left _ (List.mem_of_getElem? (i := 108) (by decide +kernel))))
set_option maxRecDepth 20000 in
theorem tV_yX1_init : Cond.instanceMethod yX1_init ∈ lw_tbl := List.mem_append_right _ (show _ ∈ tables_1_1 ++ (tables_1_2 ++ tables_1_3) from List.mem_append_right _ (List.mem_append_left _ (List.mem_of_getElem? (i := 109) (by decide +kernel))))
set_option maxRecDepth 20000 in
theorem tK_yX1_init : Cond.code yX1_init cX1_init 1 (Option.none : Option Jvm.ClassFile.FieldType) ∈ lw_tbl := List.mem_append_right _ (show _ ∈ tables_1_1 ++ (tables_1_2 ++ tables_1_3) from List.mem_append_right _ (List.mem_append_left _ (List.mem_of_getElem? (i := 110) rfl)))
set_option maxRecDepth 20000 in
theorem tM_RX1_1 : Cond.methodLink RX1 1 objectInit ∈ lw_tbl := List.mem_append_right _ (show _ ∈ tables_1_1 ++ (tables_1_2 ++ tables_1_3) from List.mem_append_right _ (List.mem_append_left _ (List.mem_of_getElem? (i := 111) (by decide +kernel))))
set_option maxRecDepth 20000 in
theorem tF_RX1_7 : Cond.fieldLink RX1 7 "ExamScalesModel" "questions" "I" ∈ lw_tbl := List.mem_append_right _ (show _ ∈ tables_1_1 ++ (tables_1_2 ++ tables_1_3) from List.mem_append_right _ (List.mem_append_left _ (List.mem_of_getElem? (i := 112) (by decide +kernel))))
set_option maxRecDepth 20000 in
theorem tF_RX1_13 : Cond.fieldLink RX1 13 "ExamScalesModel" "papers" "I" ∈ lw_tbl := List.mem_append_right _ (show _ ∈ tables_1_1 ++ (tables_1_2 ++ tables_1_3) from List.mem_append_right _ (List.mem_append_left _ (List.mem_of_getElem? (i := 113) (by decide +kernel))))
set_option maxRecDepth 20000 in
theorem tF_RX1_16 : Cond.fieldLink RX1 16 "ExamScalesModel" "pupils" "I" ∈ lw_tbl := List.mem_append_right _ (show _ ∈ tables_1_1 ++ (tables_1_2 ++ tables_1_3) from List.mem_append_right _ (List.mem_append_left _ (List.mem_of_getElem? (i := 114) (by decide +kernel))))
set_option maxRecDepth 20000 in
theorem tF_RX1_19 : Cond.fieldLink RX1 19 "ExamScalesModel" "kind" "[I" ∈ lw_tbl := List.mem_append_right _ (show _ ∈ tables_1_1 ++ (tables_1_2 ++ tables_1_3) from List.mem_append_right _ (List.mem_append_left _ (List.mem_of_getElem? (i := 115) (by decide +kernel))))
set_option maxRecDepth 20000 in
theorem tF_RX1_23 : Cond.fieldLink RX1 23 "ExamScalesModel" "most" "[I" ∈ lw_tbl := List.mem_append_right _ (show _ ∈ tables_1_1 ++ (tables_1_2 ++ tables_1_3) from List.mem_append_right _ (List.mem_append_left _ (List.mem_of_getElem? (i := 116) (by decide +kernel))))
set_option maxRecDepth 20000 in
theorem tF_RX1_26 : Cond.fieldLink RX1 26 "ExamScalesModel" "key" "[I" ∈ lw_tbl := List.mem_append_right _ (show _ ∈ tables_1_1 ++ (tables_1_2 ++ tables_1_3) from List.mem_append_right _ (List.mem_append_left _ (List.mem_of_getElem? (i := 117) (by decide +kernel))))
set_option maxRecDepth 20000 in
theorem tF_RX1_29 : Cond.fieldLink RX1 29 "ExamScalesModel" "isStruck" "[Z" ∈ lw_tbl := List.mem_append_right _ (show _ ∈ tables_1_1 ++ (tables_1_2 ++ tables_1_3) from List.mem_append_right _ (List.mem_append_left _ (List.mem_of_getElem? (i := 118) (by decide +kernel))))
set_option maxRecDepth 20000 in
theorem tF_RX1_33 : Cond.fieldLink RX1 33 "ExamScalesModel" "asked" "[I" ∈ lw_tbl := List.mem_append_right _ (show _ ∈ tables_1_1 ++ (tables_1_2 ++ tables_1_3) from List.mem_append_right _ (List.mem_append_left _ (List.mem_of_getElem? (i := 119) (by decide +kernel))))
set_option maxRecDepth 20000 in
theorem tF_RX1_36 : Cond.fieldLink RX1 36 "ExamScalesModel" "size" "[I" ∈ lw_tbl := List.mem_append_right _ (show _ ∈ tables_1_1 ++ (tables_1_2 ++ tables_1_3) from List.mem_append_right _ (List.mem_append_left _ (List.mem_of_getElem? (i := 120) (by decide +kernel))))
set_option maxRecDepth 20000 in
theorem tF_RX1_39 : Cond.fieldLink RX1 39 "ExamScalesModel" "paperOf" "[I" ∈ lw_tbl := List.mem_append_right _ (show _ ∈ tables_1_1 ++ (tables_1_2 ++ tables_1_3) from List.mem_append_right _ (List.mem_append_left _ (List.mem_of_getElem? (i := 121) (by decide +kernel))))
set_option maxRecDepth 20000 in
theorem tF_RX1_42 : Cond.fieldLink RX1 42 "ExamScalesModel" "placeOf" "[I" ∈ lw_tbl := List.mem_append_right _ (show _ ∈ tables_1_1 ++ (tables_1_2 ++ tables_1_3) from List.mem_append_right _ (List.mem_append_left _ (List.mem_of_getElem? (i := 122) (by decide +kernel))))
set_option maxRecDepth 20000 in
theorem tF_RX1_45 : Cond.fieldLink RX1 45 "ExamScalesModel" "given" "[I" ∈ lw_tbl := List.mem_append_right _ (show _ ∈ tables_1_1 ++ (tables_1_2 ++ tables_1_3) from List.mem_append_right _ (List.mem_append_left _ (List.mem_of_getElem? (i := 123) (by decide +kernel))))
set_option maxRecDepth 20000 in
theorem tF_RX1_48 : Cond.fieldLink RX1 48 "ExamScalesModel" "told" "[I" ∈ lw_tbl := List.mem_append_right _ (show _ ∈ tables_1_1 ++ (tables_1_2 ++ tables_1_3) from List.mem_append_right _ (List.mem_append_left _ (List.mem_of_getElem? (i := 124) (by decide +kernel))))
set_option maxRecDepth 20000 in
theorem tL_RX1_questions : Cond.lays RX1 "ExamScalesModel" "questions" "I" ∈ lw_tbl := List.mem_append_right _ (show _ ∈ tables_1_1 ++ (tables_1_2 ++ tables_1_3) from List.mem_append_right _ (List.mem_append_left _ (List.mem_of_getElem? (i := 125) (by decide +kernel))))
set_option maxRecDepth 20000 in
theorem tL_RX1_papers : Cond.lays RX1 "ExamScalesModel" "papers" "I" ∈ lw_tbl := List.mem_append_right _ (show _ ∈ tables_1_1 ++ (tables_1_2 ++ tables_1_3) from List.mem_append_right _ (List.mem_append_left _ (List.mem_of_getElem? (i := 127) (by decide +kernel))))
set_option maxRecDepth 20000 in
theorem tL_RX1_pupils : Cond.lays RX1 "ExamScalesModel" "pupils" "I" ∈ lw_tbl := List.mem_append_right _ (show _ ∈ tables_1_1 ++ (tables_1_2 ++ tables_1_3) from List.mem_append_right _ (List.mem_append_left _ (List.mem_of_getElem? (i := 129) (by decide +kernel))))
set_option maxRecDepth 20000 in
theorem tL_RX1_kind : Cond.laysFinal RX1 "ExamScalesModel" "kind" "[I" ∈ lw_tbl := List.mem_append_right _ (show _ ∈ tables_1_1 ++ (tables_1_2 ++ tables_1_3) from List.mem_append_right _ (List.mem_append_left _ (List.mem_of_getElem? (i := 131) (by decide +kernel))))
set_option maxRecDepth 20000 in
theorem tL_RX1_most : Cond.laysFinal RX1 "ExamScalesModel" "most" "[I" ∈ lw_tbl := List.mem_append_right _ (show _ ∈ tables_1_1 ++ (tables_1_2 ++ tables_1_3) from List.mem_append_right _ (List.mem_append_left _ (List.mem_of_getElem? (i := 133) (by decide +kernel))))
set_option maxRecDepth 20000 in
theorem tL_RX1_key : Cond.laysFinal RX1 "ExamScalesModel" "key" "[I" ∈ lw_tbl := List.mem_append_right _ (show _ ∈ tables_1_1 ++ (tables_1_2 ++ tables_1_3) from List.mem_append_right _ (List.mem_append_left _ (List.mem_of_getElem? (i := 135) (by decide +kernel))))
set_option maxRecDepth 20000 in
theorem tL_RX1_isStruck : Cond.laysFinal RX1 "ExamScalesModel" "isStruck" "[Z" ∈ lw_tbl := List.mem_append_right _ (show _ ∈ tables_1_1 ++ (tables_1_2 ++ tables_1_3) from List.mem_append_right _ (List.mem_append_left _ (List.mem_of_getElem? (i := 137) (by decide +kernel))))
set_option maxRecDepth 20000 in
theorem tL_RX1_asked : Cond.laysFinal RX1 "ExamScalesModel" "asked" "[I" ∈ lw_tbl := List.mem_append_right _ (show _ ∈ tables_1_1 ++ (tables_1_2 ++ tables_1_3) from List.mem_append_right _ (List.mem_append_left _ (List.mem_of_getElem? (i := 139) (by decide +kernel))))
set_option maxRecDepth 20000 in
theorem tL_RX1_size : Cond.laysFinal RX1 "ExamScalesModel" "size" "[I" ∈ lw_tbl := List.mem_append_right _ (show _ ∈ tables_1_1 ++ (tables_1_2 ++ tables_1_3) from List.mem_append_right _ (List.mem_append_left _ (List.mem_of_getElem? (i := 141) (by decide +kernel))))
set_option maxRecDepth 20000 in
theorem tL_RX1_paperOf : Cond.laysFinal RX1 "ExamScalesModel" "paperOf" "[I" ∈ lw_tbl := List.mem_append_right _ (show _ ∈ tables_1_1 ++ (tables_1_2 ++ tables_1_3) from List.mem_append_right _ (List.mem_append_left _ (List.mem_of_getElem? (i := 143) (by decide +kernel))))
set_option maxRecDepth 20000 in
theorem tL_RX1_placeOf : Cond.laysFinal RX1 "ExamScalesModel" "placeOf" "[I" ∈ lw_tbl := List.mem_append_right _ (show _ ∈ tables_1_1 ++ (tables_1_2 ++ tables_1_3) from List.mem_append_right _ (List.mem_append_left _ (List.mem_of_getElem? (i := 145) (by decide +kernel))))
set_option maxRecDepth 20000 in
theorem tL_RX1_given : Cond.laysFinal RX1 "ExamScalesModel" "given" "[I" ∈ lw_tbl := List.mem_append_right _ (show _ ∈ tables_1_1 ++ (tables_1_2 ++ tables_1_3) from List.mem_append_right _ (List.mem_append_left _ (List.mem_of_getElem? (i := 147) (by decide +kernel))))
set_option maxRecDepth 20000 in
theorem tL_RX1_told : Cond.laysFinal RX1 "ExamScalesModel" "told" "[I" ∈ lw_tbl := List.mem_append_right _ (show _ ∈ tables_1_1 ++ (tables_1_2 ++ tables_1_3) from List.mem_append_right _ (List.mem_append_left _ (List.mem_of_getElem? (i := 149) (by decide +kernel))))
set_option maxRecDepth 20000 in
theorem tA_boolean : Cond.arrayClass (.boolean) ∈ lw_tbl := List.mem_append_right _ (show _ ∈ tables_1_1 ++ (tables_1_2 ++ tables_1_3) from List.mem_append_right _ (List.mem_append_left _ (List.mem_of_getElem? (i := 152) (by decide +kernel))))
set_option maxRecDepth 20000 in
theorem tM_RL_17 : Cond.methodLink RL 17 yX1_question ∈ lw_tbl := List.mem_append_right _ (show _ ∈ tables_1_1 ++ (tables_1_2 ++ tables_1_3) from List.mem_append_right _ (List.mem_append_left _ (List.mem_of_getElem? (i := 153) (by decide +kernel))))
set_option maxRecDepth 20000 in
theorem tV_yX1_question : Cond.instanceMethod yX1_question ∈ lw_tbl := List.mem_append_right _ (show _ ∈ tables_1_1 ++ (tables_1_2 ++ tables_1_3) from List.mem_append_right _ (List.mem_append_left _ (List.mem_of_getElem? (i := 154) (by decide +kernel))))
set_option maxRecDepth 20000 in
theorem tP_yX1_question : Cond.selects yX1_question.cls yX1_question yX1_question ∈ lw_tbl := List.mem_append_right _ (show _ ∈ tables_1_1 ++ (tables_1_2 ++ tables_1_3) from List.mem_append_right _ (List.mem_append_left _ (List.mem_of_getElem? (i := 155) (by decide +kernel))))
set_option maxRecDepth 20000 in
theorem tK_yX1_question : Cond.code yX1_question cX1_question 4 (Option.some Jvm.ClassFile.FieldType.int) ∈ lw_tbl := List.mem_append_right _ (show _ ∈ tables_1_1 ++ (tables_1_2 ++ tables_1_3) from List.mem_append_right _ (List.mem_append_left _ (List.mem_of_getElem? (i := 156) rfl)))
set_option maxRecDepth 20000 in
theorem tM_RX1_51 : Cond.methodLink RX1 51 yX1_in ∈ lw_tbl := List.mem_append_right _ (show _ ∈ tables_1_1 ++ (tables_1_2 ++ tables_1_3) from List.mem_append_right _ (List.mem_append_left _ (List.mem_of_getElem? (i := 157) (by decide +kernel))))
set_option maxRecDepth 20000 in
theorem tV_yX1_in : Cond.instanceMethod yX1_in ∈ lw_tbl := List.mem_append_right _ (show _ ∈ tables_1_1 ++ (tables_1_2 ++ tables_1_3) from List.mem_append_right _ (List.mem_append_left _ (List.mem_of_getElem? (i := 159) (by decide +kernel))))
set_option maxRecDepth 20000 in
theorem tK_yX1_in : Cond.code yX1_in cX1_in 4 (Option.some Jvm.ClassFile.FieldType.boolean) ∈ lw_tbl := List.mem_append_right _ (show _ ∈ tables_1_1 ++ (tables_1_2 ++ tables_1_3) from List.mem_append_right _ (List.mem_append_left _ (List.mem_of_getElem? (i := 160) rfl)))
set_option maxRecDepth 20000 in
theorem tM_RX1_55 : Cond.methodLink RX1 55 yX1_isKey ∈ lw_tbl := List.mem_append_right _ (show _ ∈ tables_1_1 ++ (tables_1_2 ++ tables_1_3) from List.mem_append_right _ (List.mem_append_left _ (List.mem_of_getElem? (i := 161) (by decide +kernel))))
set_option maxRecDepth 20000 in
theorem tV_yX1_isKey : Cond.instanceMethod yX1_isKey ∈ lw_tbl := List.mem_append_right _ (show _ ∈ tables_1_1 ++ (tables_1_2 ++ tables_1_3) from List.mem_append_right _ (List.mem_append_left _ (List.mem_of_getElem? (i := 163) (by decide +kernel))))
set_option maxRecDepth 20000 in
theorem tK_yX1_isKey : Cond.code yX1_isKey cX1_isKey 3 (Option.some Jvm.ClassFile.FieldType.boolean) ∈ lw_tbl := List.mem_append_right _ (show _ ∈ tables_1_1 ++ (tables_1_2 ++ tables_1_3) from List.mem_append_right _ (List.mem_append_left _ (List.mem_of_getElem? (i := 164) rfl)))
set_option maxRecDepth 20000 in
theorem tM_RL_22 : Cond.methodLink RL 22 yX1_key ∈ lw_tbl := List.mem_append_right _ (show _ ∈ tables_1_1 ++ (tables_1_2 ++ tables_1_3) from List.mem_append_right _ (List.mem_append_left _ (List.mem_of_getElem? (i := 165) (by decide +kernel))))
set_option maxRecDepth 20000 in
theorem tV_yX1_key : Cond.instanceMethod yX1_key ∈ lw_tbl := List.mem_append_right _ (show _ ∈ tables_1_1 ++ (tables_1_2 ++ tables_1_3) from List.mem_append_right _ (List.mem_append_left _ (List.mem_of_getElem? (i := 166) (by decide +kernel))))
set_option maxRecDepth 20000 in
theorem tP_yX1_key : Cond.selects yX1_key.cls yX1_key yX1_key ∈ lw_tbl := List.mem_append_right _ (show _ ∈ tables_1_1 ++ (tables_1_2 ++ tables_1_3) from List.mem_append_right _ (List.mem_append_left _ (List.mem_of_getElem? (i := 167) (by decide +kernel))))
set_option maxRecDepth 20000 in
theorem tK_yX1_key : Cond.code yX1_key cX1_key 4 (Option.some Jvm.ClassFile.FieldType.int) ∈ lw_tbl := List.mem_append_right _ (show _ ∈ tables_1_1 ++ (tables_1_2 ++ tables_1_3) from List.mem_append_right _ (List.mem_append_left _ (List.mem_of_getElem? (i := 168) rfl)))
set_option maxRecDepth 20000 in
theorem tM_RX1_59 : Cond.methodLink RX1 59 yX1_isQuestion ∈ lw_tbl := List.mem_append_right _ (show _ ∈ tables_1_1 ++ (tables_1_2 ++ tables_1_3) from List.mem_append_right _ (List.mem_append_left _ (List.mem_of_getElem? (i := 169) (by decide +kernel))))
set_option maxRecDepth 20000 in
theorem tV_yX1_isQuestion : Cond.instanceMethod yX1_isQuestion ∈ lw_tbl := List.mem_append_right _ (show _ ∈ tables_1_1 ++ (tables_1_2 ++ tables_1_3) from List.mem_append_right _ (List.mem_append_left _ (List.mem_of_getElem? (i := 171) (by decide +kernel))))
set_option maxRecDepth 20000 in
theorem tK_yX1_isQuestion : Cond.code yX1_isQuestion cX1_isQuestion 2 (Option.some Jvm.ClassFile.FieldType.boolean) ∈ lw_tbl := List.mem_append_right _ (show _ ∈ tables_1_1 ++ (tables_1_2 ++ tables_1_3) from List.mem_append_right _ (List.mem_append_left _ (List.mem_of_getElem? (i := 172) rfl)))
set_option maxRecDepth 20000 in
theorem tM_RL_26 : Cond.methodLink RL 26 yX1_strike ∈ lw_tbl := List.mem_append_right _ (show _ ∈ tables_1_1 ++ (tables_1_2 ++ tables_1_3) from List.mem_append_right _ (List.mem_append_left _ (List.mem_of_getElem? (i := 173) (by decide +kernel))))
set_option maxRecDepth 20000 in
theorem tV_yX1_strike : Cond.instanceMethod yX1_strike ∈ lw_tbl := List.mem_append_right _ (show _ ∈ tables_1_1 ++ (tables_1_2 ++ tables_1_3) from List.mem_append_right _ (List.mem_append_left _ (List.mem_of_getElem? (i := 174) (by decide +kernel))))
set_option maxRecDepth 20000 in
theorem tP_yX1_strike : Cond.selects yX1_strike.cls yX1_strike yX1_strike ∈ lw_tbl := List.mem_append_right _ (show _ ∈ tables_1_1 ++ (tables_1_2 ++ tables_1_3) from List.mem_append_right _ (List.mem_append_left _ (List.mem_of_getElem? (i := 175) (by decide +kernel))))
set_option maxRecDepth 20000 in
theorem tK_yX1_strike : Cond.code yX1_strike cX1_strike 4 (Option.some Jvm.ClassFile.FieldType.int) ∈ lw_tbl := List.mem_append_right _ (show _ ∈ tables_1_1 ++ (tables_1_2 ++ tables_1_3) from List.mem_append_right _ (List.mem_append_left _ (List.mem_of_getElem? (i := 176) rfl)))
set_option maxRecDepth 20000 in
theorem tM_RL_31 : Cond.methodLink RL 31 yX1_paper ∈ lw_tbl := List.mem_append_right _ (show _ ∈ tables_1_1 ++ (tables_1_2 ++ tables_1_3) from List.mem_append_right _ (List.mem_append_left _ (List.mem_of_getElem? (i := 177) (by decide +kernel))))
set_option maxRecDepth 20000 in
theorem tV_yX1_paper : Cond.instanceMethod yX1_paper ∈ lw_tbl := List.mem_append_right _ (show _ ∈ tables_1_1 ++ (tables_1_2 ++ tables_1_3) from List.mem_append_right _ (List.mem_append_left _ (List.mem_of_getElem? (i := 178) (by decide +kernel))))
set_option maxRecDepth 20000 in
theorem tP_yX1_paper : Cond.selects yX1_paper.cls yX1_paper yX1_paper ∈ lw_tbl := List.mem_append_right _ (show _ ∈ tables_1_1 ++ (tables_1_2 ++ tables_1_3) from List.mem_append_right _ (List.mem_append_left _ (List.mem_of_getElem? (i := 179) (by decide +kernel))))
set_option maxRecDepth 20000 in
theorem tK_yX1_paper : Cond.code yX1_paper cX1_paper 1 (Option.some Jvm.ClassFile.FieldType.int) ∈ lw_tbl := List.mem_append_right _ (show _ ∈ tables_1_1 ++ (tables_1_2 ++ tables_1_3) from List.mem_append_right _ (List.mem_append_left _ (List.mem_of_getElem? (i := 180) rfl)))
set_option maxRecDepth 20000 in
theorem tM_RL_35 : Cond.methodLink RL 35 yX1_put ∈ lw_tbl := List.mem_append_right _ (show _ ∈ tables_1_1 ++ (tables_1_2 ++ tables_1_3) from List.mem_append_right _ (List.mem_append_left _ (List.mem_of_getElem? (i := 181) (by decide +kernel))))
set_option maxRecDepth 20000 in
theorem tV_yX1_put : Cond.instanceMethod yX1_put ∈ lw_tbl := List.mem_append_right _ (show _ ∈ tables_1_1 ++ (tables_1_2 ++ tables_1_3) from List.mem_append_right _ (List.mem_append_left _ (List.mem_of_getElem? (i := 182) (by decide +kernel))))
set_option maxRecDepth 20000 in
theorem tP_yX1_put : Cond.selects yX1_put.cls yX1_put yX1_put ∈ lw_tbl := List.mem_append_right _ (show _ ∈ tables_1_1 ++ (tables_1_2 ++ tables_1_3) from List.mem_append_right _ (List.mem_append_left _ (List.mem_of_getElem? (i := 183) (by decide +kernel))))
set_option maxRecDepth 20000 in
theorem tK_yX1_put : Cond.code yX1_put cX1_put 4 (Option.some Jvm.ClassFile.FieldType.int) ∈ lw_tbl := List.mem_append_right _ (show _ ∈ tables_1_1 ++ (tables_1_2 ++ tables_1_3) from List.mem_append_right _ (List.mem_append_left _ (List.mem_of_getElem? (i := 184) rfl)))
set_option maxRecDepth 20000 in
theorem tM_RX1_63 : Cond.methodLink RX1 63 yX1_isPaper ∈ lw_tbl := List.mem_append_right _ (show _ ∈ tables_1_1 ++ (tables_1_2 ++ tables_1_3) from List.mem_append_right _ (List.mem_append_left _ (List.mem_of_getElem? (i := 185) (by decide +kernel))))
set_option maxRecDepth 20000 in
theorem tV_yX1_isPaper : Cond.instanceMethod yX1_isPaper ∈ lw_tbl := List.mem_append_right _ (show _ ∈ tables_1_1 ++ (tables_1_2 ++ tables_1_3) from List.mem_append_right _ (List.mem_append_left _ (List.mem_of_getElem? (i := 187) (by decide +kernel))))
set_option maxRecDepth 20000 in
theorem tK_yX1_isPaper : Cond.code yX1_isPaper cX1_isPaper 2 (Option.some Jvm.ClassFile.FieldType.boolean) ∈ lw_tbl := List.mem_append_right _ (show _ ∈ tables_1_1 ++ (tables_1_2 ++ tables_1_3) from List.mem_append_right _ (List.mem_append_left _ (List.mem_of_getElem? (i := 188) rfl)))
set_option maxRecDepth 20000 in
theorem tM_RX1_66 : Cond.methodLink RX1 66 yX1_spot ∈ lw_tbl := List.mem_append_right _ (show _ ∈ tables_1_1 ++ (tables_1_2 ++ tables_1_3) from List.mem_append_right _ (List.mem_append_left _ (List.mem_of_getElem? (i := 189) (by decide +kernel))))
set_option maxRecDepth 20000 in
theorem tV_yX1_spot : Cond.instanceMethod yX1_spot ∈ lw_tbl := List.mem_append_right _ (show _ ∈ tables_1_1 ++ (tables_1_2 ++ tables_1_3) from List.mem_append_right _ (List.mem_append_left _ (List.mem_of_getElem? (i := 191) (by decide +kernel))))
set_option maxRecDepth 20000 in
theorem tK_yX1_spot : Cond.code yX1_spot cX1_spot 4 (Option.some Jvm.ClassFile.FieldType.int) ∈ lw_tbl := List.mem_append_right _ (show _ ∈ tables_1_1 ++ (tables_1_2 ++ tables_1_3) from List.mem_append_right _ (List.mem_append_left _ (List.mem_of_getElem? (i := 192) rfl)))
set_option maxRecDepth 20000 in
theorem tM_RX1_70 : Cond.methodLink RX1 70 yX1_groupSize ∈ lw_tbl := List.mem_append_right _ (show _ ∈ tables_1_1 ++ (tables_1_2 ++ tables_1_3) from List.mem_append_right _ (List.mem_append_left _ (List.mem_of_getElem? (i := 193) (by decide +kernel))))
set_option maxRecDepth 20000 in
theorem tV_yX1_groupSize : Cond.instanceMethod yX1_groupSize ∈ lw_tbl := List.mem_append_right _ (show _ ∈ tables_1_1 ++ (tables_1_2 ++ tables_1_3) from List.mem_append_right _ (List.mem_append_left _ (List.mem_of_getElem? (i := 195) (by decide +kernel))))
set_option maxRecDepth 20000 in
theorem tK_yX1_groupSize : Cond.code yX1_groupSize cX1_groupSize 4 (Option.some Jvm.ClassFile.FieldType.int) ∈ lw_tbl := List.mem_append_right _ (show _ ∈ tables_1_1 ++ (tables_1_2 ++ tables_1_3) from List.mem_append_right _ (List.mem_append_left _ (List.mem_of_getElem? (i := 196) rfl)))
set_option maxRecDepth 20000 in
theorem tM_RL_39 : Cond.methodLink RL 39 yX1_at ∈ lw_tbl := List.mem_append_right _ (show _ ∈ tables_1_1 ++ (tables_1_2 ++ tables_1_3) from List.mem_append_right _ (List.mem_append_left _ (List.mem_of_getElem? (i := 197) (by decide +kernel))))
set_option maxRecDepth 20000 in
theorem tV_yX1_at : Cond.instanceMethod yX1_at ∈ lw_tbl := List.mem_append_right _ (show _ ∈ tables_1_1 ++ (tables_1_2 ++ tables_1_3) from List.mem_append_right _ (List.mem_append_left _ (List.mem_of_getElem? (i := 198) (by decide +kernel))))
set_option maxRecDepth 20000 in
theorem tP_yX1_at : Cond.selects yX1_at.cls yX1_at yX1_at ∈ lw_tbl := List.mem_append_right _ (show _ ∈ tables_1_1 ++ (tables_1_2 ++ tables_1_3) from List.mem_append_right _ (List.mem_append_left _ (List.mem_of_getElem? (i := 199) (by decide +kernel))))
set_option maxRecDepth 20000 in
theorem tK_yX1_at : Cond.code yX1_at cX1_at 3 (Option.some Jvm.ClassFile.FieldType.int) ∈ lw_tbl := List.mem_append_right _ (show _ ∈ tables_1_1 ++ (tables_1_2 ++ tables_1_3) from List.mem_append_right _ (List.mem_append_left _ (List.mem_of_getElem? (i := 200) rfl)))
set_option maxRecDepth 20000 in
theorem tM_RL_43 : Cond.methodLink RL 43 yX1_pupil ∈ lw_tbl := List.mem_append_right _ (show _ ∈ tables_1_1 ++ (tables_1_2 ++ tables_1_3) from List.mem_append_right _ (List.mem_append_left _ (List.mem_of_getElem? (i := 201) (by decide +kernel))))
set_option maxRecDepth 20000 in
theorem tV_yX1_pupil : Cond.instanceMethod yX1_pupil ∈ lw_tbl := List.mem_append_right _ (show _ ∈ tables_1_1 ++ (tables_1_2 ++ tables_1_3) from List.mem_append_right _ (List.mem_append_left _ (List.mem_of_getElem? (i := 202) (by decide +kernel))))
set_option maxRecDepth 20000 in
theorem tP_yX1_pupil : Cond.selects yX1_pupil.cls yX1_pupil yX1_pupil ∈ lw_tbl := List.mem_append_right _ (show _ ∈ tables_1_1 ++ (tables_1_2 ++ tables_1_3) from List.mem_append_right _ (List.mem_append_left _ (List.mem_of_getElem? (i := 203) (by decide +kernel))))
set_option maxRecDepth 20000 in
theorem tK_yX1_pupil : Cond.code yX1_pupil cX1_pupil 4 (Option.some Jvm.ClassFile.FieldType.int) ∈ lw_tbl := List.mem_append_right _ (show _ ∈ tables_1_1 ++ (tables_1_2 ++ tables_1_3) from List.mem_append_right _ (List.mem_append_left _ (List.mem_of_getElem? (i := 204) rfl)))
set_option maxRecDepth 20000 in
theorem tM_RL_47 : Cond.methodLink RL 47 yX1_answer ∈ lw_tbl := List.mem_append_right _ (show _ ∈ tables_1_1 ++ (tables_1_2 ++ tables_1_3) from List.mem_append_right _ (List.mem_append_left _ (List.mem_of_getElem? (i := 205) (by decide +kernel))))
set_option maxRecDepth 20000 in
theorem tV_yX1_answer : Cond.instanceMethod yX1_answer ∈ lw_tbl := List.mem_append_right _ (show _ ∈ tables_1_1 ++ (tables_1_2 ++ tables_1_3) from List.mem_append_right _ (List.mem_append_left _ (List.mem_of_getElem? (i := 206) (by decide +kernel))))
set_option maxRecDepth 20000 in
theorem tP_yX1_answer : Cond.selects yX1_answer.cls yX1_answer yX1_answer ∈ lw_tbl := List.mem_append_right _ (show _ ∈ tables_1_1 ++ (tables_1_2 ++ tables_1_3) from List.mem_append_right _ (List.mem_append_left _ (List.mem_of_getElem? (i := 207) (by decide +kernel))))
set_option maxRecDepth 20000 in
theorem tK_yX1_answer : Cond.code yX1_answer cX1_answer 5 (Option.some Jvm.ClassFile.FieldType.int) ∈ lw_tbl := List.mem_append_right _ (show _ ∈ tables_1_1 ++ (tables_1_2 ++ tables_1_3) from List.mem_append_right _ (List.mem_append_left _ (List.mem_of_getElem? (i := 208) rfl)))
set_option maxRecDepth 20000 in
theorem tM_RX1_77 : Cond.methodLink RX1 77 yX1_own ∈ lw_tbl := List.mem_append_right _ (show _ ∈ tables_1_1 ++ (tables_1_2 ++ tables_1_3) from List.mem_append_right _ (List.mem_append_left _ (List.mem_of_getElem? (i := 209) (by decide +kernel))))
set_option maxRecDepth 20000 in
theorem tV_yX1_own : Cond.instanceMethod yX1_own ∈ lw_tbl := List.mem_append_right _ (show _ ∈ tables_1_1 ++ (tables_1_2 ++ tables_1_3) from List.mem_append_right _ (List.mem_append_left _ (List.mem_of_getElem? (i := 211) (by decide +kernel))))
set_option maxRecDepth 20000 in
theorem tK_yX1_own : Cond.code yX1_own cX1_own 3 (Option.some Jvm.ClassFile.FieldType.int) ∈ lw_tbl := List.mem_append_right _ (show _ ∈ tables_1_1 ++ (tables_1_2 ++ tables_1_3) from List.mem_append_right _ (List.mem_append_left _ (List.mem_of_getElem? (i := 212) rfl)))
set_option maxRecDepth 20000 in
theorem tM_RX1_74 : Cond.methodLink RX1 74 yX1_isPupil ∈ lw_tbl := List.mem_append_right _ (show _ ∈ tables_1_1 ++ (tables_1_2 ++ tables_1_3) from List.mem_append_right _ (List.mem_append_left _ (List.mem_of_getElem? (i := 213) (by decide +kernel))))
set_option maxRecDepth 20000 in
theorem tV_yX1_isPupil : Cond.instanceMethod yX1_isPupil ∈ lw_tbl := List.mem_append_right _ (show _ ∈ tables_1_1 ++ (tables_1_2 ++ tables_1_3) from List.mem_append_right _ (List.mem_append_left _ (List.mem_of_getElem? (i := 215) (by decide +kernel))))
set_option maxRecDepth 20000 in
theorem tK_yX1_isPupil : Cond.code yX1_isPupil cX1_isPupil 2 (Option.some Jvm.ClassFile.FieldType.boolean) ∈ lw_tbl := List.mem_append_right _ (show _ ∈ tables_1_1 ++ (tables_1_2 ++ tables_1_3) from List.mem_append_right _ (List.mem_append_left _ (List.mem_of_getElem? (i := 216) rfl)))
set_option maxRecDepth 20000 in
theorem tM_RX1_80 : Cond.methodLink RX1 80 yX1_isAnswer ∈ lw_tbl := List.mem_append_right _ (show _ ∈ tables_1_1 ++ (tables_1_2 ++ tables_1_3) from List.mem_append_right _ (List.mem_append_left _ (List.mem_of_getElem? (i := 217) (by decide +kernel))))
set_option maxRecDepth 20000 in
theorem tV_yX1_isAnswer : Cond.instanceMethod yX1_isAnswer ∈ lw_tbl := List.mem_append_right _ (show _ ∈ tables_1_1 ++ (tables_1_2 ++ tables_1_3) from List.mem_append_right _ (List.mem_append_left _ (List.mem_of_getElem? (i := 219) (by decide +kernel))))
set_option maxRecDepth 20000 in
theorem tK_yX1_isAnswer : Cond.code yX1_isAnswer cX1_isAnswer 4 (Option.some Jvm.ClassFile.FieldType.boolean) ∈ lw_tbl := List.mem_append_right _ (show _ ∈ tables_1_1 ++ (tables_1_2 ++ tables_1_3) from List.mem_append_right _ (List.mem_append_left _ (List.mem_of_getElem? (i := 220) rfl)))
set_option maxRecDepth 20000 in
theorem tM_RX1_83 : Cond.methodLink RX1 83 yX1_worth ∈ lw_tbl := List.mem_append_right _ (show _ ∈ tables_1_1 ++ (tables_1_2 ++ tables_1_3) from List.mem_append_right _ (List.mem_append_left _ (List.mem_of_getElem? (i := 221) (by decide +kernel))))
set_option maxRecDepth 20000 in
theorem tV_yX1_worth : Cond.instanceMethod yX1_worth ∈ lw_tbl := List.mem_append_right _ (show _ ∈ tables_1_1 ++ (tables_1_2 ++ tables_1_3) from List.mem_append_right _ (List.mem_append_left _ (List.mem_of_getElem? (i := 223) (by decide +kernel))))
set_option maxRecDepth 20000 in
theorem tK_yX1_worth : Cond.code yX1_worth cX1_worth 4 (Option.some Jvm.ClassFile.FieldType.int) ∈ lw_tbl := List.mem_append_right _ (show _ ∈ tables_1_1 ++ (tables_1_2 ++ tables_1_3) from List.mem_append_right _ (List.mem_append_left _ (List.mem_of_getElem? (i := 224) rfl)))
set_option maxRecDepth 20000 in
theorem tM_RL_51 : Cond.methodLink RL 51 yX1_gap ∈ lw_tbl := List.mem_append_right _ (show _ ∈ tables_1_1 ++ (tables_1_2 ++ tables_1_3) from List.mem_append_right _ (List.mem_append_left _ (List.mem_of_getElem? (i := 225) (by decide +kernel))))
set_option maxRecDepth 20000 in
theorem tV_yX1_gap : Cond.instanceMethod yX1_gap ∈ lw_tbl := List.mem_append_right _ (show _ ∈ tables_1_1 ++ (tables_1_2 ++ tables_1_3) from List.mem_append_right _ (List.mem_append_left _ (List.mem_of_getElem? (i := 226) (by decide +kernel))))
set_option maxRecDepth 20000 in
theorem tP_yX1_gap : Cond.selects yX1_gap.cls yX1_gap yX1_gap ∈ lw_tbl := List.mem_append_right _ (show _ ∈ tables_1_1 ++ (tables_1_2 ++ tables_1_3) from List.mem_append_right _ (List.mem_append_left _ (List.mem_of_getElem? (i := 227) (by decide +kernel))))
set_option maxRecDepth 20000 in
theorem tK_yX1_gap : Cond.code yX1_gap cX1_gap 5 (Option.some Jvm.ClassFile.FieldType.int) ∈ lw_tbl := List.mem_append_right _ (show _ ∈ tables_1_1 ++ (tables_1_2 ++ tables_1_3) from List.mem_append_right _ (List.mem_append_left _ (List.mem_of_getElem? (i := 228) rfl)))
set_option maxRecDepth 20000 in
theorem tM_RL_58 : Cond.methodLink RL 58 yX1_row ∈ lw_tbl := List.mem_append_right _ (show _ ∈ tables_1_1 ++ (tables_1_2 ++ tables_1_3) from List.mem_append_right _ (List.mem_append_left _ (List.mem_of_getElem? (i := 229) (by decide +kernel))))
set_option maxRecDepth 20000 in
theorem tV_yX1_row : Cond.instanceMethod yX1_row ∈ lw_tbl := List.mem_append_right _ (show _ ∈ tables_1_1 ++ (tables_1_2 ++ tables_1_3) from List.mem_append_right _ (List.mem_append_left _ (List.mem_of_getElem? (i := 230) (by decide +kernel))))
set_option maxRecDepth 20000 in
theorem tP_yX1_row : Cond.selects yX1_row.cls yX1_row yX1_row ∈ lw_tbl := List.mem_append_right _ (show _ ∈ tables_1_1 ++ (tables_1_2 ++ tables_1_3) from List.mem_append_right _ (List.mem_append_left _ (List.mem_of_getElem? (i := 231) (by decide +kernel))))
set_option maxRecDepth 20000 in
theorem tK_yX1_row : Cond.code yX1_row cX1_row 7 (Option.some Jvm.ClassFile.FieldType.int) ∈ lw_tbl := List.mem_append_right _ (show _ ∈ tables_1_1 ++ (tables_1_2 ++ tables_1_3) from List.mem_append_right _ (List.mem_append_left _ (List.mem_of_getElem? (i := 232) rfl)))
set_option maxRecDepth 20000 in
theorem tJ_RX1_86 : Cond.constantLong RX1 86 (255) ∈ lw_tbl := List.mem_append_right _ (show _ ∈ tables_1_1 ++ (tables_1_2 ++ tables_1_3) from List.mem_append_right _ (List.mem_append_left _ (List.mem_of_getElem? (i := 233) (by decide +kernel))))
set_option maxRecDepth 20000 in
theorem tM_RL_62 : Cond.methodLink RL 62 yX1_mark ∈ lw_tbl := List.mem_append_right _ (show _ ∈ tables_1_1 ++ (tables_1_2 ++ tables_1_3) from List.mem_append_right _ (List.mem_append_left _ (List.mem_of_getElem? (i := 234) (by decide +kernel))))
set_option maxRecDepth 20000 in
theorem tV_yX1_mark : Cond.instanceMethod yX1_mark ∈ lw_tbl := List.mem_append_right _ (show _ ∈ tables_1_1 ++ (tables_1_2 ++ tables_1_3) from List.mem_append_right _ (List.mem_append_left _ (List.mem_of_getElem? (i := 235) (by decide +kernel))))
set_option maxRecDepth 20000 in
theorem tP_yX1_mark : Cond.selects yX1_mark.cls yX1_mark yX1_mark ∈ lw_tbl := List.mem_append_right _ (show _ ∈ tables_1_1 ++ (tables_1_2 ++ tables_1_3) from List.mem_append_right _ (List.mem_append_left _ (List.mem_of_getElem? (i := 236) (by decide +kernel))))
set_option maxRecDepth 20000 in
theorem tK_yX1_mark : Cond.code yX1_mark cX1_mark 4 (Option.some Jvm.ClassFile.FieldType.int) ∈ lw_tbl := List.mem_append_right _ (show _ ∈ tables_1_1 ++ (tables_1_2 ++ tables_1_3) from List.mem_append_right _ (List.mem_append_left _ (List.mem_of_getElem? (i := 237) rfl)))
set_option maxRecDepth 20000 in
theorem tM_RX1_88 : Cond.methodLink RX1 88 yX1_markAt ∈ lw_tbl := List.mem_append_right _ (show _ ∈ tables_1_1 ++ (tables_1_2 ++ tables_1_3) from List.mem_append_right _ (List.mem_append_left _ (List.mem_of_getElem? (i := 238) (by decide +kernel))))
set_option maxRecDepth 20000 in
theorem tV_yX1_markAt : Cond.instanceMethod yX1_markAt ∈ lw_tbl := List.mem_append_right _ (show _ ∈ tables_1_1 ++ (tables_1_2 ++ tables_1_3) from List.mem_append_right _ (List.mem_append_right _ (List.mem_of_getElem? (i := 0) (by decide +kernel))))
set_option maxRecDepth 20000 in
theorem tK_yX1_markAt : Cond.code yX1_markAt cX1_markAt 3 (Option.some Jvm.ClassFile.FieldType.int) ∈ lw_tbl := List.mem_append_right _ (show _ ∈ tables_1_1 ++ (tables_1_2 ++ tables_1_3) from List.mem_append_right _ (List.mem_append_right _ (List.mem_of_getElem? (i := 1) rfl)))
set_option maxRecDepth 20000 in
theorem tM_RL_66 : Cond.methodLink RL 66 yX1_come ∈ lw_tbl := List.mem_append_right _ (show _ ∈ tables_1_1 ++ (tables_1_2 ++ tables_1_3) from List.mem_append_right _ (List.mem_append_right _ (List.mem_of_getElem? (i := 2) (by decide +kernel))))
set_option maxRecDepth 20000 in
theorem tV_yX1_come : Cond.instanceMethod yX1_come ∈ lw_tbl := List.mem_append_right _ (show _ ∈ tables_1_1 ++ (tables_1_2 ++ tables_1_3) from List.mem_append_right _ (List.mem_append_right _ (List.mem_of_getElem? (i := 3) (by decide +kernel))))
set_option maxRecDepth 20000 in
theorem tP_yX1_come : Cond.selects yX1_come.cls yX1_come yX1_come ∈ lw_tbl := List.mem_append_right _ (show _ ∈ tables_1_1 ++ (tables_1_2 ++ tables_1_3) from List.mem_append_right _ (List.mem_append_right _ (List.mem_of_getElem? (i := 4) (by decide +kernel))))
set_option maxRecDepth 20000 in
theorem tK_yX1_come : Cond.code yX1_come cX1_come 4 (Option.some Jvm.ClassFile.FieldType.int) ∈ lw_tbl := List.mem_append_right _ (show _ ∈ tables_1_1 ++ (tables_1_2 ++ tables_1_3) from List.mem_append_right _ (List.mem_append_right _ (List.mem_of_getElem? (i := 5) rfl)))
set_option maxRecDepth 20000 in
theorem tM_RX1_91 : Cond.methodLink RX1 91 yX1_cameTo ∈ lw_tbl := List.mem_append_right _ (show _ ∈ tables_1_1 ++ (tables_1_2 ++ tables_1_3) from List.mem_append_right _ (List.mem_append_right _ (List.mem_of_getElem? (i := 6) (by decide +kernel))))
set_option maxRecDepth 20000 in
theorem tV_yX1_cameTo : Cond.instanceMethod yX1_cameTo ∈ lw_tbl := List.mem_append_right _ (show _ ∈ tables_1_1 ++ (tables_1_2 ++ tables_1_3) from List.mem_append_right _ (List.mem_append_right _ (List.mem_of_getElem? (i := 8) (by decide +kernel))))
set_option maxRecDepth 20000 in
theorem tK_yX1_cameTo : Cond.code yX1_cameTo cX1_cameTo 5 (Option.some Jvm.ClassFile.FieldType.boolean) ∈ lw_tbl := List.mem_append_right _ (show _ ∈ tables_1_1 ++ (tables_1_2 ++ tables_1_3) from List.mem_append_right _ (List.mem_append_right _ (List.mem_of_getElem? (i := 9) rfl)))
set_option maxRecDepth 20000 in
theorem tM_RL_71 : Cond.methodLink RL 71 yX1_total ∈ lw_tbl := List.mem_append_right _ (show _ ∈ tables_1_1 ++ (tables_1_2 ++ tables_1_3) from List.mem_append_right _ (List.mem_append_right _ (List.mem_of_getElem? (i := 10) (by decide +kernel))))
set_option maxRecDepth 20000 in
theorem tV_yX1_total : Cond.instanceMethod yX1_total ∈ lw_tbl := List.mem_append_right _ (show _ ∈ tables_1_1 ++ (tables_1_2 ++ tables_1_3) from List.mem_append_right _ (List.mem_append_right _ (List.mem_of_getElem? (i := 11) (by decide +kernel))))
set_option maxRecDepth 20000 in
theorem tP_yX1_total : Cond.selects yX1_total.cls yX1_total yX1_total ∈ lw_tbl := List.mem_append_right _ (show _ ∈ tables_1_1 ++ (tables_1_2 ++ tables_1_3) from List.mem_append_right _ (List.mem_append_right _ (List.mem_of_getElem? (i := 12) (by decide +kernel))))
set_option maxRecDepth 20000 in
theorem tK_yX1_total : Cond.code yX1_total cX1_total 2 (Option.some Jvm.ClassFile.FieldType.int) ∈ lw_tbl := List.mem_append_right _ (show _ ∈ tables_1_1 ++ (tables_1_2 ++ tables_1_3) from List.mem_append_right _ (List.mem_append_right _ (List.mem_of_getElem? (i := 13) rfl)))
set_option maxRecDepth 20000 in
theorem tM_RX1_97 : Cond.methodLink RX1 97 yX1_totalOf ∈ lw_tbl := List.mem_append_right _ (show _ ∈ tables_1_1 ++ (tables_1_2 ++ tables_1_3) from List.mem_append_right _ (List.mem_append_right _ (List.mem_of_getElem? (i := 14) (by decide +kernel))))
set_option maxRecDepth 20000 in
theorem tV_yX1_totalOf : Cond.instanceMethod yX1_totalOf ∈ lw_tbl := List.mem_append_right _ (show _ ∈ tables_1_1 ++ (tables_1_2 ++ tables_1_3) from List.mem_append_right _ (List.mem_append_right _ (List.mem_of_getElem? (i := 16) (by decide +kernel))))
set_option maxRecDepth 20000 in
theorem tK_yX1_totalOf : Cond.code yX1_totalOf cX1_totalOf 4 (Option.some Jvm.ClassFile.FieldType.int) ∈ lw_tbl := List.mem_append_right _ (show _ ∈ tables_1_1 ++ (tables_1_2 ++ tables_1_3) from List.mem_append_right _ (List.mem_append_right _ (List.mem_of_getElem? (i := 17) rfl)))
set_option maxRecDepth 20000 in
theorem tM_RX1_94 : Cond.methodLink RX1 94 yX1_isCounted ∈ lw_tbl := List.mem_append_right _ (show _ ∈ tables_1_1 ++ (tables_1_2 ++ tables_1_3) from List.mem_append_right _ (List.mem_append_right _ (List.mem_of_getElem? (i := 18) (by decide +kernel))))
set_option maxRecDepth 20000 in
theorem tV_yX1_isCounted : Cond.instanceMethod yX1_isCounted ∈ lw_tbl := List.mem_append_right _ (show _ ∈ tables_1_1 ++ (tables_1_2 ++ tables_1_3) from List.mem_append_right _ (List.mem_append_right _ (List.mem_of_getElem? (i := 20) (by decide +kernel))))
set_option maxRecDepth 20000 in
theorem tK_yX1_isCounted : Cond.code yX1_isCounted cX1_isCounted 2 (Option.some Jvm.ClassFile.FieldType.boolean) ∈ lw_tbl := List.mem_append_right _ (show _ ∈ tables_1_1 ++ (tables_1_2 ++ tables_1_3) from List.mem_append_right _ (List.mem_append_right _ (List.mem_of_getElem? (i := 21) rfl)))
set_option maxRecDepth 20000 in
theorem tM_RL_76 : Cond.methodLink RL 76 yX1_easy ∈ lw_tbl := List.mem_append_right _ (show _ ∈ tables_1_1 ++ (tables_1_2 ++ tables_1_3) from List.mem_append_right _ (List.mem_append_right _ (List.mem_of_getElem? (i := 22) (by decide +kernel))))
set_option maxRecDepth 20000 in
theorem tV_yX1_easy : Cond.instanceMethod yX1_easy ∈ lw_tbl := List.mem_append_right _ (show _ ∈ tables_1_1 ++ (tables_1_2 ++ tables_1_3) from List.mem_append_right _ (List.mem_append_right _ (List.mem_of_getElem? (i := 23) (by decide +kernel))))
set_option maxRecDepth 20000 in
theorem tP_yX1_easy : Cond.selects yX1_easy.cls yX1_easy yX1_easy ∈ lw_tbl := List.mem_append_right _ (show _ ∈ tables_1_1 ++ (tables_1_2 ++ tables_1_3) from List.mem_append_right _ (List.mem_append_right _ (List.mem_of_getElem? (i := 24) (by decide +kernel))))
set_option maxRecDepth 20000 in
theorem tK_yX1_easy : Cond.code yX1_easy cX1_easy 9 (Option.some Jvm.ClassFile.FieldType.long) ∈ lw_tbl := List.mem_append_right _ (show _ ∈ tables_1_1 ++ (tables_1_2 ++ tables_1_3) from List.mem_append_right _ (List.mem_append_right _ (List.mem_of_getElem? (i := 25) rfl)))
set_option maxRecDepth 20000 in
theorem tJ_RX1_104 : Cond.constantLong RX1 104 (-9223372036854775808) ∈ lw_tbl := List.mem_append_right _ (show _ ∈ tables_1_1 ++ (tables_1_2 ++ tables_1_3) from List.mem_append_right _ (List.mem_append_right _ (List.mem_of_getElem? (i := 26) (by decide +kernel))))
set_option maxRecDepth 20000 in
theorem tM_RX1_106 : Cond.methodLink RX1 106 yX1_part ∈ lw_tbl := List.mem_append_right _ (show _ ∈ tables_1_1 ++ (tables_1_2 ++ tables_1_3) from List.mem_append_right _ (List.mem_append_right _ (List.mem_of_getElem? (i := 27) (by decide +kernel))))
set_option maxRecDepth 20000 in
theorem tV_yX1_part : Cond.instanceMethod yX1_part ∈ lw_tbl := List.mem_append_right _ (show _ ∈ tables_1_1 ++ (tables_1_2 ++ tables_1_3) from List.mem_append_right _ (List.mem_append_right _ (List.mem_of_getElem? (i := 29) (by decide +kernel))))
set_option maxRecDepth 20000 in
theorem tK_yX1_part : Cond.code yX1_part cX1_part 8 (Option.some Jvm.ClassFile.FieldType.long) ∈ lw_tbl := List.mem_append_right _ (show _ ∈ tables_1_1 ++ (tables_1_2 ++ tables_1_3) from List.mem_append_right _ (List.mem_append_right _ (List.mem_of_getElem? (i := 30) rfl)))
set_option maxRecDepth 20000 in
theorem tM_RX1_100 : Cond.methodLink RX1 100 yX1_divisor ∈ lw_tbl := List.mem_append_right _ (show _ ∈ tables_1_1 ++ (tables_1_2 ++ tables_1_3) from List.mem_append_right _ (List.mem_append_right _ (List.mem_of_getElem? (i := 31) (by decide +kernel))))
set_option maxRecDepth 20000 in
theorem tV_yX1_divisor : Cond.instanceMethod yX1_divisor ∈ lw_tbl := List.mem_append_right _ (show _ ∈ tables_1_1 ++ (tables_1_2 ++ tables_1_3) from List.mem_append_right _ (List.mem_append_right _ (List.mem_of_getElem? (i := 33) (by decide +kernel))))
set_option maxRecDepth 20000 in
theorem tK_yX1_divisor : Cond.code yX1_divisor cX1_divisor 11 (Option.some Jvm.ClassFile.FieldType.long) ∈ lw_tbl := List.mem_append_right _ (show _ ∈ tables_1_1 ++ (tables_1_2 ++ tables_1_3) from List.mem_append_right _ (List.mem_append_right _ (List.mem_of_getElem? (i := 34) rfl)))
set_option maxRecDepth 20000 in
theorem tM_RL_81 : Cond.methodLink RL 81 yX1_sharp ∈ lw_tbl := List.mem_append_right _ (show _ ∈ tables_1_1 ++ (tables_1_2 ++ tables_1_3) from List.mem_append_right _ (List.mem_append_right _ (List.mem_of_getElem? (i := 35) (by decide +kernel))))
set_option maxRecDepth 20000 in
theorem tV_yX1_sharp : Cond.instanceMethod yX1_sharp ∈ lw_tbl := List.mem_append_right _ (show _ ∈ tables_1_1 ++ (tables_1_2 ++ tables_1_3) from List.mem_append_right _ (List.mem_append_right _ (List.mem_of_getElem? (i := 36) (by decide +kernel))))
set_option maxRecDepth 20000 in
theorem tP_yX1_sharp : Cond.selects yX1_sharp.cls yX1_sharp yX1_sharp ∈ lw_tbl := List.mem_append_right _ (show _ ∈ tables_1_1 ++ (tables_1_2 ++ tables_1_3) from List.mem_append_right _ (List.mem_append_right _ (List.mem_of_getElem? (i := 37) (by decide +kernel))))
set_option maxRecDepth 20000 in
theorem tK_yX1_sharp : Cond.code yX1_sharp cX1_sharp 16 (Option.some Jvm.ClassFile.FieldType.long) ∈ lw_tbl := List.mem_append_right _ (show _ ∈ tables_1_1 ++ (tables_1_2 ++ tables_1_3) from List.mem_append_right _ (List.mem_append_right _ (List.mem_of_getElem? (i := 38) rfl)))
set_option maxRecDepth 20000 in
theorem tM_RL_85 : Cond.methodLink RL 85 yX1_leaky ∈ lw_tbl := List.mem_append_right _ (show _ ∈ tables_1_1 ++ (tables_1_2 ++ tables_1_3) from List.mem_append_right _ (List.mem_append_right _ (List.mem_of_getElem? (i := 39) (by decide +kernel))))
set_option maxRecDepth 20000 in
theorem tV_yX1_leaky : Cond.instanceMethod yX1_leaky ∈ lw_tbl := List.mem_append_right _ (show _ ∈ tables_1_1 ++ (tables_1_2 ++ tables_1_3) from List.mem_append_right _ (List.mem_append_right _ (List.mem_of_getElem? (i := 40) (by decide +kernel))))
set_option maxRecDepth 20000 in
theorem tP_yX1_leaky : Cond.selects yX1_leaky.cls yX1_leaky yX1_leaky ∈ lw_tbl := List.mem_append_right _ (show _ ∈ tables_1_1 ++ (tables_1_2 ++ tables_1_3) from List.mem_append_right _ (List.mem_append_right _ (List.mem_of_getElem? (i := 41) (by decide +kernel))))
set_option maxRecDepth 20000 in
theorem tK_yX1_leaky : Cond.code yX1_leaky cX1_leaky 4 (Option.some Jvm.ClassFile.FieldType.int) ∈ lw_tbl := List.mem_append_right _ (show _ ∈ tables_1_1 ++ (tables_1_2 ++ tables_1_3) from List.mem_append_right _ (List.mem_append_right _ (List.mem_of_getElem? (i := 42) rfl)))
set_option maxRecDepth 20000 in
theorem tM_RX1_112 : Cond.methodLink RX1 112 yX1_leaks ∈ lw_tbl := List.mem_append_right _ (show _ ∈ tables_1_1 ++ (tables_1_2 ++ tables_1_3) from List.mem_append_right _ (List.mem_append_right _ (List.mem_of_getElem? (i := 43) (by decide +kernel))))
set_option maxRecDepth 20000 in
theorem tV_yX1_leaks : Cond.instanceMethod yX1_leaks ∈ lw_tbl := List.mem_append_right _ (show _ ∈ tables_1_1 ++ (tables_1_2 ++ tables_1_3) from List.mem_append_right _ (List.mem_append_right _ (List.mem_of_getElem? (i := 45) (by decide +kernel))))
set_option maxRecDepth 20000 in
theorem tK_yX1_leaks : Cond.code yX1_leaks cX1_leaks 15 (Option.some Jvm.ClassFile.FieldType.boolean) ∈ lw_tbl := List.mem_append_right _ (show _ ∈ tables_1_1 ++ (tables_1_2 ++ tables_1_3) from List.mem_append_right _ (List.mem_append_right _ (List.mem_of_getElem? (i := 46) rfl)))
set_option maxRecDepth 20000 in
theorem tJ_RX1_110 : Cond.constantLong RX1 110 (100) ∈ lw_tbl := List.mem_append_right _ (show _ ∈ tables_1_1 ++ (tables_1_2 ++ tables_1_3) from List.mem_append_right _ (List.mem_append_right _ (List.mem_of_getElem? (i := 47) (by decide +kernel))))
set_option maxRecDepth 20000 in
theorem tM_RL_89 : Cond.methodLink RL 89 yX1_leak ∈ lw_tbl := List.mem_append_right _ (show _ ∈ tables_1_1 ++ (tables_1_2 ++ tables_1_3) from List.mem_append_right _ (List.mem_append_right _ (List.mem_of_getElem? (i := 48) (by decide +kernel))))
set_option maxRecDepth 20000 in
theorem tV_yX1_leak : Cond.instanceMethod yX1_leak ∈ lw_tbl := List.mem_append_right _ (show _ ∈ tables_1_1 ++ (tables_1_2 ++ tables_1_3) from List.mem_append_right _ (List.mem_append_right _ (List.mem_of_getElem? (i := 49) (by decide +kernel))))
set_option maxRecDepth 20000 in
theorem tP_yX1_leak : Cond.selects yX1_leak.cls yX1_leak yX1_leak ∈ lw_tbl := List.mem_append_right _ (show _ ∈ tables_1_1 ++ (tables_1_2 ++ tables_1_3) from List.mem_append_right _ (List.mem_append_right _ (List.mem_of_getElem? (i := 50) (by decide +kernel))))
set_option maxRecDepth 20000 in
theorem tK_yX1_leak : Cond.code yX1_leak cX1_leak 5 (Option.some Jvm.ClassFile.FieldType.int) ∈ lw_tbl := List.mem_append_right _ (show _ ∈ tables_1_1 ++ (tables_1_2 ++ tables_1_3) from List.mem_append_right _ (List.mem_append_right _ (List.mem_of_getElem? (i := 51) rfl)))
set_option maxRecDepth 20000 in
theorem tM_RL_93 : Cond.methodLink RL 93 yX1_shared ∈ lw_tbl := List.mem_append_right _ (show _ ∈ tables_1_1 ++ (tables_1_2 ++ tables_1_3) from List.mem_append_right _ (List.mem_append_right _ (List.mem_of_getElem? (i := 52) (by decide +kernel))))
set_option maxRecDepth 20000 in
theorem tV_yX1_shared : Cond.instanceMethod yX1_shared ∈ lw_tbl := List.mem_append_right _ (show _ ∈ tables_1_1 ++ (tables_1_2 ++ tables_1_3) from List.mem_append_right _ (List.mem_append_right _ (List.mem_of_getElem? (i := 53) (by decide +kernel))))
set_option maxRecDepth 20000 in
theorem tP_yX1_shared : Cond.selects yX1_shared.cls yX1_shared yX1_shared ∈ lw_tbl := List.mem_append_right _ (show _ ∈ tables_1_1 ++ (tables_1_2 ++ tables_1_3) from List.mem_append_right _ (List.mem_append_right _ (List.mem_of_getElem? (i := 54) (by decide +kernel))))
set_option maxRecDepth 20000 in
theorem tK_yX1_shared : Cond.code yX1_shared cX1_shared 3 (Option.some Jvm.ClassFile.FieldType.int) ∈ lw_tbl := List.mem_append_right _ (show _ ∈ tables_1_1 ++ (tables_1_2 ++ tables_1_3) from List.mem_append_right _ (List.mem_append_right _ (List.mem_of_getElem? (i := 55) rfl)))
set_option maxRecDepth 20000 in
theorem tM_RX1_118 : Cond.methodLink RX1 118 yX1_sharedMany ∈ lw_tbl := List.mem_append_right _ (show _ ∈ tables_1_1 ++ (tables_1_2 ++ tables_1_3) from List.mem_append_right _ (List.mem_append_right _ (List.mem_of_getElem? (i := 56) (by decide +kernel))))
set_option maxRecDepth 20000 in
theorem tV_yX1_sharedMany : Cond.instanceMethod yX1_sharedMany ∈ lw_tbl := List.mem_append_right _ (show _ ∈ tables_1_1 ++ (tables_1_2 ++ tables_1_3) from List.mem_append_right _ (List.mem_append_right _ (List.mem_of_getElem? (i := 58) (by decide +kernel))))
set_option maxRecDepth 20000 in
theorem tK_yX1_sharedMany : Cond.code yX1_sharedMany cX1_sharedMany 5 (Option.some Jvm.ClassFile.FieldType.int) ∈ lw_tbl := List.mem_append_right _ (show _ ∈ tables_1_1 ++ (tables_1_2 ++ tables_1_3) from List.mem_append_right _ (List.mem_append_right _ (List.mem_of_getElem? (i := 59) rfl)))
set_option maxRecDepth 20000 in
theorem tM_RX1_115 : Cond.methodLink RX1 115 yX1_isShared ∈ lw_tbl := List.mem_append_right _ (show _ ∈ tables_1_1 ++ (tables_1_2 ++ tables_1_3) from List.mem_append_right _ (List.mem_append_right _ (List.mem_of_getElem? (i := 60) (by decide +kernel))))
set_option maxRecDepth 20000 in
theorem tV_yX1_isShared : Cond.instanceMethod yX1_isShared ∈ lw_tbl := List.mem_append_right _ (show _ ∈ tables_1_1 ++ (tables_1_2 ++ tables_1_3) from List.mem_append_right _ (List.mem_append_right _ (List.mem_of_getElem? (i := 62) (by decide +kernel))))
set_option maxRecDepth 20000 in
theorem tK_yX1_isShared : Cond.code yX1_isShared cX1_isShared 4 (Option.some Jvm.ClassFile.FieldType.boolean) ∈ lw_tbl := List.mem_append_right _ (show _ ∈ tables_1_1 ++ (tables_1_2 ++ tables_1_3) from List.mem_append_right _ (List.mem_append_right _ (List.mem_of_getElem? (i := 63) rfl)))
set_option maxRecDepth 20000 in
theorem tM_RL_97 : Cond.methodLink RL 97 yX1_sum ∈ lw_tbl := List.mem_append_right _ (show _ ∈ tables_1_1 ++ (tables_1_2 ++ tables_1_3) from List.mem_append_right _ (List.mem_append_right _ (List.mem_of_getElem? (i := 64) (by decide +kernel))))
set_option maxRecDepth 20000 in
theorem tV_yX1_sum : Cond.instanceMethod yX1_sum ∈ lw_tbl := List.mem_append_right _ (show _ ∈ tables_1_1 ++ (tables_1_2 ++ tables_1_3) from List.mem_append_right _ (List.mem_append_right _ (List.mem_of_getElem? (i := 65) (by decide +kernel))))
set_option maxRecDepth 20000 in
theorem tP_yX1_sum : Cond.selects yX1_sum.cls yX1_sum yX1_sum ∈ lw_tbl := List.mem_append_right _ (show _ ∈ tables_1_1 ++ (tables_1_2 ++ tables_1_3) from List.mem_append_right _ (List.mem_append_right _ (List.mem_of_getElem? (i := 66) (by decide +kernel))))
set_option maxRecDepth 20000 in
theorem tK_yX1_sum : Cond.code yX1_sum cX1_sum 3 (Option.some Jvm.ClassFile.FieldType.int) ∈ lw_tbl := List.mem_append_right _ (show _ ∈ tables_1_1 ++ (tables_1_2 ++ tables_1_3) from List.mem_append_right _ (List.mem_append_right _ (List.mem_of_getElem? (i := 67) rfl)))
set_option maxRecDepth 20000 in
theorem tM_RX1_121 : Cond.methodLink RX1 121 yX1_sharedSum ∈ lw_tbl := List.mem_append_right _ (show _ ∈ tables_1_1 ++ (tables_1_2 ++ tables_1_3) from List.mem_append_right _ (List.mem_append_right _ (List.mem_of_getElem? (i := 68) (by decide +kernel))))
set_option maxRecDepth 20000 in
theorem tV_yX1_sharedSum : Cond.instanceMethod yX1_sharedSum ∈ lw_tbl := List.mem_append_right _ (show _ ∈ tables_1_1 ++ (tables_1_2 ++ tables_1_3) from List.mem_append_right _ (List.mem_append_right _ (List.mem_of_getElem? (i := 70) (by decide +kernel))))
set_option maxRecDepth 20000 in
theorem tK_yX1_sharedSum : Cond.code yX1_sharedSum cX1_sharedSum 5 (Option.some Jvm.ClassFile.FieldType.int) ∈ lw_tbl := List.mem_append_right _ (show _ ∈ tables_1_1 ++ (tables_1_2 ++ tables_1_3) from List.mem_append_right _ (List.mem_append_right _ (List.mem_of_getElem? (i := 71) rfl)))
set_option maxRecDepth 20000 in
theorem tM_RL_102 : Cond.methodLink RL 102 yX1_group ∈ lw_tbl := List.mem_append_right _ (show _ ∈ tables_1_1 ++ (tables_1_2 ++ tables_1_3) from List.mem_append_right _ (List.mem_append_right _ (List.mem_of_getElem? (i := 72) (by decide +kernel))))
set_option maxRecDepth 20000 in
theorem tV_yX1_group : Cond.instanceMethod yX1_group ∈ lw_tbl := List.mem_append_right _ (show _ ∈ tables_1_1 ++ (tables_1_2 ++ tables_1_3) from List.mem_append_right _ (List.mem_append_right _ (List.mem_of_getElem? (i := 73) (by decide +kernel))))
set_option maxRecDepth 20000 in
theorem tP_yX1_group : Cond.selects yX1_group.cls yX1_group yX1_group ∈ lw_tbl := List.mem_append_right _ (show _ ∈ tables_1_1 ++ (tables_1_2 ++ tables_1_3) from List.mem_append_right _ (List.mem_append_right _ (List.mem_of_getElem? (i := 74) (by decide +kernel))))
set_option maxRecDepth 20000 in
theorem tK_yX1_group : Cond.code yX1_group cX1_group 4 (Option.some Jvm.ClassFile.FieldType.long) ∈ lw_tbl := List.mem_append_right _ (show _ ∈ tables_1_1 ++ (tables_1_2 ++ tables_1_3) from List.mem_append_right _ (List.mem_append_right _ (List.mem_of_getElem? (i := 75) rfl)))
set_option maxRecDepth 20000 in
theorem tM_RX1_128 : Cond.methodLink RX1 128 yX1_sumOf ∈ lw_tbl := List.mem_append_right _ (show _ ∈ tables_1_1 ++ (tables_1_2 ++ tables_1_3) from List.mem_append_right _ (List.mem_append_right _ (List.mem_of_getElem? (i := 76) (by decide +kernel))))
set_option maxRecDepth 20000 in
theorem tV_yX1_sumOf : Cond.instanceMethod yX1_sumOf ∈ lw_tbl := List.mem_append_right _ (show _ ∈ tables_1_1 ++ (tables_1_2 ++ tables_1_3) from List.mem_append_right _ (List.mem_append_right _ (List.mem_of_getElem? (i := 78) (by decide +kernel))))
set_option maxRecDepth 20000 in
theorem tK_yX1_sumOf : Cond.code yX1_sumOf cX1_sumOf 6 (Option.some Jvm.ClassFile.FieldType.long) ∈ lw_tbl := List.mem_append_right _ (show _ ∈ tables_1_1 ++ (tables_1_2 ++ tables_1_3) from List.mem_append_right _ (List.mem_append_right _ (List.mem_of_getElem? (i := 79) rfl)))
set_option maxRecDepth 20000 in
theorem tM_RX1_124 : Cond.methodLink RX1 124 yX1_valueOf ∈ lw_tbl := List.mem_append_right _ (show _ ∈ tables_1_1 ++ (tables_1_2 ++ tables_1_3) from List.mem_append_right _ (List.mem_append_right _ (List.mem_of_getElem? (i := 80) (by decide +kernel))))
set_option maxRecDepth 20000 in
theorem tV_yX1_valueOf : Cond.instanceMethod yX1_valueOf ∈ lw_tbl := List.mem_append_right _ (show _ ∈ tables_1_1 ++ (tables_1_2 ++ tables_1_3) from List.mem_append_right _ (List.mem_append_right _ (List.mem_of_getElem? (i := 82) (by decide +kernel))))
set_option maxRecDepth 20000 in
theorem tK_yX1_valueOf : Cond.code yX1_valueOf cX1_valueOf 3 (Option.some Jvm.ClassFile.FieldType.long) ∈ lw_tbl := List.mem_append_right _ (show _ ∈ tables_1_1 ++ (tables_1_2 ++ tables_1_3) from List.mem_append_right _ (List.mem_append_right _ (List.mem_of_getElem? (i := 83) rfl)))
set_option maxRecDepth 20000 in
theorem tM_RX1_131 : Cond.methodLink RX1 131 yX1_away ∈ lw_tbl := List.mem_append_right _ (show _ ∈ tables_1_1 ++ (tables_1_2 ++ tables_1_3) from List.mem_append_right _ (List.mem_append_right _ (List.mem_of_getElem? (i := 84) (by decide +kernel))))
set_option maxRecDepth 20000 in
theorem tV_yX1_away : Cond.instanceMethod yX1_away ∈ lw_tbl := List.mem_append_right _ (show _ ∈ tables_1_1 ++ (tables_1_2 ++ tables_1_3) from List.mem_append_right _ (List.mem_append_right _ (List.mem_of_getElem? (i := 86) (by decide +kernel))))
set_option maxRecDepth 20000 in
theorem tK_yX1_away : Cond.code yX1_away cX1_away 12 (Option.some Jvm.ClassFile.FieldType.long) ∈ lw_tbl := List.mem_append_right _ (show _ ∈ tables_1_1 ++ (tables_1_2 ++ tables_1_3) from List.mem_append_right _ (List.mem_append_right _ (List.mem_of_getElem? (i := 87) rfl)))
set_option maxRecDepth 20000 in
theorem tM_RL_107 : Cond.methodLink RL 107 yX1_scale ∈ lw_tbl := List.mem_append_right _ (show _ ∈ tables_1_1 ++ (tables_1_2 ++ tables_1_3) from List.mem_append_right _ (List.mem_append_right _ (List.mem_of_getElem? (i := 88) (by decide +kernel))))
set_option maxRecDepth 20000 in
theorem tV_yX1_scale : Cond.instanceMethod yX1_scale ∈ lw_tbl := List.mem_append_right _ (show _ ∈ tables_1_1 ++ (tables_1_2 ++ tables_1_3) from List.mem_append_right _ (List.mem_append_right _ (List.mem_of_getElem? (i := 89) (by decide +kernel))))
set_option maxRecDepth 20000 in
theorem tP_yX1_scale : Cond.selects yX1_scale.cls yX1_scale yX1_scale ∈ lw_tbl := List.mem_append_right _ (show _ ∈ tables_1_1 ++ (tables_1_2 ++ tables_1_3) from List.mem_append_right _ (List.mem_append_right _ (List.mem_of_getElem? (i := 90) (by decide +kernel))))
set_option maxRecDepth 20000 in
theorem tK_yX1_scale : Cond.code yX1_scale cX1_scale 17 (Option.some Jvm.ClassFile.FieldType.long) ∈ lw_tbl := List.mem_append_right _ (show _ ∈ tables_1_1 ++ (tables_1_2 ++ tables_1_3) from List.mem_append_right _ (List.mem_append_right _ (List.mem_of_getElem? (i := 91) rfl)))
set_option maxRecDepth 20000 in
theorem tM_RL_111 : Cond.methodLink RL 111 yX1_rank ∈ lw_tbl := List.mem_append_right _ (show _ ∈ tables_1_1 ++ (tables_1_2 ++ tables_1_3) from List.mem_append_right _ (List.mem_append_right _ (List.mem_of_getElem? (i := 92) (by decide +kernel))))
set_option maxRecDepth 20000 in
theorem tV_yX1_rank : Cond.instanceMethod yX1_rank ∈ lw_tbl := List.mem_append_right _ (show _ ∈ tables_1_1 ++ (tables_1_2 ++ tables_1_3) from List.mem_append_right _ (List.mem_append_right _ (List.mem_of_getElem? (i := 93) (by decide +kernel))))
set_option maxRecDepth 20000 in
theorem tP_yX1_rank : Cond.selects yX1_rank.cls yX1_rank yX1_rank ∈ lw_tbl := List.mem_append_right _ (show _ ∈ tables_1_1 ++ (tables_1_2 ++ tables_1_3) from List.mem_append_right _ (List.mem_append_right _ (List.mem_of_getElem? (i := 94) (by decide +kernel))))
set_option maxRecDepth 20000 in
theorem tK_yX1_rank : Cond.code yX1_rank cX1_rank 3 (Option.some Jvm.ClassFile.FieldType.int) ∈ lw_tbl := List.mem_append_right _ (show _ ∈ tables_1_1 ++ (tables_1_2 ++ tables_1_3) from List.mem_append_right _ (List.mem_append_right _ (List.mem_of_getElem? (i := 95) rfl)))
set_option maxRecDepth 20000 in
theorem tM_RX1_136 : Cond.methodLink RX1 136 yX1_rankOf ∈ lw_tbl := List.mem_append_right _ (show _ ∈ tables_1_1 ++ (tables_1_2 ++ tables_1_3) from List.mem_append_right _ (List.mem_append_right _ (List.mem_of_getElem? (i := 96) (by decide +kernel))))
set_option maxRecDepth 20000 in
theorem tV_yX1_rankOf : Cond.instanceMethod yX1_rankOf ∈ lw_tbl := List.mem_append_right _ (show _ ∈ tables_1_1 ++ (tables_1_2 ++ tables_1_3) from List.mem_append_right _ (List.mem_append_right _ (List.mem_of_getElem? (i := 98) (by decide +kernel))))
set_option maxRecDepth 20000 in
theorem tK_yX1_rankOf : Cond.code yX1_rankOf cX1_rankOf 7 (Option.some Jvm.ClassFile.FieldType.long) ∈ lw_tbl := List.mem_append_right _ (show _ ∈ tables_1_1 ++ (tables_1_2 ++ tables_1_3) from List.mem_append_right _ (List.mem_append_right _ (List.mem_of_getElem? (i := 99) rfl)))
set_option maxRecDepth 20000 in
theorem tJ_RX1_134 : Cond.constantLong RX1 134 (2) ∈ lw_tbl := List.mem_append_right _ (show _ ∈ tables_1_1 ++ (tables_1_2 ++ tables_1_3) from List.mem_append_right _ (List.mem_append_right _ (List.mem_of_getElem? (i := 100) (by decide +kernel))))
set_option maxRecDepth 20000 in
theorem tM_RL_115 : Cond.methodLink RL 115 yX1_like ∈ lw_tbl := List.mem_append_right _ (show _ ∈ tables_1_1 ++ (tables_1_2 ++ tables_1_3) from List.mem_append_right _ (List.mem_append_right _ (List.mem_of_getElem? (i := 101) (by decide +kernel))))
set_option maxRecDepth 20000 in
theorem tV_yX1_like : Cond.instanceMethod yX1_like ∈ lw_tbl := List.mem_append_right _ (show _ ∈ tables_1_1 ++ (tables_1_2 ++ tables_1_3) from List.mem_append_right _ (List.mem_append_right _ (List.mem_of_getElem? (i := 102) (by decide +kernel))))
set_option maxRecDepth 20000 in
theorem tP_yX1_like : Cond.selects yX1_like.cls yX1_like yX1_like ∈ lw_tbl := List.mem_append_right _ (show _ ∈ tables_1_1 ++ (tables_1_2 ++ tables_1_3) from List.mem_append_right _ (List.mem_append_right _ (List.mem_of_getElem? (i := 103) (by decide +kernel))))
set_option maxRecDepth 20000 in
theorem tK_yX1_like : Cond.code yX1_like cX1_like 14 (Option.some Jvm.ClassFile.FieldType.int) ∈ lw_tbl := List.mem_append_right _ (show _ ∈ tables_1_1 ++ (tables_1_2 ++ tables_1_3) from List.mem_append_right _ (List.mem_append_right _ (List.mem_of_getElem? (i := 104) rfl)))
set_option maxRecDepth 20000 in
theorem tM_RL_120 : Cond.methodLink RL 120 yX1_judge ∈ lw_tbl := List.mem_append_right _ (show _ ∈ tables_1_1 ++ (tables_1_2 ++ tables_1_3) from List.mem_append_right _ (List.mem_append_right _ (List.mem_of_getElem? (i := 105) (by decide +kernel))))
set_option maxRecDepth 20000 in
theorem tV_yX1_judge : Cond.instanceMethod yX1_judge ∈ lw_tbl := List.mem_append_right _ (show _ ∈ tables_1_1 ++ (tables_1_2 ++ tables_1_3) from List.mem_append_right _ (List.mem_append_right _ (List.mem_of_getElem? (i := 106) (by decide +kernel))))
set_option maxRecDepth 20000 in
theorem tP_yX1_judge : Cond.selects yX1_judge.cls yX1_judge yX1_judge ∈ lw_tbl := List.mem_append_right _ (show _ ∈ tables_1_1 ++ (tables_1_2 ++ tables_1_3) from List.mem_append_right _ (List.mem_append_right _ (List.mem_of_getElem? (i := 107) (by decide +kernel))))
set_option maxRecDepth 20000 in
theorem tK_yX1_judge : Cond.code yX1_judge cX1_judge 7 (Option.some Jvm.ClassFile.FieldType.int) ∈ lw_tbl := List.mem_append_right _ (show _ ∈ tables_1_1 ++ (tables_1_2 ++ tables_1_3) from List.mem_append_right _ (List.mem_append_right _ (List.mem_of_getElem? (i := 108) rfl)))
set_option maxRecDepth 20000 in
theorem tM_RL_124 : Cond.methodLink RL 124 yX1_cut ∈ lw_tbl := List.mem_append_right _ (show _ ∈ tables_1_1 ++ (tables_1_2 ++ tables_1_3) from List.mem_append_right _ (List.mem_append_right _ (List.mem_of_getElem? (i := 109) (by decide +kernel))))
set_option maxRecDepth 20000 in
theorem tV_yX1_cut : Cond.instanceMethod yX1_cut ∈ lw_tbl := List.mem_append_right _ (show _ ∈ tables_1_1 ++ (tables_1_2 ++ tables_1_3) from List.mem_append_right _ (List.mem_append_right _ (List.mem_of_getElem? (i := 110) (by decide +kernel))))
set_option maxRecDepth 20000 in
theorem tP_yX1_cut : Cond.selects yX1_cut.cls yX1_cut yX1_cut ∈ lw_tbl := List.mem_append_right _ (show _ ∈ tables_1_1 ++ (tables_1_2 ++ tables_1_3) from List.mem_append_right _ (List.mem_append_right _ (List.mem_of_getElem? (i := 111) (by decide +kernel))))
set_option maxRecDepth 20000 in
theorem tK_yX1_cut : Cond.code yX1_cut cX1_cut 3 (Option.some Jvm.ClassFile.FieldType.long) ∈ lw_tbl := List.mem_append_right _ (show _ ∈ tables_1_1 ++ (tables_1_2 ++ tables_1_3) from List.mem_append_right _ (List.mem_append_right _ (List.mem_of_getElem? (i := 112) rfl)))
set_option maxRecDepth 20000 in
theorem tM_RX1_141 : Cond.methodLink RX1 141 yX1_cutOf ∈ lw_tbl := List.mem_append_right _ (show _ ∈ tables_1_1 ++ (tables_1_2 ++ tables_1_3) from List.mem_append_right _ (List.mem_append_right _ (List.mem_of_getElem? (i := 113) (by decide +kernel))))
set_option maxRecDepth 20000 in
theorem tV_yX1_cutOf : Cond.instanceMethod yX1_cutOf ∈ lw_tbl := List.mem_append_right _ (show _ ∈ tables_1_1 ++ (tables_1_2 ++ tables_1_3) from List.mem_append_right _ (List.mem_append_right _ (List.mem_of_getElem? (i := 115) (by decide +kernel))))
set_option maxRecDepth 20000 in
theorem tK_yX1_cutOf : Cond.code yX1_cutOf cX1_cutOf 11 (Option.some Jvm.ClassFile.FieldType.long) ∈ lw_tbl := List.mem_append_right _ (show _ ∈ tables_1_1 ++ (tables_1_2 ++ tables_1_3) from List.mem_append_right _ (List.mem_append_right _ (List.mem_of_getElem? (i := 116) rfl)))
set_option maxRecDepth 20000 in
theorem tJ_RX1_139 : Cond.constantLong RX1 139 (840) ∈ lw_tbl := List.mem_append_right _ (show _ ∈ tables_1_1 ++ (tables_1_2 ++ tables_1_3) from List.mem_append_right _ (List.mem_append_right _ (List.mem_of_getElem? (i := 117) (by decide +kernel))))
set_option maxRecDepth 20000 in
theorem tM_RL_128 : Cond.methodLink RL 128 yX1_passes ∈ lw_tbl := List.mem_append_right _ (show _ ∈ tables_1_1 ++ (tables_1_2 ++ tables_1_3) from List.mem_append_right _ (List.mem_append_right _ (List.mem_of_getElem? (i := 118) (by decide +kernel))))
set_option maxRecDepth 20000 in
theorem tV_yX1_passes : Cond.instanceMethod yX1_passes ∈ lw_tbl := List.mem_append_right _ (show _ ∈ tables_1_1 ++ (tables_1_2 ++ tables_1_3) from List.mem_append_right _ (List.mem_append_right _ (List.mem_of_getElem? (i := 119) (by decide +kernel))))
set_option maxRecDepth 20000 in
theorem tP_yX1_passes : Cond.selects yX1_passes.cls yX1_passes yX1_passes ∈ lw_tbl := List.mem_append_right _ (show _ ∈ tables_1_1 ++ (tables_1_2 ++ tables_1_3) from List.mem_append_right _ (List.mem_append_right _ (List.mem_of_getElem? (i := 120) (by decide +kernel))))
set_option maxRecDepth 20000 in
theorem tK_yX1_passes : Cond.code yX1_passes cX1_passes 2 (Option.some Jvm.ClassFile.FieldType.int) ∈ lw_tbl := List.mem_append_right _ (show _ ∈ tables_1_1 ++ (tables_1_2 ++ tables_1_3) from List.mem_append_right _ (List.mem_append_right _ (List.mem_of_getElem? (i := 121) rfl)))
set_option maxRecDepth 20000 in
theorem tM_RX1_145 : Cond.methodLink RX1 145 yX1_isPassed ∈ lw_tbl := List.mem_append_right _ (show _ ∈ tables_1_1 ++ (tables_1_2 ++ tables_1_3) from List.mem_append_right _ (List.mem_append_right _ (List.mem_of_getElem? (i := 122) (by decide +kernel))))
set_option maxRecDepth 20000 in
theorem tV_yX1_isPassed : Cond.instanceMethod yX1_isPassed ∈ lw_tbl := List.mem_append_right _ (show _ ∈ tables_1_1 ++ (tables_1_2 ++ tables_1_3) from List.mem_append_right _ (List.mem_append_right _ (List.mem_of_getElem? (i := 124) (by decide +kernel))))
set_option maxRecDepth 20000 in
theorem tK_yX1_isPassed : Cond.code yX1_isPassed cX1_isPassed 2 (Option.some Jvm.ClassFile.FieldType.boolean) ∈ lw_tbl := List.mem_append_right _ (show _ ∈ tables_1_1 ++ (tables_1_2 ++ tables_1_3) from List.mem_append_right _ (List.mem_append_right _ (List.mem_of_getElem? (i := 125) rfl)))
set_option maxRecDepth 20000 in
theorem tM_RL_132 : Cond.methodLink RL 132 yX1_border ∈ lw_tbl := List.mem_append_right _ (show _ ∈ tables_1_1 ++ (tables_1_2 ++ tables_1_3) from List.mem_append_right _ (List.mem_append_right _ (List.mem_of_getElem? (i := 126) (by decide +kernel))))
set_option maxRecDepth 20000 in
theorem tV_yX1_border : Cond.instanceMethod yX1_border ∈ lw_tbl := List.mem_append_right _ (show _ ∈ tables_1_1 ++ (tables_1_2 ++ tables_1_3) from List.mem_append_right _ (List.mem_append_right _ (List.mem_of_getElem? (i := 127) (by decide +kernel))))
set_option maxRecDepth 20000 in
theorem tP_yX1_border : Cond.selects yX1_border.cls yX1_border yX1_border ∈ lw_tbl := List.mem_append_right _ (show _ ∈ tables_1_1 ++ (tables_1_2 ++ tables_1_3) from List.mem_append_right _ (List.mem_append_right _ (List.mem_of_getElem? (i := 128) (by decide +kernel))))
set_option maxRecDepth 20000 in
theorem tK_yX1_border : Cond.code yX1_border cX1_border 7 (Option.some Jvm.ClassFile.FieldType.int) ∈ lw_tbl := List.mem_append_right _ (show _ ∈ tables_1_1 ++ (tables_1_2 ++ tables_1_3) from List.mem_append_right _ (List.mem_append_right _ (List.mem_of_getElem? (i := 129) rfl)))
set_option maxRecDepth 20000 in
theorem tM_RL_136 : Cond.methodLink RL 136 yX1_alike ∈ lw_tbl := List.mem_append_right _ (show _ ∈ tables_1_1 ++ (tables_1_2 ++ tables_1_3) from List.mem_append_right _ (List.mem_append_right _ (List.mem_of_getElem? (i := 130) (by decide +kernel))))
set_option maxRecDepth 20000 in
theorem tV_yX1_alike : Cond.instanceMethod yX1_alike ∈ lw_tbl := List.mem_append_right _ (show _ ∈ tables_1_1 ++ (tables_1_2 ++ tables_1_3) from List.mem_append_right _ (List.mem_append_right _ (List.mem_of_getElem? (i := 131) (by decide +kernel))))
set_option maxRecDepth 20000 in
theorem tP_yX1_alike : Cond.selects yX1_alike.cls yX1_alike yX1_alike ∈ lw_tbl := List.mem_append_right _ (show _ ∈ tables_1_1 ++ (tables_1_2 ++ tables_1_3) from List.mem_append_right _ (List.mem_append_right _ (List.mem_of_getElem? (i := 132) (by decide +kernel))))
set_option maxRecDepth 20000 in
theorem tK_yX1_alike : Cond.code yX1_alike cX1_alike 3 (Option.some Jvm.ClassFile.FieldType.int) ∈ lw_tbl := List.mem_append_right _ (show _ ∈ tables_1_1 ++ (tables_1_2 ++ tables_1_3) from List.mem_append_right _ (List.mem_append_right _ (List.mem_of_getElem? (i := 133) rfl)))
set_option maxRecDepth 20000 in
theorem tM_RX1_148 : Cond.methodLink RX1 148 yX1_alikeMany ∈ lw_tbl := List.mem_append_right _ (show _ ∈ tables_1_1 ++ (tables_1_2 ++ tables_1_3) from List.mem_append_right _ (List.mem_append_right _ (List.mem_of_getElem? (i := 134) (by decide +kernel))))
set_option maxRecDepth 20000 in
theorem tV_yX1_alikeMany : Cond.instanceMethod yX1_alikeMany ∈ lw_tbl := List.mem_append_right _ (show _ ∈ tables_1_1 ++ (tables_1_2 ++ tables_1_3) from List.mem_append_right _ (List.mem_append_right _ (List.mem_of_getElem? (i := 136) (by decide +kernel))))
set_option maxRecDepth 20000 in
theorem tK_yX1_alikeMany : Cond.code yX1_alikeMany cX1_alikeMany 6 (Option.some Jvm.ClassFile.FieldType.int) ∈ lw_tbl := List.mem_append_right _ (show _ ∈ tables_1_1 ++ (tables_1_2 ++ tables_1_3) from List.mem_append_right _ (List.mem_append_right _ (List.mem_of_getElem? (i := 137) rfl)))
set_option maxRecDepth 20000 in
theorem tM_RL_140 : Cond.methodLink RL 140 yX1_pair ∈ lw_tbl := List.mem_append_right _ (show _ ∈ tables_1_1 ++ (tables_1_2 ++ tables_1_3) from List.mem_append_right _ (List.mem_append_right _ (List.mem_of_getElem? (i := 138) (by decide +kernel))))
set_option maxRecDepth 20000 in
theorem tV_yX1_pair : Cond.instanceMethod yX1_pair ∈ lw_tbl := List.mem_append_right _ (show _ ∈ tables_1_1 ++ (tables_1_2 ++ tables_1_3) from List.mem_append_right _ (List.mem_append_right _ (List.mem_of_getElem? (i := 139) (by decide +kernel))))
set_option maxRecDepth 20000 in
theorem tP_yX1_pair : Cond.selects yX1_pair.cls yX1_pair yX1_pair ∈ lw_tbl := List.mem_append_right _ (show _ ∈ tables_1_1 ++ (tables_1_2 ++ tables_1_3) from List.mem_append_right _ (List.mem_append_right _ (List.mem_of_getElem? (i := 140) (by decide +kernel))))
set_option maxRecDepth 20000 in
theorem tK_yX1_pair : Cond.code yX1_pair cX1_pair 7 (Option.some Jvm.ClassFile.FieldType.int) ∈ lw_tbl := List.mem_append_right _ (show _ ∈ tables_1_1 ++ (tables_1_2 ++ tables_1_3) from List.mem_append_right _ (List.mem_append_right _ (List.mem_of_getElem? (i := 141) rfl)))
set_option maxRecDepth 20000 in
theorem tM_RL_144 : Cond.methodLink RL 144 yX1_count ∈ lw_tbl := List.mem_append_right _ (show _ ∈ tables_1_1 ++ (tables_1_2 ++ tables_1_3) from List.mem_append_right _ (List.mem_append_right _ (List.mem_of_getElem? (i := 142) (by decide +kernel))))
set_option maxRecDepth 20000 in
theorem tV_yX1_count : Cond.instanceMethod yX1_count ∈ lw_tbl := List.mem_append_right _ (show _ ∈ tables_1_1 ++ (tables_1_2 ++ tables_1_3) from List.mem_append_right _ (List.mem_append_right _ (List.mem_of_getElem? (i := 143) (by decide +kernel))))
set_option maxRecDepth 20000 in
theorem tP_yX1_count : Cond.selects yX1_count.cls yX1_count yX1_count ∈ lw_tbl := List.mem_append_right _ (show _ ∈ tables_1_1 ++ (tables_1_2 ++ tables_1_3) from List.mem_append_right _ (List.mem_append_right _ (List.mem_of_getElem? (i := 144) (by decide +kernel))))
set_option maxRecDepth 20000 in
theorem tK_yX1_count : Cond.code yX1_count cX1_count 5 (Option.some Jvm.ClassFile.FieldType.int) ∈ lw_tbl := List.mem_append_right _ (show _ ∈ tables_1_1 ++ (tables_1_2 ++ tables_1_3) from List.mem_append_right _ (List.mem_append_right _ (List.mem_of_getElem? (i := 145) rfl)))
set_option maxRecDepth 20000 in
theorem tJ_RL_52 : Cond.constantLong RL 52 (4294967295) ∈ lw_tbl := List.mem_append_right _ (show _ ∈ tables_1_1 ++ (tables_1_2 ++ tables_1_3) from List.mem_append_right _ (List.mem_append_right _ (List.mem_of_getElem? (i := 146) (by decide +kernel))))
set_option maxRecDepth 20000 in
theorem tP_yX0_isQuestion : Cond.selects yX0_isQuestion.cls yX0_isQuestion yX0_isQuestion ∈ lw_tbl := List.mem_append_left _ (List.mem_map.mpr ⟨(yX0_isQuestion, 18), List.mem_of_getElem? (i := 0) (by decide +kernel), rfl⟩)
set_option maxRecDepth 20000 in
theorem tP_yX0_isPaper : Cond.selects yX0_isPaper.cls yX0_isPaper yX0_isPaper ∈ lw_tbl := List.mem_append_left _ (List.mem_map.mpr ⟨(yX0_isPaper, 18), List.mem_of_getElem? (i := 1) (by decide +kernel), rfl⟩)
set_option maxRecDepth 20000 in
theorem tP_yX0_hasPupil : Cond.selects yX0_hasPupil.cls yX0_hasPupil yX0_hasPupil ∈ lw_tbl := List.mem_append_left _ (List.mem_map.mpr ⟨(yX0_hasPupil, 18), List.mem_of_getElem? (i := 2) (by decide +kernel), rfl⟩)
set_option maxRecDepth 20000 in
theorem tP_yX0_spotFor : Cond.selects yX0_spotFor.cls yX0_spotFor yX0_spotFor ∈ lw_tbl := List.mem_append_left _ (List.mem_map.mpr ⟨(yX0_spotFor, 18), List.mem_of_getElem? (i := 3) (by decide +kernel), rfl⟩)
set_option maxRecDepth 20000 in
theorem tP_yX0_isPupil : Cond.selects yX0_isPupil.cls yX0_isPupil yX0_isPupil ∈ lw_tbl := List.mem_append_left _ (List.mem_map.mpr ⟨(yX0_isPupil, 18), List.mem_of_getElem? (i := 4) (by decide +kernel), rfl⟩)
set_option maxRecDepth 20000 in
theorem tP_yX0_spotOf : Cond.selects yX0_spotOf.cls yX0_spotOf yX0_spotOf ∈ lw_tbl := List.mem_append_left _ (List.mem_map.mpr ⟨(yX0_spotOf, 18), List.mem_of_getElem? (i := 5) (by decide +kernel), rfl⟩)
set_option maxRecDepth 20000 in
theorem tP_yX0_isAnswer : Cond.selects yX0_isAnswer.cls yX0_isAnswer yX0_isAnswer ∈ lw_tbl := List.mem_append_left _ (List.mem_map.mpr ⟨(yX0_isAnswer, 18), List.mem_of_getElem? (i := 6) (by decide +kernel), rfl⟩)
set_option maxRecDepth 20000 in
theorem tP_yX0_worth : Cond.selects yX0_worth.cls yX0_worth yX0_worth ∈ lw_tbl := List.mem_append_left _ (List.mem_map.mpr ⟨(yX0_worth, 18), List.mem_of_getElem? (i := 7) (by decide +kernel), rfl⟩)
set_option maxRecDepth 20000 in
theorem tP_yX0_markAt : Cond.selects yX0_markAt.cls yX0_markAt yX0_markAt ∈ lw_tbl := List.mem_append_left _ (List.mem_map.mpr ⟨(yX0_markAt, 18), List.mem_of_getElem? (i := 8) (by decide +kernel), rfl⟩)
set_option maxRecDepth 20000 in
theorem tP_yX0_hasComeTo : Cond.selects yX0_hasComeTo.cls yX0_hasComeTo yX0_hasComeTo ∈ lw_tbl := List.mem_append_left _ (List.mem_map.mpr ⟨(yX0_hasComeTo, 18), List.mem_of_getElem? (i := 9) (by decide +kernel), rfl⟩)
set_option maxRecDepth 20000 in
theorem tP_yX0_countingSet : Cond.selects yX0_countingSet.cls yX0_countingSet yX0_countingSet ∈ lw_tbl := List.mem_append_left _ (List.mem_map.mpr ⟨(yX0_countingSet, 18), List.mem_of_getElem? (i := 10) (by decide +kernel), rfl⟩)
set_option maxRecDepth 20000 in
theorem tP_yX0_sumOver : Cond.selects yX0_sumOver.cls yX0_sumOver yX0_sumOver ∈ lw_tbl := List.mem_append_left _ (List.mem_map.mpr ⟨(yX0_sumOver, 18), List.mem_of_getElem? (i := 11) (by decide +kernel), rfl⟩)
set_option maxRecDepth 20000 in
theorem tP_yX0_spotComeTo : Cond.selects yX0_spotComeTo.cls yX0_spotComeTo yX0_spotComeTo ∈ lw_tbl := List.mem_append_left _ (List.mem_map.mpr ⟨(yX0_spotComeTo, 18), List.mem_of_getElem? (i := 12) (by decide +kernel), rfl⟩)
set_option maxRecDepth 20000 in
theorem tP_yX0_tallyPlaces : Cond.selects yX0_tallyPlaces.cls yX0_tallyPlaces yX0_tallyPlaces ∈ lw_tbl := List.mem_append_left _ (List.mem_map.mpr ⟨(yX0_tallyPlaces, 18), List.mem_of_getElem? (i := 13) (by decide +kernel), rfl⟩)
set_option maxRecDepth 20000 in
theorem tP_yX0_isLeakyByTally : Cond.selects yX0_isLeakyByTally.cls yX0_isLeakyByTally yX0_isLeakyByTally ∈ lw_tbl := List.mem_append_left _ (List.mem_map.mpr ⟨(yX0_isLeakyByTally, 18), List.mem_of_getElem? (i := 14) (by decide +kernel), rfl⟩)
set_option maxRecDepth 20000 in
theorem tP_yX0_sharedSet : Cond.selects yX0_sharedSet.cls yX0_sharedSet yX0_sharedSet ∈ lw_tbl := List.mem_append_left _ (List.mem_map.mpr ⟨(yX0_sharedSet, 18), List.mem_of_getElem? (i := 15) (by decide +kernel), rfl⟩)
set_option maxRecDepth 20000 in
theorem tP_yX0_gatherSums : Cond.selects yX0_gatherSums.cls yX0_gatherSums yX0_gatherSums ∈ lw_tbl := List.mem_append_left _ (List.mem_map.mpr ⟨(yX0_gatherSums, 18), List.mem_of_getElem? (i := 16) (by decide +kernel), rfl⟩)
set_option maxRecDepth 20000 in
theorem tP_yX0_sumOfValues : Cond.selects yX0_sumOfValues.cls yX0_sumOfValues yX0_sumOfValues ∈ lw_tbl := List.mem_append_left _ (List.mem_map.mpr ⟨(yX0_sumOfValues, 18), List.mem_of_getElem? (i := 17) (by decide +kernel), rfl⟩)
set_option maxRecDepth 20000 in
theorem tP_yX0_awayOfValues : Cond.selects yX0_awayOfValues.cls yX0_awayOfValues yX0_awayOfValues ∈ lw_tbl := List.mem_append_left _ (List.mem_map.mpr ⟨(yX0_awayOfValues, 18), List.mem_of_getElem? (i := 18) (by decide +kernel), rfl⟩)
set_option maxRecDepth 20000 in
theorem tP_yX0_rankInValues : Cond.selects yX0_rankInValues.cls yX0_rankInValues yX0_rankInValues ∈ lw_tbl := List.mem_append_left _ (List.mem_map.mpr ⟨(yX0_rankInValues, 18), List.mem_of_getElem? (i := 19) (by decide +kernel), rfl⟩)
set_option maxRecDepth 20000 in
theorem tP_yX0_cutParts : Cond.selects yX0_cutParts.cls yX0_cutParts yX0_cutParts ∈ lw_tbl := List.mem_append_left _ (List.mem_map.mpr ⟨(yX0_cutParts, 18), List.mem_of_getElem? (i := 20) (by decide +kernel), rfl⟩)
set_option maxRecDepth 20000 in
theorem tP_yX0_meanParts : Cond.selects yX0_meanParts.cls yX0_meanParts yX0_meanParts ∈ lw_tbl := List.mem_append_left _ (List.mem_map.mpr ⟨(yX0_meanParts, 18), List.mem_of_getElem? (i := 21) (by decide +kernel), rfl⟩)
set_option maxRecDepth 20000 in
theorem tP_yX0_isPassing : Cond.selects yX0_isPassing.cls yX0_isPassing yX0_isPassing ∈ lw_tbl := List.mem_append_left _ (List.mem_map.mpr ⟨(yX0_isPassing, 18), List.mem_of_getElem? (i := 22) (by decide +kernel), rfl⟩)
set_option maxRecDepth 20000 in
theorem tP_yX0_sameWrongs : Cond.selects yX0_sameWrongs.cls yX0_sameWrongs yX0_sameWrongs ∈ lw_tbl := List.mem_append_left _ (List.mem_map.mpr ⟨(yX0_sameWrongs, 18), List.mem_of_getElem? (i := 23) (by decide +kernel), rfl⟩)
set_option maxRecDepth 20000 in
theorem tP_yX0_areAlikeOf : Cond.selects yX0_areAlikeOf.cls yX0_areAlikeOf yX0_areAlikeOf ∈ lw_tbl := List.mem_append_left _ (List.mem_map.mpr ⟨(yX0_areAlikeOf, 18), List.mem_of_getElem? (i := 24) (by decide +kernel), rfl⟩)
set_option maxRecDepth 20000 in
theorem tP_yX0_countAnswers : Cond.selects yX0_countAnswers.cls yX0_countAnswers yX0_countAnswers ∈ lw_tbl := List.mem_append_left _ (List.mem_map.mpr ⟨(yX0_countAnswers, 18), List.mem_of_getElem? (i := 25) (by decide +kernel), rfl⟩)
set_option maxRecDepth 20000 in
theorem tP_yX0_countPassing : Cond.selects yX0_countPassing.cls yX0_countPassing yX0_countPassing ∈ lw_tbl := List.mem_append_left _ (List.mem_map.mpr ⟨(yX0_countPassing, 18), List.mem_of_getElem? (i := 26) (by decide +kernel), rfl⟩)
set_option maxRecDepth 20000 in
theorem tP_yX1_in : Cond.selects yX1_in.cls yX1_in yX1_in ∈ lw_tbl := List.mem_append_left _ (List.mem_map.mpr ⟨(yX1_in, 13), List.mem_of_getElem? (i := 27) (by decide +kernel), rfl⟩)
set_option maxRecDepth 20000 in
theorem tP_yX1_isKey : Cond.selects yX1_isKey.cls yX1_isKey yX1_isKey ∈ lw_tbl := List.mem_append_left _ (List.mem_map.mpr ⟨(yX1_isKey, 13), List.mem_of_getElem? (i := 28) (by decide +kernel), rfl⟩)
set_option maxRecDepth 20000 in
theorem tP_yX1_isQuestion : Cond.selects yX1_isQuestion.cls yX1_isQuestion yX1_isQuestion ∈ lw_tbl := List.mem_append_left _ (List.mem_map.mpr ⟨(yX1_isQuestion, 13), List.mem_of_getElem? (i := 29) (by decide +kernel), rfl⟩)
set_option maxRecDepth 20000 in
theorem tP_yX1_isPaper : Cond.selects yX1_isPaper.cls yX1_isPaper yX1_isPaper ∈ lw_tbl := List.mem_append_left _ (List.mem_map.mpr ⟨(yX1_isPaper, 13), List.mem_of_getElem? (i := 30) (by decide +kernel), rfl⟩)
set_option maxRecDepth 20000 in
theorem tP_yX1_spot : Cond.selects yX1_spot.cls yX1_spot yX1_spot ∈ lw_tbl := List.mem_append_left _ (List.mem_map.mpr ⟨(yX1_spot, 13), List.mem_of_getElem? (i := 31) (by decide +kernel), rfl⟩)
set_option maxRecDepth 20000 in
theorem tP_yX1_groupSize : Cond.selects yX1_groupSize.cls yX1_groupSize yX1_groupSize ∈ lw_tbl := List.mem_append_left _ (List.mem_map.mpr ⟨(yX1_groupSize, 13), List.mem_of_getElem? (i := 32) (by decide +kernel), rfl⟩)
set_option maxRecDepth 20000 in
theorem tP_yX1_own : Cond.selects yX1_own.cls yX1_own yX1_own ∈ lw_tbl := List.mem_append_left _ (List.mem_map.mpr ⟨(yX1_own, 13), List.mem_of_getElem? (i := 33) (by decide +kernel), rfl⟩)
set_option maxRecDepth 20000 in
theorem tP_yX1_isPupil : Cond.selects yX1_isPupil.cls yX1_isPupil yX1_isPupil ∈ lw_tbl := List.mem_append_left _ (List.mem_map.mpr ⟨(yX1_isPupil, 13), List.mem_of_getElem? (i := 34) (by decide +kernel), rfl⟩)
set_option maxRecDepth 20000 in
theorem tP_yX1_isAnswer : Cond.selects yX1_isAnswer.cls yX1_isAnswer yX1_isAnswer ∈ lw_tbl := List.mem_append_left _ (List.mem_map.mpr ⟨(yX1_isAnswer, 13), List.mem_of_getElem? (i := 35) (by decide +kernel), rfl⟩)
set_option maxRecDepth 20000 in
theorem tP_yX1_worth : Cond.selects yX1_worth.cls yX1_worth yX1_worth ∈ lw_tbl := List.mem_append_left _ (List.mem_map.mpr ⟨(yX1_worth, 13), List.mem_of_getElem? (i := 36) (by decide +kernel), rfl⟩)
set_option maxRecDepth 20000 in
theorem tP_yX1_markAt : Cond.selects yX1_markAt.cls yX1_markAt yX1_markAt ∈ lw_tbl := List.mem_append_left _ (List.mem_map.mpr ⟨(yX1_markAt, 13), List.mem_of_getElem? (i := 37) (by decide +kernel), rfl⟩)
set_option maxRecDepth 20000 in
theorem tP_yX1_cameTo : Cond.selects yX1_cameTo.cls yX1_cameTo yX1_cameTo ∈ lw_tbl := List.mem_append_left _ (List.mem_map.mpr ⟨(yX1_cameTo, 13), List.mem_of_getElem? (i := 38) (by decide +kernel), rfl⟩)
set_option maxRecDepth 20000 in
theorem tP_yX1_totalOf : Cond.selects yX1_totalOf.cls yX1_totalOf yX1_totalOf ∈ lw_tbl := List.mem_append_left _ (List.mem_map.mpr ⟨(yX1_totalOf, 13), List.mem_of_getElem? (i := 39) (by decide +kernel), rfl⟩)
set_option maxRecDepth 20000 in
theorem tP_yX1_isCounted : Cond.selects yX1_isCounted.cls yX1_isCounted yX1_isCounted ∈ lw_tbl := List.mem_append_left _ (List.mem_map.mpr ⟨(yX1_isCounted, 13), List.mem_of_getElem? (i := 40) (by decide +kernel), rfl⟩)
set_option maxRecDepth 20000 in
theorem tP_yX1_part : Cond.selects yX1_part.cls yX1_part yX1_part ∈ lw_tbl := List.mem_append_left _ (List.mem_map.mpr ⟨(yX1_part, 13), List.mem_of_getElem? (i := 41) (by decide +kernel), rfl⟩)
set_option maxRecDepth 20000 in
theorem tP_yX1_divisor : Cond.selects yX1_divisor.cls yX1_divisor yX1_divisor ∈ lw_tbl := List.mem_append_left _ (List.mem_map.mpr ⟨(yX1_divisor, 13), List.mem_of_getElem? (i := 42) (by decide +kernel), rfl⟩)
set_option maxRecDepth 20000 in
theorem tP_yX1_leaks : Cond.selects yX1_leaks.cls yX1_leaks yX1_leaks ∈ lw_tbl := List.mem_append_left _ (List.mem_map.mpr ⟨(yX1_leaks, 13), List.mem_of_getElem? (i := 43) (by decide +kernel), rfl⟩)
set_option maxRecDepth 20000 in
theorem tP_yX1_sharedMany : Cond.selects yX1_sharedMany.cls yX1_sharedMany yX1_sharedMany ∈ lw_tbl := List.mem_append_left _ (List.mem_map.mpr ⟨(yX1_sharedMany, 13), List.mem_of_getElem? (i := 44) (by decide +kernel), rfl⟩)
set_option maxRecDepth 20000 in
theorem tP_yX1_isShared : Cond.selects yX1_isShared.cls yX1_isShared yX1_isShared ∈ lw_tbl := List.mem_append_left _ (List.mem_map.mpr ⟨(yX1_isShared, 13), List.mem_of_getElem? (i := 45) (by decide +kernel), rfl⟩)
set_option maxRecDepth 20000 in
theorem tP_yX1_sharedSum : Cond.selects yX1_sharedSum.cls yX1_sharedSum yX1_sharedSum ∈ lw_tbl := List.mem_append_left _ (List.mem_map.mpr ⟨(yX1_sharedSum, 13), List.mem_of_getElem? (i := 46) (by decide +kernel), rfl⟩)
set_option maxRecDepth 20000 in
theorem tP_yX1_sumOf : Cond.selects yX1_sumOf.cls yX1_sumOf yX1_sumOf ∈ lw_tbl := List.mem_append_left _ (List.mem_map.mpr ⟨(yX1_sumOf, 13), List.mem_of_getElem? (i := 47) (by decide +kernel), rfl⟩)
set_option maxRecDepth 20000 in
theorem tP_yX1_valueOf : Cond.selects yX1_valueOf.cls yX1_valueOf yX1_valueOf ∈ lw_tbl := List.mem_append_left _ (List.mem_map.mpr ⟨(yX1_valueOf, 13), List.mem_of_getElem? (i := 48) (by decide +kernel), rfl⟩)
set_option maxRecDepth 20000 in
theorem tP_yX1_away : Cond.selects yX1_away.cls yX1_away yX1_away ∈ lw_tbl := List.mem_append_left _ (List.mem_map.mpr ⟨(yX1_away, 13), List.mem_of_getElem? (i := 49) (by decide +kernel), rfl⟩)
set_option maxRecDepth 20000 in
theorem tP_yX1_rankOf : Cond.selects yX1_rankOf.cls yX1_rankOf yX1_rankOf ∈ lw_tbl := List.mem_append_left _ (List.mem_map.mpr ⟨(yX1_rankOf, 13), List.mem_of_getElem? (i := 50) (by decide +kernel), rfl⟩)
set_option maxRecDepth 20000 in
theorem tP_yX1_cutOf : Cond.selects yX1_cutOf.cls yX1_cutOf yX1_cutOf ∈ lw_tbl := List.mem_append_left _ (List.mem_map.mpr ⟨(yX1_cutOf, 13), List.mem_of_getElem? (i := 51) (by decide +kernel), rfl⟩)
set_option maxRecDepth 20000 in
theorem tP_yX1_isPassed : Cond.selects yX1_isPassed.cls yX1_isPassed yX1_isPassed ∈ lw_tbl := List.mem_append_left _ (List.mem_map.mpr ⟨(yX1_isPassed, 13), List.mem_of_getElem? (i := 52) (by decide +kernel), rfl⟩)
set_option maxRecDepth 20000 in
theorem tP_yX1_alikeMany : Cond.selects yX1_alikeMany.cls yX1_alikeMany yX1_alikeMany ∈ lw_tbl := List.mem_append_left _ (List.mem_map.mpr ⟨(yX1_alikeMany, 13), List.mem_of_getElem? (i := 53) (by decide +kernel), rfl⟩)
theorem inX0 : ∀ w ∈ wsX00, w ∈ lw_tbl := by
  intro w hw
  have e : wsX00 = [Cond.lays RX0 "ExamScales" "questionCount" "I", Cond.lays RX0 "ExamScales" "paperCount" "I", Cond.lays RX0 "ExamScales" "pupilCount" "I", Cond.lays RX0 "ExamScales" "struckSet" "I", Cond.lays RX0 "ExamScales" "trialSet" "I", Cond.laysFinal RX0 "ExamScales" "kinds" "[I", Cond.laysFinal RX0 "ExamScales" "mosts" "[I", Cond.laysFinal RX0 "ExamScales" "keys" "[I", Cond.laysFinal RX0 "ExamScales" "paperSizes" "[I", Cond.laysFinal RX0 "ExamScales" "paperSets" "[I", Cond.laysFinal RX0 "ExamScales" "paperRows" "[I", Cond.laysFinal RX0 "ExamScales" "pupilPapers" "[I", Cond.laysFinal RX0 "ExamScales" "pupilPlaces" "[I", Cond.laysFinal RX0 "ExamScales" "answers" "[I", Cond.laysFinal RX0 "ExamScales" "told" "[I", Cond.laysFinal RX0 "ExamScales" "values" "[I", Cond.laysFinal RX0 "ExamScales" "cameAt" "[I", Cond.laysFinal RX0 "ExamScales" "fullAt" "[I"] := rfl
  rw [e] at hw
  simp only [List.mem_cons, List.not_mem_nil, or_false] at hw
  rcases hw with rfl | rfl | rfl | rfl | rfl | rfl | rfl | rfl | rfl | rfl | rfl | rfl | rfl | rfl | rfl | rfl | rfl | rfl
  · exact tL_RX0_questionCount
  · exact tL_RX0_paperCount
  · exact tL_RX0_pupilCount
  · exact tL_RX0_struckSet
  · exact tL_RX0_trialSet
  · exact tL_RX0_kinds
  · exact tL_RX0_mosts
  · exact tL_RX0_keys
  · exact tL_RX0_paperSizes
  · exact tL_RX0_paperSets
  · exact tL_RX0_paperRows
  · exact tL_RX0_pupilPapers
  · exact tL_RX0_pupilPlaces
  · exact tL_RX0_answers
  · exact tL_RX0_told
  · exact tL_RX0_values
  · exact tL_RX0_cameAt
  · exact tL_RX0_fullAt

theorem inX1 : ∀ w ∈ wsX10, w ∈ lw_tbl := by
  intro w hw
  have e : wsX10 = [Cond.lays RX1 "ExamScalesModel" "questions" "I", Cond.lays RX1 "ExamScalesModel" "papers" "I", Cond.lays RX1 "ExamScalesModel" "pupils" "I", Cond.laysFinal RX1 "ExamScalesModel" "kind" "[I", Cond.laysFinal RX1 "ExamScalesModel" "most" "[I", Cond.laysFinal RX1 "ExamScalesModel" "key" "[I", Cond.laysFinal RX1 "ExamScalesModel" "isStruck" "[Z", Cond.laysFinal RX1 "ExamScalesModel" "asked" "[I", Cond.laysFinal RX1 "ExamScalesModel" "size" "[I", Cond.laysFinal RX1 "ExamScalesModel" "paperOf" "[I", Cond.laysFinal RX1 "ExamScalesModel" "placeOf" "[I", Cond.laysFinal RX1 "ExamScalesModel" "given" "[I", Cond.laysFinal RX1 "ExamScalesModel" "told" "[I"] := rfl
  rw [e] at hw
  simp only [List.mem_cons, List.not_mem_nil, or_false] at hw
  rcases hw with rfl | rfl | rfl | rfl | rfl | rfl | rfl | rfl | rfl | rfl | rfl | rfl | rfl
  · exact tL_RX1_questions
  · exact tL_RX1_papers
  · exact tL_RX1_pupils
  · exact tL_RX1_kind
  · exact tL_RX1_most
  · exact tL_RX1_key
  · exact tL_RX1_isStruck
  · exact tL_RX1_asked
  · exact tL_RX1_size
  · exact tL_RX1_paperOf
  · exact tL_RX1_placeOf
  · exact tL_RX1_given
  · exact tL_RX1_told

