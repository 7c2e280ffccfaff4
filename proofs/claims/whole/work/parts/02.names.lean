def RX0 : String := "OddsLadder"
def TX0 : u_T := fun k => match k with
  | 0 => ("OddsLadder", "coinTenths", "[I", true)
  | 1 => ("OddsLadder", "schoolOdds", "[I", true)
  | 2 => ("OddsLadder", "shares", "[[I", true)
  | 3 => ("OddsLadder", "tossHeads", "[Z", true)
  | 4 => ("OddsLadder", "coinCount", "I", false)
  | 5 => ("OddsLadder", "schoolCount", "I", false)
  | _ => ("OddsLadder", "tossCount", "I", false)
def tyX0 : Nat → FieldType := fun k => match k with
  | 0 => .array .int
  | 1 => .array .int
  | 2 => .array (.array .int)
  | 3 => .array .boolean
  | 4 => .int
  | 5 => .int
  | _ => .int
abbrev wsX00 : List Cond := u_ws RX0 TX0 7
theorem nmX0 : ∀ a, a < 7 → ∀ b, b < 7 → a ≠ b → (TX0 a).2.1 ≠ (TX0 b).2.1 := by decide +kernel
theorem tyX0_ok : ∀ k, k < 7 → parseFieldDescriptor (TX0 k).2.2.1 = some (tyX0 k) := by decide +kernel
abbrev cX0_init : ByteArray := prog_1_method_1_code
def yX0_init : MethodName := ⟨RX0, "<init>", "()V"⟩
abbrev cX0_addCoin : ByteArray := prog_1_method_2_code
def yX0_addCoin : MethodName := ⟨RX0, "addCoin", "(I)I"⟩
abbrev cX0_addSchool : ByteArray := prog_1_method_3_code
def yX0_addSchool : MethodName := ⟨RX0, "addSchool", "(I)I"⟩
abbrev cX0_setShare : ByteArray := prog_1_method_4_code
def yX0_setShare : MethodName := ⟨RX0, "setShare", "(III)I"⟩
abbrev cX0_toss : ByteArray := prog_1_method_5_code
def yX0_toss : MethodName := ⟨RX0, "toss", "(Z)I"⟩
abbrev cX0_undo : ByteArray := prog_1_method_6_code
def yX0_undo : MethodName := ⟨RX0, "undo", "()Z"⟩
abbrev cX0_strike : ByteArray := prog_1_method_7_code
def yX0_strike : MethodName := ⟨RX0, "strike", "(I)I"⟩
abbrev cX0_coins : ByteArray := prog_1_method_8_code
def yX0_coins : MethodName := ⟨RX0, "coins", "()I"⟩
abbrev cX0_schools : ByteArray := prog_1_method_9_code
def yX0_schools : MethodName := ⟨RX0, "schools", "()I"⟩
abbrev cX0_tosses : ByteArray := prog_1_method_10_code
def yX0_tosses : MethodName := ⟨RX0, "tosses", "()I"⟩
abbrev cX0_heads : ByteArray := prog_1_method_11_code
def yX0_heads : MethodName := ⟨RX0, "heads", "()I"⟩
abbrev cX0_isHeads : ByteArray := prog_1_method_12_code
def yX0_isHeads : MethodName := ⟨RX0, "isHeads", "(I)Z"⟩
abbrev cX0_tenthsOf : ByteArray := prog_1_method_13_code
def yX0_tenthsOf : MethodName := ⟨RX0, "tenthsOf", "(I)I"⟩
abbrev cX0_oddsOf : ByteArray := prog_1_method_14_code
def yX0_oddsOf : MethodName := ⟨RX0, "oddsOf", "(I)I"⟩
abbrev cX0_shareOf : ByteArray := prog_1_method_15_code
def yX0_shareOf : MethodName := ⟨RX0, "shareOf", "(II)I"⟩
abbrev cX0_weightOf : ByteArray := prog_1_method_16_code
def yX0_weightOf : MethodName := ⟨RX0, "weightOf", "(II)J"⟩
abbrev cX0_coinWeight : ByteArray := prog_1_method_17_code
def yX0_coinWeight : MethodName := ⟨RX0, "coinWeight", "(I)J"⟩
abbrev cX0_schoolWeight : ByteArray := prog_1_method_18_code
def yX0_schoolWeight : MethodName := ⟨RX0, "schoolWeight", "(I)J"⟩
abbrev cX0_wholeWeight : ByteArray := prog_1_method_19_code
def yX0_wholeWeight : MethodName := ⟨RX0, "wholeWeight", "()J"⟩
abbrev cX0_isRuledOut : ByteArray := prog_1_method_20_code
def yX0_isRuledOut : MethodName := ⟨RX0, "isRuledOut", "(I)Z"⟩
abbrev cX0_ruledOut : ByteArray := prog_1_method_21_code
def yX0_ruledOut : MethodName := ⟨RX0, "ruledOut", "()I"⟩
abbrev cX0_coinPercent : ByteArray := prog_1_method_22_code
def yX0_coinPercent : MethodName := ⟨RX0, "coinPercent", "(I)I"⟩
abbrev cX0_schoolPercent : ByteArray := prog_1_method_23_code
def yX0_schoolPercent : MethodName := ⟨RX0, "schoolPercent", "(I)I"⟩
abbrev cX0_leadingCoin : ByteArray := prog_1_method_24_code
def yX0_leadingCoin : MethodName := ⟨RX0, "leadingCoin", "()I"⟩
abbrev cX0_leadingSchool : ByteArray := prog_1_method_25_code
def yX0_leadingSchool : MethodName := ⟨RX0, "leadingSchool", "()I"⟩
abbrev cX0_oddsAgainst : ByteArray := prog_1_method_26_code
def yX0_oddsAgainst : MethodName := ⟨RX0, "oddsAgainst", "(II)J"⟩
abbrev cX0_surpriseOf : ByteArray := prog_1_method_27_code
def yX0_surpriseOf : MethodName := ⟨RX0, "surpriseOf", "(I)I"⟩
abbrev cX0_allSurprise : ByteArray := prog_1_method_28_code
def yX0_allSurprise : MethodName := ⟨RX0, "allSurprise", "()I"⟩
abbrev cX0_greatestSurprise : ByteArray := prog_1_method_29_code
def yX0_greatestSurprise : MethodName := ⟨RX0, "greatestSurprise", "()I"⟩
abbrev cX0_headsPercent : ByteArray := prog_1_method_30_code
def yX0_headsPercent : MethodName := ⟨RX0, "headsPercent", "()I"⟩
abbrev cX0_wouldSurprise : ByteArray := prog_1_method_31_code
def yX0_wouldSurprise : MethodName := ⟨RX0, "wouldSurprise", "(Z)I"⟩
abbrev cX0_leaderBehind : ByteArray := prog_1_method_32_code
def yX0_leaderBehind : MethodName := ⟨RX0, "leaderBehind", "(Z)I"⟩
abbrev cX0_tossesToLead : ByteArray := prog_1_method_33_code
def yX0_tossesToLead : MethodName := ⟨RX0, "tossesToLead", "(I)I"⟩
abbrev cX0_decisiveTosses : ByteArray := prog_1_method_34_code
def yX0_decisiveTosses : MethodName := ⟨RX0, "decisiveTosses", "()I"⟩
abbrev cX0_meanTenths : ByteArray := prog_1_method_35_code
def yX0_meanTenths : MethodName := ⟨RX0, "meanTenths", "()D"⟩
abbrev cX0_digest : ByteArray := prog_1_method_36_code
def yX0_digest : MethodName := ⟨RX0, "digest", "()J"⟩
abbrev cX0_needCoin : ByteArray := prog_1_method_37_code
def yX0_needCoin : MethodName := ⟨RX0, "needCoin", "(I)V"⟩
abbrev cX0_needSchool : ByteArray := prog_1_method_38_code
def yX0_needSchool : MethodName := ⟨RX0, "needSchool", "(I)V"⟩
abbrev cX0_needToss : ByteArray := prog_1_method_39_code
def yX0_needToss : MethodName := ⟨RX0, "needToss", "(I)V"⟩
abbrev cX0_needNoTosses : ByteArray := prog_1_method_40_code
def yX0_needNoTosses : MethodName := ⟨RX0, "needNoTosses", "()V"⟩
abbrev cX0_needPossible : ByteArray := prog_1_method_41_code
def yX0_needPossible : MethodName := ⟨RX0, "needPossible", "(Z)V"⟩
abbrev cX0_headsAhead : ByteArray := prog_1_method_42_code
def yX0_headsAhead : MethodName := ⟨RX0, "headsAhead", "(I)I"⟩
abbrev cX0_headsNow : ByteArray := prog_1_method_43_code
def yX0_headsNow : MethodName := ⟨RX0, "headsNow", "()I"⟩
abbrev cX0_tailsNow : ByteArray := prog_1_method_44_code
def yX0_tailsNow : MethodName := ⟨RX0, "tailsNow", "()I"⟩
abbrev cX0_startWeight : ByteArray := prog_1_method_45_code
def yX0_startWeight : MethodName := ⟨RX0, "startWeight", "(II)J"⟩
abbrev cX0_likelihood : ByteArray := prog_1_method_46_code
def yX0_likelihood : MethodName := ⟨RX0, "likelihood", "(III)J"⟩
abbrev cX0_coinWeightAt : ByteArray := prog_1_method_47_code
def yX0_coinWeightAt : MethodName := ⟨RX0, "coinWeightAt", "(III)J"⟩
abbrev cX0_schoolWeightNow : ByteArray := prog_1_method_48_code
def yX0_schoolWeightNow : MethodName := ⟨RX0, "schoolWeightNow", "(I)J"⟩
abbrev cX0_wholeAt : ByteArray := prog_1_method_49_code
def yX0_wholeAt : MethodName := ⟨RX0, "wholeAt", "(II)J"⟩
abbrev cX0_wholeNow : ByteArray := prog_1_method_50_code
def yX0_wholeNow : MethodName := ⟨RX0, "wholeNow", "()J"⟩
abbrev cX0_leaderAt : ByteArray := prog_1_method_51_code
def yX0_leaderAt : MethodName := ⟨RX0, "leaderAt", "(II)I"⟩
abbrev cX0_percent : ByteArray := prog_1_method_52_code
def yX0_percent : MethodName := ⟨RX0, "percent", "(JJ)I"⟩
abbrev cX0_chance : ByteArray := prog_1_method_53_code
def yX0_chance : MethodName := ⟨RX0, "chance", "(ZII)J"⟩
abbrev cX0_surpriseAt : ByteArray := prog_1_method_54_code
def yX0_surpriseAt : MethodName := ⟨RX0, "surpriseAt", "(I)I"⟩
abbrev cX0_surpriseBehind : ByteArray := prog_1_method_55_code
def yX0_surpriseBehind : MethodName := ⟨RX0, "surpriseBehind", "(ZII)I"⟩
abbrev cX0_digestWith : ByteArray := prog_1_method_56_code
def yX0_digestWith : MethodName := ⟨RX0, "digestWith", "(JJ)J"⟩
abbrev cX0_digestWithCoins : ByteArray := prog_1_method_57_code
def yX0_digestWithCoins : MethodName := ⟨RX0, "digestWithCoins", "(J)J"⟩
abbrev cX0_digestWithSchools : ByteArray := prog_1_method_58_code
def yX0_digestWithSchools : MethodName := ⟨RX0, "digestWithSchools", "(J)J"⟩
abbrev cX0_digestWithTosses : ByteArray := prog_1_method_59_code
def yX0_digestWithTosses : MethodName := ⟨RX0, "digestWithTosses", "(J)J"⟩
def RX1 : String := "OddsLadderModel"
def TX1 : u_T := fun k => match k with
  | 0 => ("OddsLadderModel", "thrown", "I", false)
  | 1 => ("OddsLadderModel", "coins", "I", false)
  | 2 => ("OddsLadderModel", "schools", "I", false)
  | 3 => ("OddsLadderModel", "tosses", "I", false)
  | 4 => ("OddsLadderModel", "row", "I", false)
  | 5 => ("OddsLadderModel", "tenths", "[I", true)
  | 6 => ("OddsLadderModel", "odds", "[I", true)
  | _ => ("OddsLadderModel", "share", "[I", true)
def tyX1 : Nat → FieldType := fun k => match k with
  | 0 => .int
  | 1 => .int
  | 2 => .int
  | 3 => .int
  | 4 => .int
  | 5 => .array .int
  | 6 => .array .int
  | _ => .array .int
abbrev wsX10 : List Cond := u_ws RX1 TX1 8
theorem nmX1 : ∀ a, a < 8 → ∀ b, b < 8 → a ≠ b → (TX1 a).2.1 ≠ (TX1 b).2.1 := by decide +kernel
theorem tyX1_ok : ∀ k, k < 8 → parseFieldDescriptor (TX1 k).2.2.1 = some (tyX1 k) := by decide +kernel
abbrev cX1_init : ByteArray := prog_3_method_1_code
def yX1_init : MethodName := ⟨RX1, "<init>", "()V"⟩
abbrev cX1_thrown : ByteArray := prog_3_method_2_code
def yX1_thrown : MethodName := ⟨RX1, "thrown", "()I"⟩
abbrev cX1_fail : ByteArray := prog_3_method_3_code
def yX1_fail : MethodName := ⟨RX1, "fail", "(I)I"⟩
abbrev cX1_told : ByteArray := prog_3_method_4_code
def yX1_told : MethodName := ⟨RX1, "told", "(I)I"⟩
abbrev cX1_isIn : ByteArray := prog_3_method_5_code
def yX1_isIn : MethodName := ⟨RX1, "isIn", "(III)Z"⟩
abbrev cX1_isCoin : ByteArray := prog_3_method_6_code
def yX1_isCoin : MethodName := ⟨RX1, "isCoin", "(I)Z"⟩
abbrev cX1_isSchool : ByteArray := prog_3_method_7_code
def yX1_isSchool : MethodName := ⟨RX1, "isSchool", "(I)Z"⟩
abbrev cX1_isToss : ByteArray := prog_3_method_8_code
def yX1_isToss : MethodName := ⟨RX1, "isToss", "(I)Z"⟩
abbrev cX1_headsIn : ByteArray := prog_3_method_9_code
def yX1_headsIn : MethodName := ⟨RX1, "headsIn", "(II)I"⟩
abbrev cX1_headsNow : ByteArray := prog_3_method_10_code
def yX1_headsNow : MethodName := ⟨RX1, "headsNow", "()I"⟩
abbrev cX1_power : ByteArray := prog_3_method_11_code
def yX1_power : MethodName := ⟨RX1, "power", "(II)J"⟩
abbrev cX1_falls : ByteArray := prog_3_method_12_code
def yX1_falls : MethodName := ⟨RX1, "falls", "(III)J"⟩
abbrev cX1_given : ByteArray := prog_3_method_13_code
def yX1_given : MethodName := ⟨RX1, "given", "(I)I"⟩
abbrev cX1_weight : ByteArray := prog_3_method_14_code
def yX1_weight : MethodName := ⟨RX1, "weight", "(III)J"⟩
abbrev cX1_whole : ByteArray := prog_3_method_15_code
def yX1_whole : MethodName := ⟨RX1, "whole", "(II)J"⟩
abbrev cX1_chance : ByteArray := prog_3_method_16_code
def yX1_chance : MethodName := ⟨RX1, "chance", "(ZII)J"⟩
abbrev cX1_surprise : ByteArray := prog_3_method_17_code
def yX1_surprise : MethodName := ⟨RX1, "surprise", "(ZII)I"⟩
abbrev cX1_leader : ByteArray := prog_3_method_18_code
def yX1_leader : MethodName := ⟨RX1, "leader", "(II)I"⟩
abbrev cX1_here : ByteArray := prog_3_method_19_code
def yX1_here : MethodName := ⟨RX1, "here", "(I)J"⟩
abbrev cX1_all : ByteArray := prog_3_method_20_code
def yX1_all : MethodName := ⟨RX1, "all", "()J"⟩
abbrev cX1_addCoin : ByteArray := prog_3_method_21_code
def yX1_addCoin : MethodName := ⟨RX1, "addCoin", "(I)I"⟩
abbrev cX1_addSchool : ByteArray := prog_3_method_22_code
def yX1_addSchool : MethodName := ⟨RX1, "addSchool", "(I)I"⟩
abbrev cX1_setShare : ByteArray := prog_3_method_23_code
def yX1_setShare : MethodName := ⟨RX1, "setShare", "(III)I"⟩
abbrev cX1_canBe : ByteArray := prog_3_method_24_code
def yX1_canBe : MethodName := ⟨RX1, "canBe", "(Z)Z"⟩
abbrev cX1_toss : ByteArray := prog_3_method_25_code
def yX1_toss : MethodName := ⟨RX1, "toss", "(Z)I"⟩
abbrev cX1_without : ByteArray := prog_3_method_26_code
def yX1_without : MethodName := ⟨RX1, "without", "(II)I"⟩
abbrev cX1_undo : ByteArray := prog_3_method_27_code
def yX1_undo : MethodName := ⟨RX1, "undo", "()Z"⟩
abbrev cX1_strike : ByteArray := prog_3_method_28_code
def yX1_strike : MethodName := ⟨RX1, "strike", "(I)I"⟩
abbrev cX1_coins : ByteArray := prog_3_method_29_code
def yX1_coins : MethodName := ⟨RX1, "coins", "()I"⟩
abbrev cX1_schools : ByteArray := prog_3_method_30_code
def yX1_schools : MethodName := ⟨RX1, "schools", "()I"⟩
abbrev cX1_tosses : ByteArray := prog_3_method_31_code
def yX1_tosses : MethodName := ⟨RX1, "tosses", "()I"⟩
abbrev cX1_heads : ByteArray := prog_3_method_32_code
def yX1_heads : MethodName := ⟨RX1, "heads", "()I"⟩
abbrev cX1_isUp : ByteArray := prog_3_method_33_code
def yX1_isUp : MethodName := ⟨RX1, "isUp", "(I)Z"⟩
abbrev cX1_isHeads : ByteArray := prog_3_method_34_code
def yX1_isHeads : MethodName := ⟨RX1, "isHeads", "(I)Z"⟩
abbrev cX1_tenthsOf : ByteArray := prog_3_method_35_code
def yX1_tenthsOf : MethodName := ⟨RX1, "tenthsOf", "(I)I"⟩
abbrev cX1_oddsOf : ByteArray := prog_3_method_36_code
def yX1_oddsOf : MethodName := ⟨RX1, "oddsOf", "(I)I"⟩
abbrev cX1_shareOf : ByteArray := prog_3_method_37_code
def yX1_shareOf : MethodName := ⟨RX1, "shareOf", "(II)I"⟩
abbrev cX1_pair : ByteArray := prog_3_method_38_code
def yX1_pair : MethodName := ⟨RX1, "pair", "(II)J"⟩
abbrev cX1_schoolHere : ByteArray := prog_3_method_39_code
def yX1_schoolHere : MethodName := ⟨RX1, "schoolHere", "(I)J"⟩
abbrev cX1_weightOf : ByteArray := prog_3_method_40_code
def yX1_weightOf : MethodName := ⟨RX1, "weightOf", "(II)J"⟩
abbrev cX1_coinWeight : ByteArray := prog_3_method_41_code
def yX1_coinWeight : MethodName := ⟨RX1, "coinWeight", "(I)J"⟩
abbrev cX1_schoolWeight : ByteArray := prog_3_method_42_code
def yX1_schoolWeight : MethodName := ⟨RX1, "schoolWeight", "(I)J"⟩
abbrev cX1_wholeWeight : ByteArray := prog_3_method_43_code
def yX1_wholeWeight : MethodName := ⟨RX1, "wholeWeight", "()J"⟩
abbrev cX1_isRuledOut : ByteArray := prog_3_method_44_code
def yX1_isRuledOut : MethodName := ⟨RX1, "isRuledOut", "(I)Z"⟩
abbrev cX1_gone : ByteArray := prog_3_method_45_code
def yX1_gone : MethodName := ⟨RX1, "gone", "()I"⟩
abbrev cX1_ruledOut : ByteArray := prog_3_method_46_code
def yX1_ruledOut : MethodName := ⟨RX1, "ruledOut", "()I"⟩
abbrev cX1_coinPercent : ByteArray := prog_3_method_47_code
def yX1_coinPercent : MethodName := ⟨RX1, "coinPercent", "(I)I"⟩
abbrev cX1_schoolPercent : ByteArray := prog_3_method_48_code
def yX1_schoolPercent : MethodName := ⟨RX1, "schoolPercent", "(I)I"⟩
abbrev cX1_leads : ByteArray := prog_3_method_49_code
def yX1_leads : MethodName := ⟨RX1, "leads", "()I"⟩
abbrev cX1_leadingCoin : ByteArray := prog_3_method_50_code
def yX1_leadingCoin : MethodName := ⟨RX1, "leadingCoin", "()I"⟩
abbrev cX1_leadingSchool : ByteArray := prog_3_method_51_code
def yX1_leadingSchool : MethodName := ⟨RX1, "leadingSchool", "()I"⟩
abbrev cX1_oddsAgainst : ByteArray := prog_3_method_52_code
def yX1_oddsAgainst : MethodName := ⟨RX1, "oddsAgainst", "(II)J"⟩
abbrev cX1_surprise_ : ByteArray := prog_3_method_53_code
def yX1_surprise_ : MethodName := ⟨RX1, "surprise", "(I)I"⟩
abbrev cX1_surpriseOf : ByteArray := prog_3_method_54_code
def yX1_surpriseOf : MethodName := ⟨RX1, "surpriseOf", "(I)I"⟩
abbrev cX1_surprises : ByteArray := prog_3_method_55_code
def yX1_surprises : MethodName := ⟨RX1, "surprises", "()I"⟩
abbrev cX1_allSurprise : ByteArray := prog_3_method_56_code
def yX1_allSurprise : MethodName := ⟨RX1, "allSurprise", "()I"⟩
abbrev cX1_greatestSurprise : ByteArray := prog_3_method_57_code
def yX1_greatestSurprise : MethodName := ⟨RX1, "greatestSurprise", "()I"⟩
abbrev cX1_headsPercent : ByteArray := prog_3_method_58_code
def yX1_headsPercent : MethodName := ⟨RX1, "headsPercent", "()I"⟩
abbrev cX1_wouldSurprise : ByteArray := prog_3_method_59_code
def yX1_wouldSurprise : MethodName := ⟨RX1, "wouldSurprise", "(Z)I"⟩
abbrev cX1_leaderBehind : ByteArray := prog_3_method_60_code
def yX1_leaderBehind : MethodName := ⟨RX1, "leaderBehind", "(Z)I"⟩
abbrev cX1_isFirst : ByteArray := prog_3_method_61_code
def yX1_isFirst : MethodName := ⟨RX1, "isFirst", "(III)Z"⟩
abbrev cX1_toLead : ByteArray := prog_3_method_62_code
def yX1_toLead : MethodName := ⟨RX1, "toLead", "(I)I"⟩
abbrev cX1_tossesToLead : ByteArray := prog_3_method_63_code
def yX1_tossesToLead : MethodName := ⟨RX1, "tossesToLead", "(I)I"⟩
abbrev cX1_decisive : ByteArray := prog_3_method_64_code
def yX1_decisive : MethodName := ⟨RX1, "decisive", "()I"⟩
abbrev cX1_decisiveTosses : ByteArray := prog_3_method_65_code
def yX1_decisiveTosses : MethodName := ⟨RX1, "decisiveTosses", "()I"⟩
abbrev cX1_meanTenths : ByteArray := prog_3_method_66_code
def yX1_meanTenths : MethodName := ⟨RX1, "meanTenths", "()D"⟩
abbrev cX1_digest : ByteArray := prog_3_method_67_code
def yX1_digest : MethodName := ⟨RX1, "digest", "()J"⟩
def RL : String := "OddsLadderLaw"
abbrev cL_addCoin : ByteArray := method_3_code
def yL_addCoin : MethodName := ⟨RL, "addCoin", "(LOddsLadder;I[J)I"⟩
abbrev cL_addSchool : ByteArray := method_4_code
def yL_addSchool : MethodName := ⟨RL, "addSchool", "(LOddsLadder;I[J)I"⟩
abbrev cL_setShare : ByteArray := method_5_code
def yL_setShare : MethodName := ⟨RL, "setShare", "(LOddsLadder;III[J)I"⟩
abbrev cL_toss : ByteArray := method_6_code
def yL_toss : MethodName := ⟨RL, "toss", "(LOddsLadder;Z[J)I"⟩
abbrev cL_undo : ByteArray := method_7_code
def yL_undo : MethodName := ⟨RL, "undo", "(LOddsLadder;[J)I"⟩
abbrev cL_strike : ByteArray := method_8_code
def yL_strike : MethodName := ⟨RL, "strike", "(LOddsLadder;I[J)I"⟩
abbrev cL_isHeads : ByteArray := method_9_code
def yL_isHeads : MethodName := ⟨RL, "isHeads", "(LOddsLadder;I[J)I"⟩
abbrev cL_tenthsOf : ByteArray := method_10_code
def yL_tenthsOf : MethodName := ⟨RL, "tenthsOf", "(LOddsLadder;I[J)I"⟩
abbrev cL_oddsOf : ByteArray := method_11_code
def yL_oddsOf : MethodName := ⟨RL, "oddsOf", "(LOddsLadder;I[J)I"⟩
abbrev cL_shareOf : ByteArray := method_12_code
def yL_shareOf : MethodName := ⟨RL, "shareOf", "(LOddsLadder;II[J)I"⟩
abbrev cL_weightOf : ByteArray := method_13_code
def yL_weightOf : MethodName := ⟨RL, "weightOf", "(LOddsLadder;II[J)I"⟩
abbrev cL_coinWeight : ByteArray := method_14_code
def yL_coinWeight : MethodName := ⟨RL, "coinWeight", "(LOddsLadder;I[J)I"⟩
abbrev cL_schoolWeight : ByteArray := method_15_code
def yL_schoolWeight : MethodName := ⟨RL, "schoolWeight", "(LOddsLadder;I[J)I"⟩
abbrev cL_isRuledOut : ByteArray := method_16_code
def yL_isRuledOut : MethodName := ⟨RL, "isRuledOut", "(LOddsLadder;I[J)I"⟩
abbrev cL_coinPercent : ByteArray := method_17_code
def yL_coinPercent : MethodName := ⟨RL, "coinPercent", "(LOddsLadder;I[J)I"⟩
abbrev cL_schoolPercent : ByteArray := method_18_code
def yL_schoolPercent : MethodName := ⟨RL, "schoolPercent", "(LOddsLadder;I[J)I"⟩
abbrev cL_leadingCoin : ByteArray := method_19_code
def yL_leadingCoin : MethodName := ⟨RL, "leadingCoin", "(LOddsLadder;[J)I"⟩
abbrev cL_leadingSchool : ByteArray := method_20_code
def yL_leadingSchool : MethodName := ⟨RL, "leadingSchool", "(LOddsLadder;[J)I"⟩
abbrev cL_oddsAgainst : ByteArray := method_21_code
def yL_oddsAgainst : MethodName := ⟨RL, "oddsAgainst", "(LOddsLadder;II[J)I"⟩
abbrev cL_surpriseOf : ByteArray := method_22_code
def yL_surpriseOf : MethodName := ⟨RL, "surpriseOf", "(LOddsLadder;I[J)I"⟩
abbrev cL_headsPercent : ByteArray := method_23_code
def yL_headsPercent : MethodName := ⟨RL, "headsPercent", "(LOddsLadder;[J)I"⟩
abbrev cL_wouldSurprise : ByteArray := method_24_code
def yL_wouldSurprise : MethodName := ⟨RL, "wouldSurprise", "(LOddsLadder;Z[J)I"⟩
abbrev cL_leaderBehind : ByteArray := method_25_code
def yL_leaderBehind : MethodName := ⟨RL, "leaderBehind", "(LOddsLadder;Z[J)I"⟩
abbrev cL_tossesToLead : ByteArray := method_26_code
def yL_tossesToLead : MethodName := ⟨RL, "tossesToLead", "(LOddsLadder;I[J)I"⟩
abbrev cL_meanTenths : ByteArray := method_27_code
def yL_meanTenths : MethodName := ⟨RL, "meanTenths", "(LOddsLadder;[D)I"⟩
abbrev cL_law : ByteArray := code
def yL_law : MethodName := ⟨RL, "law", "([I)Z"⟩
theorem dX0_init_0 : decode cX0_init 0 = .ok (.aload_n 0, 1) := by decide +kernel
theorem dX0_init_1 : decode cX0_init 1 = .ok (.invokespecial 1, 3) := by decide +kernel
theorem dX0_init_4 : decode cX0_init 4 = .ok (.aload_n 0, 1) := by decide +kernel
theorem dX0_init_5 : decode cX0_init 5 = .ok (.bipush 8, 2) := by decide +kernel
theorem dX0_init_7 : decode cX0_init 7 = .ok (.newarray .int, 2) := by decide +kernel
theorem dX0_init_9 : decode cX0_init 9 = .ok (.putfield 9, 3) := by decide +kernel
theorem dX0_init_12 : decode cX0_init 12 = .ok (.aload_n 0, 1) := by decide +kernel
theorem dX0_init_13 : decode cX0_init 13 = .ok (.iconst 4, 1) := by decide +kernel
theorem dX0_init_14 : decode cX0_init 14 = .ok (.newarray .int, 2) := by decide +kernel
theorem dX0_init_16 : decode cX0_init 16 = .ok (.putfield 13, 3) := by decide +kernel
theorem dX0_init_19 : decode cX0_init 19 = .ok (.aload_n 0, 1) := by decide +kernel
theorem dX0_init_20 : decode cX0_init 20 = .ok (.iconst 4, 1) := by decide +kernel
theorem dX0_init_21 : decode cX0_init 21 = .ok (.bipush 8, 2) := by decide +kernel
theorem dX0_init_23 : decode cX0_init 23 = .ok (.multianewarray 16 2, 4) := by decide +kernel
theorem dX0_init_27 : decode cX0_init 27 = .ok (.putfield 18, 3) := by decide +kernel
theorem dX0_init_30 : decode cX0_init 30 = .ok (.aload_n 0, 1) := by decide +kernel
theorem dX0_init_31 : decode cX0_init 31 = .ok (.bipush 12, 2) := by decide +kernel
theorem dX0_init_33 : decode cX0_init 33 = .ok (.newarray .boolean, 2) := by decide +kernel
theorem dX0_init_35 : decode cX0_init 35 = .ok (.putfield 21, 3) := by decide +kernel
theorem dX0_init_38 : decode cX0_init 38 = .ok (.aload_n 0, 1) := by decide +kernel
theorem dX0_init_39 : decode cX0_init 39 = .ok (.iconst 0, 1) := by decide +kernel
theorem dX0_init_40 : decode cX0_init 40 = .ok (.putfield 25, 3) := by decide +kernel
theorem dX0_init_43 : decode cX0_init 43 = .ok (.aload_n 0, 1) := by decide +kernel
theorem dX0_init_44 : decode cX0_init 44 = .ok (.iconst 0, 1) := by decide +kernel
theorem dX0_init_45 : decode cX0_init 45 = .ok (.putfield 29, 3) := by decide +kernel
theorem dX0_init_48 : decode cX0_init 48 = .ok (.aload_n 0, 1) := by decide +kernel
theorem dX0_init_49 : decode cX0_init 49 = .ok (.iconst 0, 1) := by decide +kernel
theorem dX0_init_50 : decode cX0_init 50 = .ok (.putfield 32, 3) := by decide +kernel
theorem dX0_init_53 : decode cX0_init 53 = .ok (.iconst 0, 1) := by decide +kernel
theorem dX0_init_54 : decode cX0_init 54 = .ok (.istore_n 1, 1) := by decide +kernel
theorem dX0_init_55 : decode cX0_init 55 = .ok (.iload_n 1, 1) := by decide +kernel
theorem dX0_init_56 : decode cX0_init 56 = .ok (.iconst 4, 1) := by decide +kernel
theorem dX0_init_57 : decode cX0_init 57 = .ok (.if_icmp .ge 32, 3) := by decide +kernel
theorem dX0_init_60 : decode cX0_init 60 = .ok (.iconst 0, 1) := by decide +kernel
theorem dX0_init_61 : decode cX0_init 61 = .ok (.istore_n 2, 1) := by decide +kernel
theorem dX0_init_62 : decode cX0_init 62 = .ok (.iload_n 2, 1) := by decide +kernel
theorem dX0_init_63 : decode cX0_init 63 = .ok (.bipush 8, 2) := by decide +kernel
theorem dX0_init_65 : decode cX0_init 65 = .ok (.if_icmp .ge 18, 3) := by decide +kernel
theorem dX0_init_68 : decode cX0_init 68 = .ok (.aload_n 0, 1) := by decide +kernel
theorem dX0_init_69 : decode cX0_init 69 = .ok (.getfield 18, 3) := by decide +kernel
theorem dX0_init_72 : decode cX0_init 72 = .ok (.iload_n 1, 1) := by decide +kernel
theorem dX0_init_73 : decode cX0_init 73 = .ok (.aaload, 1) := by decide +kernel
theorem dX0_init_74 : decode cX0_init 74 = .ok (.iload_n 2, 1) := by decide +kernel
theorem dX0_init_75 : decode cX0_init 75 = .ok (.iconst 1, 1) := by decide +kernel
theorem dX0_init_76 : decode cX0_init 76 = .ok (.iastore, 1) := by decide +kernel
theorem dX0_init_77 : decode cX0_init 77 = .ok (.iinc 2 1, 3) := by decide +kernel
theorem dX0_init_80 : decode cX0_init 80 = .ok (.goto (-18), 3) := by decide +kernel
theorem dX0_init_83 : decode cX0_init 83 = .ok (.iinc 1 1, 3) := by decide +kernel
theorem dX0_init_86 : decode cX0_init 86 = .ok (.goto (-31), 3) := by decide +kernel
theorem dX0_init_89 : decode cX0_init 89 = .ok (.return_, 1) := by decide +kernel
theorem dX0_addCoin_0 : decode cX0_addCoin 0 = .ok (.iload_n 1, 1) := by decide +kernel
theorem dX0_addCoin_1 : decode cX0_addCoin 1 = .ok (.ifCond .lt 9, 3) := by decide +kernel
theorem dX0_addCoin_4 : decode cX0_addCoin 4 = .ok (.iload_n 1, 1) := by decide +kernel
theorem dX0_addCoin_5 : decode cX0_addCoin 5 = .ok (.bipush 10, 2) := by decide +kernel
theorem dX0_addCoin_7 : decode cX0_addCoin 7 = .ok (.if_icmp .le 13, 3) := by decide +kernel
theorem dX0_addCoin_10 : decode cX0_addCoin 10 = .ok (.new 35, 3) := by decide +kernel
theorem dX0_addCoin_13 : decode cX0_addCoin 13 = .ok (.dup, 1) := by decide +kernel
theorem dX0_addCoin_14 : decode cX0_addCoin 14 = .ok (.ldc 37, 2) := by decide +kernel
theorem dX0_addCoin_16 : decode cX0_addCoin 16 = .ok (.invokespecial 39, 3) := by decide +kernel
theorem dX0_addCoin_19 : decode cX0_addCoin 19 = .ok (.athrow, 1) := by decide +kernel
theorem dX0_addCoin_20 : decode cX0_addCoin 20 = .ok (.aload_n 0, 1) := by decide +kernel
theorem dX0_addCoin_21 : decode cX0_addCoin 21 = .ok (.getfield 25, 3) := by decide +kernel
theorem dX0_addCoin_24 : decode cX0_addCoin 24 = .ok (.bipush 8, 2) := by decide +kernel
theorem dX0_addCoin_26 : decode cX0_addCoin 26 = .ok (.if_icmp .lt 13, 3) := by decide +kernel
theorem dX0_addCoin_29 : decode cX0_addCoin 29 = .ok (.new 42, 3) := by decide +kernel
theorem dX0_addCoin_32 : decode cX0_addCoin 32 = .ok (.dup, 1) := by decide +kernel
theorem dX0_addCoin_33 : decode cX0_addCoin 33 = .ok (.ldc 44, 2) := by decide +kernel
theorem dX0_addCoin_35 : decode cX0_addCoin 35 = .ok (.invokespecial 46, 3) := by decide +kernel
theorem dX0_addCoin_38 : decode cX0_addCoin 38 = .ok (.athrow, 1) := by decide +kernel
theorem dX0_addCoin_39 : decode cX0_addCoin 39 = .ok (.aload_n 0, 1) := by decide +kernel
theorem dX0_addCoin_40 : decode cX0_addCoin 40 = .ok (.invokevirtual 47, 3) := by decide +kernel
theorem dX0_addCoin_43 : decode cX0_addCoin 43 = .ok (.aload_n 0, 1) := by decide +kernel
theorem dX0_addCoin_44 : decode cX0_addCoin 44 = .ok (.getfield 9, 3) := by decide +kernel
theorem dX0_addCoin_47 : decode cX0_addCoin 47 = .ok (.aload_n 0, 1) := by decide +kernel
theorem dX0_addCoin_48 : decode cX0_addCoin 48 = .ok (.getfield 25, 3) := by decide +kernel
theorem dX0_addCoin_51 : decode cX0_addCoin 51 = .ok (.iload_n 1, 1) := by decide +kernel
theorem dX0_addCoin_52 : decode cX0_addCoin 52 = .ok (.iastore, 1) := by decide +kernel
theorem dX0_addCoin_53 : decode cX0_addCoin 53 = .ok (.aload_n 0, 1) := by decide +kernel
theorem dX0_addCoin_54 : decode cX0_addCoin 54 = .ok (.dup, 1) := by decide +kernel
theorem dX0_addCoin_55 : decode cX0_addCoin 55 = .ok (.getfield 25, 3) := by decide +kernel
theorem dX0_addCoin_58 : decode cX0_addCoin 58 = .ok (.iconst 1, 1) := by decide +kernel
theorem dX0_addCoin_59 : decode cX0_addCoin 59 = .ok (.iadd, 1) := by decide +kernel
theorem dX0_addCoin_60 : decode cX0_addCoin 60 = .ok (.putfield 25, 3) := by decide +kernel
theorem dX0_addCoin_63 : decode cX0_addCoin 63 = .ok (.aload_n 0, 1) := by decide +kernel
theorem dX0_addCoin_64 : decode cX0_addCoin 64 = .ok (.getfield 25, 3) := by decide +kernel
theorem dX0_addCoin_67 : decode cX0_addCoin 67 = .ok (.iconst 1, 1) := by decide +kernel
theorem dX0_addCoin_68 : decode cX0_addCoin 68 = .ok (.isub, 1) := by decide +kernel
theorem dX0_addCoin_69 : decode cX0_addCoin 69 = .ok (.ireturn, 1) := by decide +kernel
theorem dX0_addSchool_0 : decode cX0_addSchool 0 = .ok (.iload_n 1, 1) := by decide +kernel
theorem dX0_addSchool_1 : decode cX0_addSchool 1 = .ok (.iconst 1, 1) := by decide +kernel
theorem dX0_addSchool_2 : decode cX0_addSchool 2 = .ok (.if_icmp .lt 9, 3) := by decide +kernel
theorem dX0_addSchool_5 : decode cX0_addSchool 5 = .ok (.iload_n 1, 1) := by decide +kernel
theorem dX0_addSchool_6 : decode cX0_addSchool 6 = .ok (.bipush 9, 2) := by decide +kernel
theorem dX0_addSchool_8 : decode cX0_addSchool 8 = .ok (.if_icmp .le 13, 3) := by decide +kernel
theorem dX0_addSchool_11 : decode cX0_addSchool 11 = .ok (.new 35, 3) := by decide +kernel
theorem dX0_addSchool_14 : decode cX0_addSchool 14 = .ok (.dup, 1) := by decide +kernel
theorem dX0_addSchool_15 : decode cX0_addSchool 15 = .ok (.ldc 50, 2) := by decide +kernel
theorem dX0_addSchool_17 : decode cX0_addSchool 17 = .ok (.invokespecial 39, 3) := by decide +kernel
theorem dX0_addSchool_20 : decode cX0_addSchool 20 = .ok (.athrow, 1) := by decide +kernel
theorem dX0_addSchool_21 : decode cX0_addSchool 21 = .ok (.aload_n 0, 1) := by decide +kernel
theorem dX0_addSchool_22 : decode cX0_addSchool 22 = .ok (.getfield 29, 3) := by decide +kernel
theorem dX0_addSchool_25 : decode cX0_addSchool 25 = .ok (.iconst 4, 1) := by decide +kernel
theorem dX0_addSchool_26 : decode cX0_addSchool 26 = .ok (.if_icmp .lt 13, 3) := by decide +kernel
theorem dX0_addSchool_29 : decode cX0_addSchool 29 = .ok (.new 42, 3) := by decide +kernel
theorem dX0_addSchool_32 : decode cX0_addSchool 32 = .ok (.dup, 1) := by decide +kernel
theorem dX0_addSchool_33 : decode cX0_addSchool 33 = .ok (.ldc 52, 2) := by decide +kernel
theorem dX0_addSchool_35 : decode cX0_addSchool 35 = .ok (.invokespecial 46, 3) := by decide +kernel
theorem dX0_addSchool_38 : decode cX0_addSchool 38 = .ok (.athrow, 1) := by decide +kernel
theorem dX0_addSchool_39 : decode cX0_addSchool 39 = .ok (.aload_n 0, 1) := by decide +kernel
theorem dX0_addSchool_40 : decode cX0_addSchool 40 = .ok (.invokevirtual 47, 3) := by decide +kernel
theorem dX0_addSchool_43 : decode cX0_addSchool 43 = .ok (.aload_n 0, 1) := by decide +kernel
theorem dX0_addSchool_44 : decode cX0_addSchool 44 = .ok (.getfield 13, 3) := by decide +kernel
theorem dX0_addSchool_47 : decode cX0_addSchool 47 = .ok (.aload_n 0, 1) := by decide +kernel
theorem dX0_addSchool_48 : decode cX0_addSchool 48 = .ok (.getfield 29, 3) := by decide +kernel
theorem dX0_addSchool_51 : decode cX0_addSchool 51 = .ok (.iload_n 1, 1) := by decide +kernel
theorem dX0_addSchool_52 : decode cX0_addSchool 52 = .ok (.iastore, 1) := by decide +kernel
theorem dX0_addSchool_53 : decode cX0_addSchool 53 = .ok (.aload_n 0, 1) := by decide +kernel
theorem dX0_addSchool_54 : decode cX0_addSchool 54 = .ok (.dup, 1) := by decide +kernel
theorem dX0_addSchool_55 : decode cX0_addSchool 55 = .ok (.getfield 29, 3) := by decide +kernel
theorem dX0_addSchool_58 : decode cX0_addSchool 58 = .ok (.iconst 1, 1) := by decide +kernel
theorem dX0_addSchool_59 : decode cX0_addSchool 59 = .ok (.iadd, 1) := by decide +kernel
theorem dX0_addSchool_60 : decode cX0_addSchool 60 = .ok (.putfield 29, 3) := by decide +kernel
theorem dX0_addSchool_63 : decode cX0_addSchool 63 = .ok (.aload_n 0, 1) := by decide +kernel
theorem dX0_addSchool_64 : decode cX0_addSchool 64 = .ok (.getfield 29, 3) := by decide +kernel
theorem dX0_addSchool_67 : decode cX0_addSchool 67 = .ok (.iconst 1, 1) := by decide +kernel
theorem dX0_addSchool_68 : decode cX0_addSchool 68 = .ok (.isub, 1) := by decide +kernel
theorem dX0_addSchool_69 : decode cX0_addSchool 69 = .ok (.ireturn, 1) := by decide +kernel
theorem dX0_setShare_0 : decode cX0_setShare 0 = .ok (.aload_n 0, 1) := by decide +kernel
theorem dX0_setShare_1 : decode cX0_setShare 1 = .ok (.iload_n 1, 1) := by decide +kernel
theorem dX0_setShare_2 : decode cX0_setShare 2 = .ok (.invokevirtual 54, 3) := by decide +kernel
theorem dX0_setShare_5 : decode cX0_setShare 5 = .ok (.aload_n 0, 1) := by decide +kernel
theorem dX0_setShare_6 : decode cX0_setShare 6 = .ok (.iload_n 2, 1) := by decide +kernel
theorem dX0_setShare_7 : decode cX0_setShare 7 = .ok (.invokevirtual 58, 3) := by decide +kernel
theorem dX0_setShare_10 : decode cX0_setShare 10 = .ok (.iload_n 3, 1) := by decide +kernel
theorem dX0_setShare_11 : decode cX0_setShare 11 = .ok (.ifCond .lt 9, 3) := by decide +kernel
theorem dX0_setShare_14 : decode cX0_setShare 14 = .ok (.iload_n 3, 1) := by decide +kernel
theorem dX0_setShare_15 : decode cX0_setShare 15 = .ok (.bipush 9, 2) := by decide +kernel
theorem dX0_setShare_17 : decode cX0_setShare 17 = .ok (.if_icmp .le 13, 3) := by decide +kernel
theorem dX0_setShare_20 : decode cX0_setShare 20 = .ok (.new 35, 3) := by decide +kernel
theorem dX0_setShare_23 : decode cX0_setShare 23 = .ok (.dup, 1) := by decide +kernel
theorem dX0_setShare_24 : decode cX0_setShare 24 = .ok (.ldc 61, 2) := by decide +kernel
theorem dX0_setShare_26 : decode cX0_setShare 26 = .ok (.invokespecial 39, 3) := by decide +kernel
theorem dX0_setShare_29 : decode cX0_setShare 29 = .ok (.athrow, 1) := by decide +kernel
theorem dX0_setShare_30 : decode cX0_setShare 30 = .ok (.aload_n 0, 1) := by decide +kernel
theorem dX0_setShare_31 : decode cX0_setShare 31 = .ok (.invokevirtual 47, 3) := by decide +kernel
theorem dX0_setShare_34 : decode cX0_setShare 34 = .ok (.aload_n 0, 1) := by decide +kernel
theorem dX0_setShare_35 : decode cX0_setShare 35 = .ok (.getfield 18, 3) := by decide +kernel
theorem dX0_setShare_38 : decode cX0_setShare 38 = .ok (.iload_n 1, 1) := by decide +kernel
theorem dX0_setShare_39 : decode cX0_setShare 39 = .ok (.aaload, 1) := by decide +kernel
theorem dX0_setShare_40 : decode cX0_setShare 40 = .ok (.iload_n 2, 1) := by decide +kernel
theorem dX0_setShare_41 : decode cX0_setShare 41 = .ok (.iaload, 1) := by decide +kernel
theorem dX0_setShare_42 : decode cX0_setShare 42 = .ok (.istore 4, 2) := by decide +kernel
theorem dX0_setShare_44 : decode cX0_setShare 44 = .ok (.aload_n 0, 1) := by decide +kernel
theorem dX0_setShare_45 : decode cX0_setShare 45 = .ok (.getfield 18, 3) := by decide +kernel
theorem dX0_setShare_48 : decode cX0_setShare 48 = .ok (.iload_n 1, 1) := by decide +kernel
theorem dX0_setShare_49 : decode cX0_setShare 49 = .ok (.aaload, 1) := by decide +kernel
theorem dX0_setShare_50 : decode cX0_setShare 50 = .ok (.iload_n 2, 1) := by decide +kernel
theorem dX0_setShare_51 : decode cX0_setShare 51 = .ok (.iload_n 3, 1) := by decide +kernel
theorem dX0_setShare_52 : decode cX0_setShare 52 = .ok (.iastore, 1) := by decide +kernel
theorem dX0_setShare_53 : decode cX0_setShare 53 = .ok (.iload 4, 2) := by decide +kernel
theorem dX0_setShare_55 : decode cX0_setShare 55 = .ok (.ireturn, 1) := by decide +kernel
theorem dX0_toss_0 : decode cX0_toss 0 = .ok (.aload_n 0, 1) := by decide +kernel
theorem dX0_toss_1 : decode cX0_toss 1 = .ok (.getfield 32, 3) := by decide +kernel
theorem dX0_toss_4 : decode cX0_toss 4 = .ok (.bipush 12, 2) := by decide +kernel
theorem dX0_toss_6 : decode cX0_toss 6 = .ok (.if_icmp .lt 13, 3) := by decide +kernel
theorem dX0_toss_9 : decode cX0_toss 9 = .ok (.new 42, 3) := by decide +kernel
theorem dX0_toss_12 : decode cX0_toss 12 = .ok (.dup, 1) := by decide +kernel
theorem dX0_toss_13 : decode cX0_toss 13 = .ok (.ldc 63, 2) := by decide +kernel
theorem dX0_toss_15 : decode cX0_toss 15 = .ok (.invokespecial 46, 3) := by decide +kernel
theorem dX0_toss_18 : decode cX0_toss 18 = .ok (.athrow, 1) := by decide +kernel
theorem dX0_toss_19 : decode cX0_toss 19 = .ok (.aload_n 0, 1) := by decide +kernel
theorem dX0_toss_20 : decode cX0_toss 20 = .ok (.iload_n 1, 1) := by decide +kernel
theorem dX0_toss_21 : decode cX0_toss 21 = .ok (.invokevirtual 65, 3) := by decide +kernel
theorem dX0_toss_24 : decode cX0_toss 24 = .ok (.aload_n 0, 1) := by decide +kernel
theorem dX0_toss_25 : decode cX0_toss 25 = .ok (.iload_n 1, 1) := by decide +kernel
theorem dX0_toss_26 : decode cX0_toss 26 = .ok (.aload_n 0, 1) := by decide +kernel
theorem dX0_toss_27 : decode cX0_toss 27 = .ok (.invokevirtual 69, 3) := by decide +kernel
theorem dX0_toss_30 : decode cX0_toss 30 = .ok (.aload_n 0, 1) := by decide +kernel
theorem dX0_toss_31 : decode cX0_toss 31 = .ok (.invokevirtual 73, 3) := by decide +kernel
theorem dX0_toss_34 : decode cX0_toss 34 = .ok (.invokevirtual 76, 3) := by decide +kernel
theorem dX0_toss_37 : decode cX0_toss 37 = .ok (.istore_n 2, 1) := by decide +kernel
theorem dX0_toss_38 : decode cX0_toss 38 = .ok (.aload_n 0, 1) := by decide +kernel
theorem dX0_toss_39 : decode cX0_toss 39 = .ok (.getfield 21, 3) := by decide +kernel
theorem dX0_toss_42 : decode cX0_toss 42 = .ok (.aload_n 0, 1) := by decide +kernel
theorem dX0_toss_43 : decode cX0_toss 43 = .ok (.getfield 32, 3) := by decide +kernel
theorem dX0_toss_46 : decode cX0_toss 46 = .ok (.iload_n 1, 1) := by decide +kernel
theorem dX0_toss_47 : decode cX0_toss 47 = .ok (.bastore, 1) := by decide +kernel
theorem dX0_toss_48 : decode cX0_toss 48 = .ok (.aload_n 0, 1) := by decide +kernel
theorem dX0_toss_49 : decode cX0_toss 49 = .ok (.dup, 1) := by decide +kernel
theorem dX0_toss_50 : decode cX0_toss 50 = .ok (.getfield 32, 3) := by decide +kernel
theorem dX0_toss_53 : decode cX0_toss 53 = .ok (.iconst 1, 1) := by decide +kernel
theorem dX0_toss_54 : decode cX0_toss 54 = .ok (.iadd, 1) := by decide +kernel
theorem dX0_toss_55 : decode cX0_toss 55 = .ok (.putfield 32, 3) := by decide +kernel
theorem dX0_toss_58 : decode cX0_toss 58 = .ok (.iload_n 2, 1) := by decide +kernel
theorem dX0_toss_59 : decode cX0_toss 59 = .ok (.ireturn, 1) := by decide +kernel
theorem dX0_undo_0 : decode cX0_undo 0 = .ok (.aload_n 0, 1) := by decide +kernel
theorem dX0_undo_1 : decode cX0_undo 1 = .ok (.getfield 32, 3) := by decide +kernel
theorem dX0_undo_4 : decode cX0_undo 4 = .ok (.ifCond .gt 13, 3) := by decide +kernel
theorem dX0_undo_7 : decode cX0_undo 7 = .ok (.new 42, 3) := by decide +kernel
theorem dX0_undo_10 : decode cX0_undo 10 = .ok (.dup, 1) := by decide +kernel
theorem dX0_undo_11 : decode cX0_undo 11 = .ok (.ldc 80, 2) := by decide +kernel
theorem dX0_undo_13 : decode cX0_undo 13 = .ok (.invokespecial 46, 3) := by decide +kernel
theorem dX0_undo_16 : decode cX0_undo 16 = .ok (.athrow, 1) := by decide +kernel
theorem dX0_undo_17 : decode cX0_undo 17 = .ok (.aload_n 0, 1) := by decide +kernel
theorem dX0_undo_18 : decode cX0_undo 18 = .ok (.dup, 1) := by decide +kernel
theorem dX0_undo_19 : decode cX0_undo 19 = .ok (.getfield 32, 3) := by decide +kernel
theorem dX0_undo_22 : decode cX0_undo 22 = .ok (.iconst 1, 1) := by decide +kernel
theorem dX0_undo_23 : decode cX0_undo 23 = .ok (.isub, 1) := by decide +kernel
theorem dX0_undo_24 : decode cX0_undo 24 = .ok (.putfield 32, 3) := by decide +kernel
theorem dX0_undo_27 : decode cX0_undo 27 = .ok (.aload_n 0, 1) := by decide +kernel
theorem dX0_undo_28 : decode cX0_undo 28 = .ok (.getfield 21, 3) := by decide +kernel
theorem dX0_undo_31 : decode cX0_undo 31 = .ok (.aload_n 0, 1) := by decide +kernel
theorem dX0_undo_32 : decode cX0_undo 32 = .ok (.getfield 32, 3) := by decide +kernel
theorem dX0_undo_35 : decode cX0_undo 35 = .ok (.baload, 1) := by decide +kernel
theorem dX0_undo_36 : decode cX0_undo 36 = .ok (.ireturn, 1) := by decide +kernel
theorem dX0_strike_0 : decode cX0_strike 0 = .ok (.aload_n 0, 1) := by decide +kernel
theorem dX0_strike_1 : decode cX0_strike 1 = .ok (.iload_n 1, 1) := by decide +kernel
theorem dX0_strike_2 : decode cX0_strike 2 = .ok (.invokevirtual 82, 3) := by decide +kernel
theorem dX0_strike_5 : decode cX0_strike 5 = .ok (.aload_n 0, 1) := by decide +kernel
theorem dX0_strike_6 : decode cX0_strike 6 = .ok (.dup, 1) := by decide +kernel
theorem dX0_strike_7 : decode cX0_strike 7 = .ok (.getfield 32, 3) := by decide +kernel
theorem dX0_strike_10 : decode cX0_strike 10 = .ok (.iconst 1, 1) := by decide +kernel
theorem dX0_strike_11 : decode cX0_strike 11 = .ok (.isub, 1) := by decide +kernel
theorem dX0_strike_12 : decode cX0_strike 12 = .ok (.putfield 32, 3) := by decide +kernel
theorem dX0_strike_15 : decode cX0_strike 15 = .ok (.iload_n 1, 1) := by decide +kernel
theorem dX0_strike_16 : decode cX0_strike 16 = .ok (.istore_n 2, 1) := by decide +kernel
theorem dX0_strike_17 : decode cX0_strike 17 = .ok (.iload_n 2, 1) := by decide +kernel
theorem dX0_strike_18 : decode cX0_strike 18 = .ok (.aload_n 0, 1) := by decide +kernel
theorem dX0_strike_19 : decode cX0_strike 19 = .ok (.getfield 32, 3) := by decide +kernel
theorem dX0_strike_22 : decode cX0_strike 22 = .ok (.if_icmp .ge 23, 3) := by decide +kernel
theorem dX0_strike_25 : decode cX0_strike 25 = .ok (.aload_n 0, 1) := by decide +kernel
theorem dX0_strike_26 : decode cX0_strike 26 = .ok (.getfield 21, 3) := by decide +kernel
theorem dX0_strike_29 : decode cX0_strike 29 = .ok (.iload_n 2, 1) := by decide +kernel
theorem dX0_strike_30 : decode cX0_strike 30 = .ok (.aload_n 0, 1) := by decide +kernel
theorem dX0_strike_31 : decode cX0_strike 31 = .ok (.getfield 21, 3) := by decide +kernel
theorem dX0_strike_34 : decode cX0_strike 34 = .ok (.iload_n 2, 1) := by decide +kernel
theorem dX0_strike_35 : decode cX0_strike 35 = .ok (.iconst 1, 1) := by decide +kernel
theorem dX0_strike_36 : decode cX0_strike 36 = .ok (.iadd, 1) := by decide +kernel
theorem dX0_strike_37 : decode cX0_strike 37 = .ok (.baload, 1) := by decide +kernel
theorem dX0_strike_38 : decode cX0_strike 38 = .ok (.bastore, 1) := by decide +kernel
theorem dX0_strike_39 : decode cX0_strike 39 = .ok (.iinc 2 1, 3) := by decide +kernel
theorem dX0_strike_42 : decode cX0_strike 42 = .ok (.goto (-25), 3) := by decide +kernel
theorem dX0_strike_45 : decode cX0_strike 45 = .ok (.aload_n 0, 1) := by decide +kernel
theorem dX0_strike_46 : decode cX0_strike 46 = .ok (.getfield 32, 3) := by decide +kernel
theorem dX0_strike_49 : decode cX0_strike 49 = .ok (.ireturn, 1) := by decide +kernel
theorem dX0_coins_0 : decode cX0_coins 0 = .ok (.aload_n 0, 1) := by decide +kernel
theorem dX0_coins_1 : decode cX0_coins 1 = .ok (.getfield 25, 3) := by decide +kernel
theorem dX0_coins_4 : decode cX0_coins 4 = .ok (.ireturn, 1) := by decide +kernel
theorem dX0_schools_0 : decode cX0_schools 0 = .ok (.aload_n 0, 1) := by decide +kernel
theorem dX0_schools_1 : decode cX0_schools 1 = .ok (.getfield 29, 3) := by decide +kernel
theorem dX0_schools_4 : decode cX0_schools 4 = .ok (.ireturn, 1) := by decide +kernel
theorem dX0_tosses_0 : decode cX0_tosses 0 = .ok (.aload_n 0, 1) := by decide +kernel
theorem dX0_tosses_1 : decode cX0_tosses 1 = .ok (.getfield 32, 3) := by decide +kernel
theorem dX0_tosses_4 : decode cX0_tosses 4 = .ok (.ireturn, 1) := by decide +kernel
theorem dX0_heads_0 : decode cX0_heads 0 = .ok (.aload_n 0, 1) := by decide +kernel
theorem dX0_heads_1 : decode cX0_heads 1 = .ok (.invokevirtual 69, 3) := by decide +kernel
theorem dX0_heads_4 : decode cX0_heads 4 = .ok (.ireturn, 1) := by decide +kernel
theorem dX0_isHeads_0 : decode cX0_isHeads 0 = .ok (.aload_n 0, 1) := by decide +kernel
theorem dX0_isHeads_1 : decode cX0_isHeads 1 = .ok (.iload_n 1, 1) := by decide +kernel
theorem dX0_isHeads_2 : decode cX0_isHeads 2 = .ok (.invokevirtual 82, 3) := by decide +kernel
theorem dX0_isHeads_5 : decode cX0_isHeads 5 = .ok (.aload_n 0, 1) := by decide +kernel
theorem dX0_isHeads_6 : decode cX0_isHeads 6 = .ok (.getfield 21, 3) := by decide +kernel
theorem dX0_isHeads_9 : decode cX0_isHeads 9 = .ok (.iload_n 1, 1) := by decide +kernel
theorem dX0_isHeads_10 : decode cX0_isHeads 10 = .ok (.baload, 1) := by decide +kernel
theorem dX0_isHeads_11 : decode cX0_isHeads 11 = .ok (.ireturn, 1) := by decide +kernel
theorem dX0_tenthsOf_0 : decode cX0_tenthsOf 0 = .ok (.aload_n 0, 1) := by decide +kernel
theorem dX0_tenthsOf_1 : decode cX0_tenthsOf 1 = .ok (.iload_n 1, 1) := by decide +kernel
theorem dX0_tenthsOf_2 : decode cX0_tenthsOf 2 = .ok (.invokevirtual 58, 3) := by decide +kernel
theorem dX0_tenthsOf_5 : decode cX0_tenthsOf 5 = .ok (.aload_n 0, 1) := by decide +kernel
theorem dX0_tenthsOf_6 : decode cX0_tenthsOf 6 = .ok (.getfield 9, 3) := by decide +kernel
theorem dX0_tenthsOf_9 : decode cX0_tenthsOf 9 = .ok (.iload_n 1, 1) := by decide +kernel
theorem dX0_tenthsOf_10 : decode cX0_tenthsOf 10 = .ok (.iaload, 1) := by decide +kernel
theorem dX0_tenthsOf_11 : decode cX0_tenthsOf 11 = .ok (.ireturn, 1) := by decide +kernel
theorem dX0_oddsOf_0 : decode cX0_oddsOf 0 = .ok (.aload_n 0, 1) := by decide +kernel
theorem dX0_oddsOf_1 : decode cX0_oddsOf 1 = .ok (.iload_n 1, 1) := by decide +kernel
theorem dX0_oddsOf_2 : decode cX0_oddsOf 2 = .ok (.invokevirtual 54, 3) := by decide +kernel
theorem dX0_oddsOf_5 : decode cX0_oddsOf 5 = .ok (.aload_n 0, 1) := by decide +kernel
theorem dX0_oddsOf_6 : decode cX0_oddsOf 6 = .ok (.getfield 13, 3) := by decide +kernel
theorem dX0_oddsOf_9 : decode cX0_oddsOf 9 = .ok (.iload_n 1, 1) := by decide +kernel
theorem dX0_oddsOf_10 : decode cX0_oddsOf 10 = .ok (.iaload, 1) := by decide +kernel
theorem dX0_oddsOf_11 : decode cX0_oddsOf 11 = .ok (.ireturn, 1) := by decide +kernel
theorem dX0_shareOf_0 : decode cX0_shareOf 0 = .ok (.aload_n 0, 1) := by decide +kernel
theorem dX0_shareOf_1 : decode cX0_shareOf 1 = .ok (.iload_n 1, 1) := by decide +kernel
theorem dX0_shareOf_2 : decode cX0_shareOf 2 = .ok (.invokevirtual 54, 3) := by decide +kernel
theorem dX0_shareOf_5 : decode cX0_shareOf 5 = .ok (.aload_n 0, 1) := by decide +kernel
theorem dX0_shareOf_6 : decode cX0_shareOf 6 = .ok (.iload_n 2, 1) := by decide +kernel
theorem dX0_shareOf_7 : decode cX0_shareOf 7 = .ok (.invokevirtual 58, 3) := by decide +kernel
theorem dX0_shareOf_10 : decode cX0_shareOf 10 = .ok (.aload_n 0, 1) := by decide +kernel
theorem dX0_shareOf_11 : decode cX0_shareOf 11 = .ok (.getfield 18, 3) := by decide +kernel
theorem dX0_shareOf_14 : decode cX0_shareOf 14 = .ok (.iload_n 1, 1) := by decide +kernel
theorem dX0_shareOf_15 : decode cX0_shareOf 15 = .ok (.aaload, 1) := by decide +kernel
theorem dX0_shareOf_16 : decode cX0_shareOf 16 = .ok (.iload_n 2, 1) := by decide +kernel
theorem dX0_shareOf_17 : decode cX0_shareOf 17 = .ok (.iaload, 1) := by decide +kernel
theorem dX0_shareOf_18 : decode cX0_shareOf 18 = .ok (.ireturn, 1) := by decide +kernel
theorem dX0_weightOf_0 : decode cX0_weightOf 0 = .ok (.aload_n 0, 1) := by decide +kernel
theorem dX0_weightOf_1 : decode cX0_weightOf 1 = .ok (.iload_n 1, 1) := by decide +kernel
theorem dX0_weightOf_2 : decode cX0_weightOf 2 = .ok (.invokevirtual 54, 3) := by decide +kernel
theorem dX0_weightOf_5 : decode cX0_weightOf 5 = .ok (.aload_n 0, 1) := by decide +kernel
theorem dX0_weightOf_6 : decode cX0_weightOf 6 = .ok (.iload_n 2, 1) := by decide +kernel
theorem dX0_weightOf_7 : decode cX0_weightOf 7 = .ok (.invokevirtual 58, 3) := by decide +kernel
theorem dX0_weightOf_10 : decode cX0_weightOf 10 = .ok (.aload_n 0, 1) := by decide +kernel
theorem dX0_weightOf_11 : decode cX0_weightOf 11 = .ok (.iload_n 1, 1) := by decide +kernel
theorem dX0_weightOf_12 : decode cX0_weightOf 12 = .ok (.iload_n 2, 1) := by decide +kernel
theorem dX0_weightOf_13 : decode cX0_weightOf 13 = .ok (.invokevirtual 85, 3) := by decide +kernel
theorem dX0_weightOf_16 : decode cX0_weightOf 16 = .ok (.aload_n 0, 1) := by decide +kernel
theorem dX0_weightOf_17 : decode cX0_weightOf 17 = .ok (.iload_n 2, 1) := by decide +kernel
theorem dX0_weightOf_18 : decode cX0_weightOf 18 = .ok (.aload_n 0, 1) := by decide +kernel
theorem dX0_weightOf_19 : decode cX0_weightOf 19 = .ok (.invokevirtual 69, 3) := by decide +kernel
theorem dX0_weightOf_22 : decode cX0_weightOf 22 = .ok (.aload_n 0, 1) := by decide +kernel
theorem dX0_weightOf_23 : decode cX0_weightOf 23 = .ok (.invokevirtual 73, 3) := by decide +kernel
theorem dX0_weightOf_26 : decode cX0_weightOf 26 = .ok (.invokevirtual 89, 3) := by decide +kernel
theorem dX0_weightOf_29 : decode cX0_weightOf 29 = .ok (.lmul, 1) := by decide +kernel
theorem dX0_weightOf_30 : decode cX0_weightOf 30 = .ok (.lreturn, 1) := by decide +kernel
theorem dX0_coinWeight_0 : decode cX0_coinWeight 0 = .ok (.aload_n 0, 1) := by decide +kernel
theorem dX0_coinWeight_1 : decode cX0_coinWeight 1 = .ok (.iload_n 1, 1) := by decide +kernel
theorem dX0_coinWeight_2 : decode cX0_coinWeight 2 = .ok (.invokevirtual 58, 3) := by decide +kernel
theorem dX0_coinWeight_5 : decode cX0_coinWeight 5 = .ok (.aload_n 0, 1) := by decide +kernel
theorem dX0_coinWeight_6 : decode cX0_coinWeight 6 = .ok (.iload_n 1, 1) := by decide +kernel
theorem dX0_coinWeight_7 : decode cX0_coinWeight 7 = .ok (.aload_n 0, 1) := by decide +kernel
theorem dX0_coinWeight_8 : decode cX0_coinWeight 8 = .ok (.invokevirtual 69, 3) := by decide +kernel
theorem dX0_coinWeight_11 : decode cX0_coinWeight 11 = .ok (.aload_n 0, 1) := by decide +kernel
theorem dX0_coinWeight_12 : decode cX0_coinWeight 12 = .ok (.invokevirtual 73, 3) := by decide +kernel
theorem dX0_coinWeight_15 : decode cX0_coinWeight 15 = .ok (.invokevirtual 93, 3) := by decide +kernel
theorem dX0_coinWeight_18 : decode cX0_coinWeight 18 = .ok (.lreturn, 1) := by decide +kernel
theorem dX0_schoolWeight_0 : decode cX0_schoolWeight 0 = .ok (.aload_n 0, 1) := by decide +kernel
theorem dX0_schoolWeight_1 : decode cX0_schoolWeight 1 = .ok (.iload_n 1, 1) := by decide +kernel
theorem dX0_schoolWeight_2 : decode cX0_schoolWeight 2 = .ok (.invokevirtual 54, 3) := by decide +kernel
theorem dX0_schoolWeight_5 : decode cX0_schoolWeight 5 = .ok (.aload_n 0, 1) := by decide +kernel
theorem dX0_schoolWeight_6 : decode cX0_schoolWeight 6 = .ok (.iload_n 1, 1) := by decide +kernel
theorem dX0_schoolWeight_7 : decode cX0_schoolWeight 7 = .ok (.invokevirtual 96, 3) := by decide +kernel
theorem dX0_schoolWeight_10 : decode cX0_schoolWeight 10 = .ok (.lreturn, 1) := by decide +kernel
theorem dX0_wholeWeight_0 : decode cX0_wholeWeight 0 = .ok (.aload_n 0, 1) := by decide +kernel
theorem dX0_wholeWeight_1 : decode cX0_wholeWeight 1 = .ok (.invokevirtual 100, 3) := by decide +kernel
theorem dX0_wholeWeight_4 : decode cX0_wholeWeight 4 = .ok (.lreturn, 1) := by decide +kernel
theorem dX0_isRuledOut_0 : decode cX0_isRuledOut 0 = .ok (.aload_n 0, 1) := by decide +kernel
theorem dX0_isRuledOut_1 : decode cX0_isRuledOut 1 = .ok (.iload_n 1, 1) := by decide +kernel
theorem dX0_isRuledOut_2 : decode cX0_isRuledOut 2 = .ok (.invokevirtual 58, 3) := by decide +kernel
theorem dX0_isRuledOut_5 : decode cX0_isRuledOut 5 = .ok (.aload_n 0, 1) := by decide +kernel
theorem dX0_isRuledOut_6 : decode cX0_isRuledOut 6 = .ok (.iload_n 1, 1) := by decide +kernel
theorem dX0_isRuledOut_7 : decode cX0_isRuledOut 7 = .ok (.aload_n 0, 1) := by decide +kernel
theorem dX0_isRuledOut_8 : decode cX0_isRuledOut 8 = .ok (.invokevirtual 69, 3) := by decide +kernel
theorem dX0_isRuledOut_11 : decode cX0_isRuledOut 11 = .ok (.aload_n 0, 1) := by decide +kernel
theorem dX0_isRuledOut_12 : decode cX0_isRuledOut 12 = .ok (.invokevirtual 73, 3) := by decide +kernel
theorem dX0_isRuledOut_15 : decode cX0_isRuledOut 15 = .ok (.invokevirtual 93, 3) := by decide +kernel
theorem dX0_isRuledOut_18 : decode cX0_isRuledOut 18 = .ok (.lconst 0, 1) := by decide +kernel
theorem dX0_isRuledOut_19 : decode cX0_isRuledOut 19 = .ok (.lcmp, 1) := by decide +kernel
theorem dX0_isRuledOut_20 : decode cX0_isRuledOut 20 = .ok (.ifCond .ne 7, 3) := by decide +kernel
theorem dX0_isRuledOut_23 : decode cX0_isRuledOut 23 = .ok (.iconst 1, 1) := by decide +kernel
theorem dX0_isRuledOut_24 : decode cX0_isRuledOut 24 = .ok (.goto 4, 3) := by decide +kernel
theorem dX0_isRuledOut_27 : decode cX0_isRuledOut 27 = .ok (.iconst 0, 1) := by decide +kernel
theorem dX0_isRuledOut_28 : decode cX0_isRuledOut 28 = .ok (.ireturn, 1) := by decide +kernel
theorem dX0_ruledOut_0 : decode cX0_ruledOut 0 = .ok (.aload_n 0, 1) := by decide +kernel
theorem dX0_ruledOut_1 : decode cX0_ruledOut 1 = .ok (.invokevirtual 69, 3) := by decide +kernel
theorem dX0_ruledOut_4 : decode cX0_ruledOut 4 = .ok (.istore_n 1, 1) := by decide +kernel
theorem dX0_ruledOut_5 : decode cX0_ruledOut 5 = .ok (.aload_n 0, 1) := by decide +kernel
theorem dX0_ruledOut_6 : decode cX0_ruledOut 6 = .ok (.invokevirtual 73, 3) := by decide +kernel
theorem dX0_ruledOut_9 : decode cX0_ruledOut 9 = .ok (.istore_n 2, 1) := by decide +kernel
theorem dX0_ruledOut_10 : decode cX0_ruledOut 10 = .ok (.iconst 0, 1) := by decide +kernel
theorem dX0_ruledOut_11 : decode cX0_ruledOut 11 = .ok (.istore_n 3, 1) := by decide +kernel
theorem dX0_ruledOut_12 : decode cX0_ruledOut 12 = .ok (.iconst 0, 1) := by decide +kernel
theorem dX0_ruledOut_13 : decode cX0_ruledOut 13 = .ok (.istore 4, 2) := by decide +kernel
theorem dX0_ruledOut_15 : decode cX0_ruledOut 15 = .ok (.iload 4, 2) := by decide +kernel
theorem dX0_ruledOut_17 : decode cX0_ruledOut 17 = .ok (.aload_n 0, 1) := by decide +kernel
theorem dX0_ruledOut_18 : decode cX0_ruledOut 18 = .ok (.getfield 25, 3) := by decide +kernel
theorem dX0_ruledOut_21 : decode cX0_ruledOut 21 = .ok (.if_icmp .ge 25, 3) := by decide +kernel
theorem dX0_ruledOut_24 : decode cX0_ruledOut 24 = .ok (.aload_n 0, 1) := by decide +kernel
theorem dX0_ruledOut_25 : decode cX0_ruledOut 25 = .ok (.iload 4, 2) := by decide +kernel
theorem dX0_ruledOut_27 : decode cX0_ruledOut 27 = .ok (.iload_n 1, 1) := by decide +kernel
theorem dX0_ruledOut_28 : decode cX0_ruledOut 28 = .ok (.iload_n 2, 1) := by decide +kernel
theorem dX0_ruledOut_29 : decode cX0_ruledOut 29 = .ok (.invokevirtual 93, 3) := by decide +kernel
theorem dX0_ruledOut_32 : decode cX0_ruledOut 32 = .ok (.lconst 0, 1) := by decide +kernel
theorem dX0_ruledOut_33 : decode cX0_ruledOut 33 = .ok (.lcmp, 1) := by decide +kernel
theorem dX0_ruledOut_34 : decode cX0_ruledOut 34 = .ok (.ifCond .ne 6, 3) := by decide +kernel
theorem dX0_ruledOut_37 : decode cX0_ruledOut 37 = .ok (.iinc 3 1, 3) := by decide +kernel
theorem dX0_ruledOut_40 : decode cX0_ruledOut 40 = .ok (.iinc 4 1, 3) := by decide +kernel
theorem dX0_ruledOut_43 : decode cX0_ruledOut 43 = .ok (.goto (-28), 3) := by decide +kernel
theorem dX0_ruledOut_46 : decode cX0_ruledOut 46 = .ok (.iload_n 3, 1) := by decide +kernel
theorem dX0_ruledOut_47 : decode cX0_ruledOut 47 = .ok (.ireturn, 1) := by decide +kernel
theorem dX0_coinPercent_0 : decode cX0_coinPercent 0 = .ok (.aload_n 0, 1) := by decide +kernel
theorem dX0_coinPercent_1 : decode cX0_coinPercent 1 = .ok (.iload_n 1, 1) := by decide +kernel
theorem dX0_coinPercent_2 : decode cX0_coinPercent 2 = .ok (.invokevirtual 58, 3) := by decide +kernel
theorem dX0_coinPercent_5 : decode cX0_coinPercent 5 = .ok (.aload_n 0, 1) := by decide +kernel
theorem dX0_coinPercent_6 : decode cX0_coinPercent 6 = .ok (.iload_n 1, 1) := by decide +kernel
theorem dX0_coinPercent_7 : decode cX0_coinPercent 7 = .ok (.aload_n 0, 1) := by decide +kernel
theorem dX0_coinPercent_8 : decode cX0_coinPercent 8 = .ok (.invokevirtual 69, 3) := by decide +kernel
theorem dX0_coinPercent_11 : decode cX0_coinPercent 11 = .ok (.aload_n 0, 1) := by decide +kernel
theorem dX0_coinPercent_12 : decode cX0_coinPercent 12 = .ok (.invokevirtual 73, 3) := by decide +kernel
theorem dX0_coinPercent_15 : decode cX0_coinPercent 15 = .ok (.invokevirtual 93, 3) := by decide +kernel
theorem dX0_coinPercent_18 : decode cX0_coinPercent 18 = .ok (.aload_n 0, 1) := by decide +kernel
theorem dX0_coinPercent_19 : decode cX0_coinPercent 19 = .ok (.invokevirtual 100, 3) := by decide +kernel
theorem dX0_coinPercent_22 : decode cX0_coinPercent 22 = .ok (.invokestatic 104, 3) := by decide +kernel
theorem dX0_coinPercent_25 : decode cX0_coinPercent 25 = .ok (.ireturn, 1) := by decide +kernel
theorem dX0_schoolPercent_0 : decode cX0_schoolPercent 0 = .ok (.aload_n 0, 1) := by decide +kernel
theorem dX0_schoolPercent_1 : decode cX0_schoolPercent 1 = .ok (.iload_n 1, 1) := by decide +kernel
theorem dX0_schoolPercent_2 : decode cX0_schoolPercent 2 = .ok (.invokevirtual 54, 3) := by decide +kernel
theorem dX0_schoolPercent_5 : decode cX0_schoolPercent 5 = .ok (.aload_n 0, 1) := by decide +kernel
theorem dX0_schoolPercent_6 : decode cX0_schoolPercent 6 = .ok (.iload_n 1, 1) := by decide +kernel
theorem dX0_schoolPercent_7 : decode cX0_schoolPercent 7 = .ok (.invokevirtual 96, 3) := by decide +kernel
theorem dX0_schoolPercent_10 : decode cX0_schoolPercent 10 = .ok (.aload_n 0, 1) := by decide +kernel
theorem dX0_schoolPercent_11 : decode cX0_schoolPercent 11 = .ok (.invokevirtual 100, 3) := by decide +kernel
theorem dX0_schoolPercent_14 : decode cX0_schoolPercent 14 = .ok (.invokestatic 104, 3) := by decide +kernel
theorem dX0_schoolPercent_17 : decode cX0_schoolPercent 17 = .ok (.ireturn, 1) := by decide +kernel
theorem dX0_leadingCoin_0 : decode cX0_leadingCoin 0 = .ok (.aload_n 0, 1) := by decide +kernel
theorem dX0_leadingCoin_1 : decode cX0_leadingCoin 1 = .ok (.aload_n 0, 1) := by decide +kernel
theorem dX0_leadingCoin_2 : decode cX0_leadingCoin 2 = .ok (.invokevirtual 69, 3) := by decide +kernel
theorem dX0_leadingCoin_5 : decode cX0_leadingCoin 5 = .ok (.aload_n 0, 1) := by decide +kernel
theorem dX0_leadingCoin_6 : decode cX0_leadingCoin 6 = .ok (.invokevirtual 73, 3) := by decide +kernel
theorem dX0_leadingCoin_9 : decode cX0_leadingCoin 9 = .ok (.invokevirtual 108, 3) := by decide +kernel
theorem dX0_leadingCoin_12 : decode cX0_leadingCoin 12 = .ok (.istore_n 1, 1) := by decide +kernel
theorem dX0_leadingCoin_13 : decode cX0_leadingCoin 13 = .ok (.iload_n 1, 1) := by decide +kernel
theorem dX0_leadingCoin_14 : decode cX0_leadingCoin 14 = .ok (.iconst (-1), 1) := by decide +kernel
theorem dX0_leadingCoin_15 : decode cX0_leadingCoin 15 = .ok (.if_icmp .ne 13, 3) := by decide +kernel
theorem dX0_leadingCoin_18 : decode cX0_leadingCoin 18 = .ok (.new 42, 3) := by decide +kernel
theorem dX0_leadingCoin_21 : decode cX0_leadingCoin 21 = .ok (.dup, 1) := by decide +kernel
theorem dX0_leadingCoin_22 : decode cX0_leadingCoin 22 = .ok (.ldc 112, 2) := by decide +kernel
theorem dX0_leadingCoin_24 : decode cX0_leadingCoin 24 = .ok (.invokespecial 46, 3) := by decide +kernel
theorem dX0_leadingCoin_27 : decode cX0_leadingCoin 27 = .ok (.athrow, 1) := by decide +kernel
theorem dX0_leadingCoin_28 : decode cX0_leadingCoin 28 = .ok (.iload_n 1, 1) := by decide +kernel
theorem dX0_leadingCoin_29 : decode cX0_leadingCoin 29 = .ok (.ireturn, 1) := by decide +kernel
theorem dX0_leadingSchool_0 : decode cX0_leadingSchool 0 = .ok (.iconst (-1), 1) := by decide +kernel
theorem dX0_leadingSchool_1 : decode cX0_leadingSchool 1 = .ok (.istore_n 1, 1) := by decide +kernel
theorem dX0_leadingSchool_2 : decode cX0_leadingSchool 2 = .ok (.lconst 0, 1) := by decide +kernel
theorem dX0_leadingSchool_3 : decode cX0_leadingSchool 3 = .ok (.lstore_n 2, 1) := by decide +kernel
theorem dX0_leadingSchool_4 : decode cX0_leadingSchool 4 = .ok (.iconst 0, 1) := by decide +kernel
theorem dX0_leadingSchool_5 : decode cX0_leadingSchool 5 = .ok (.istore 4, 2) := by decide +kernel
theorem dX0_leadingSchool_7 : decode cX0_leadingSchool 7 = .ok (.iload 4, 2) := by decide +kernel
theorem dX0_leadingSchool_9 : decode cX0_leadingSchool 9 = .ok (.aload_n 0, 1) := by decide +kernel
theorem dX0_leadingSchool_10 : decode cX0_leadingSchool 10 = .ok (.getfield 29, 3) := by decide +kernel
theorem dX0_leadingSchool_13 : decode cX0_leadingSchool 13 = .ok (.if_icmp .ge 30, 3) := by decide +kernel
theorem dX0_leadingSchool_16 : decode cX0_leadingSchool 16 = .ok (.aload_n 0, 1) := by decide +kernel
theorem dX0_leadingSchool_17 : decode cX0_leadingSchool 17 = .ok (.iload 4, 2) := by decide +kernel
theorem dX0_leadingSchool_19 : decode cX0_leadingSchool 19 = .ok (.invokevirtual 96, 3) := by decide +kernel
theorem dX0_leadingSchool_22 : decode cX0_leadingSchool 22 = .ok (.lstore 5, 2) := by decide +kernel
theorem dX0_leadingSchool_24 : decode cX0_leadingSchool 24 = .ok (.lload 5, 2) := by decide +kernel
theorem dX0_leadingSchool_26 : decode cX0_leadingSchool 26 = .ok (.lload_n 2, 1) := by decide +kernel
theorem dX0_leadingSchool_27 : decode cX0_leadingSchool 27 = .ok (.lcmp, 1) := by decide +kernel
theorem dX0_leadingSchool_28 : decode cX0_leadingSchool 28 = .ok (.ifCond .le 9, 3) := by decide +kernel
theorem dX0_leadingSchool_31 : decode cX0_leadingSchool 31 = .ok (.lload 5, 2) := by decide +kernel
theorem dX0_leadingSchool_33 : decode cX0_leadingSchool 33 = .ok (.lstore_n 2, 1) := by decide +kernel
theorem dX0_leadingSchool_34 : decode cX0_leadingSchool 34 = .ok (.iload 4, 2) := by decide +kernel
theorem dX0_leadingSchool_36 : decode cX0_leadingSchool 36 = .ok (.istore_n 1, 1) := by decide +kernel
theorem dX0_leadingSchool_37 : decode cX0_leadingSchool 37 = .ok (.iinc 4 1, 3) := by decide +kernel
theorem dX0_leadingSchool_40 : decode cX0_leadingSchool 40 = .ok (.goto (-33), 3) := by decide +kernel
theorem dX0_leadingSchool_43 : decode cX0_leadingSchool 43 = .ok (.iload_n 1, 1) := by decide +kernel
theorem dX0_leadingSchool_44 : decode cX0_leadingSchool 44 = .ok (.iconst (-1), 1) := by decide +kernel
theorem dX0_leadingSchool_45 : decode cX0_leadingSchool 45 = .ok (.if_icmp .ne 13, 3) := by decide +kernel
theorem dX0_leadingSchool_48 : decode cX0_leadingSchool 48 = .ok (.new 42, 3) := by decide +kernel
theorem dX0_leadingSchool_51 : decode cX0_leadingSchool 51 = .ok (.dup, 1) := by decide +kernel
theorem dX0_leadingSchool_52 : decode cX0_leadingSchool 52 = .ok (.ldc 112, 2) := by decide +kernel
theorem dX0_leadingSchool_54 : decode cX0_leadingSchool 54 = .ok (.invokespecial 46, 3) := by decide +kernel
theorem dX0_leadingSchool_57 : decode cX0_leadingSchool 57 = .ok (.athrow, 1) := by decide +kernel
theorem dX0_leadingSchool_58 : decode cX0_leadingSchool 58 = .ok (.iload_n 1, 1) := by decide +kernel
theorem dX0_leadingSchool_59 : decode cX0_leadingSchool 59 = .ok (.ireturn, 1) := by decide +kernel
theorem dX0_oddsAgainst_0 : decode cX0_oddsAgainst 0 = .ok (.aload_n 0, 1) := by decide +kernel
theorem dX0_oddsAgainst_1 : decode cX0_oddsAgainst 1 = .ok (.iload_n 1, 1) := by decide +kernel
theorem dX0_oddsAgainst_2 : decode cX0_oddsAgainst 2 = .ok (.invokevirtual 58, 3) := by decide +kernel
theorem dX0_oddsAgainst_5 : decode cX0_oddsAgainst 5 = .ok (.aload_n 0, 1) := by decide +kernel
theorem dX0_oddsAgainst_6 : decode cX0_oddsAgainst 6 = .ok (.iload_n 2, 1) := by decide +kernel
theorem dX0_oddsAgainst_7 : decode cX0_oddsAgainst 7 = .ok (.invokevirtual 58, 3) := by decide +kernel
theorem dX0_oddsAgainst_10 : decode cX0_oddsAgainst 10 = .ok (.aload_n 0, 1) := by decide +kernel
theorem dX0_oddsAgainst_11 : decode cX0_oddsAgainst 11 = .ok (.invokevirtual 69, 3) := by decide +kernel
theorem dX0_oddsAgainst_14 : decode cX0_oddsAgainst 14 = .ok (.istore_n 3, 1) := by decide +kernel
theorem dX0_oddsAgainst_15 : decode cX0_oddsAgainst 15 = .ok (.aload_n 0, 1) := by decide +kernel
theorem dX0_oddsAgainst_16 : decode cX0_oddsAgainst 16 = .ok (.invokevirtual 73, 3) := by decide +kernel
theorem dX0_oddsAgainst_19 : decode cX0_oddsAgainst 19 = .ok (.istore 4, 2) := by decide +kernel
theorem dX0_oddsAgainst_21 : decode cX0_oddsAgainst 21 = .ok (.aload_n 0, 1) := by decide +kernel
theorem dX0_oddsAgainst_22 : decode cX0_oddsAgainst 22 = .ok (.iload_n 2, 1) := by decide +kernel
theorem dX0_oddsAgainst_23 : decode cX0_oddsAgainst 23 = .ok (.iload_n 3, 1) := by decide +kernel
theorem dX0_oddsAgainst_24 : decode cX0_oddsAgainst 24 = .ok (.iload 4, 2) := by decide +kernel
theorem dX0_oddsAgainst_26 : decode cX0_oddsAgainst 26 = .ok (.invokevirtual 93, 3) := by decide +kernel
theorem dX0_oddsAgainst_29 : decode cX0_oddsAgainst 29 = .ok (.lstore 5, 2) := by decide +kernel
theorem dX0_oddsAgainst_31 : decode cX0_oddsAgainst 31 = .ok (.lload 5, 2) := by decide +kernel
theorem dX0_oddsAgainst_33 : decode cX0_oddsAgainst 33 = .ok (.lconst 0, 1) := by decide +kernel
theorem dX0_oddsAgainst_34 : decode cX0_oddsAgainst 34 = .ok (.lcmp, 1) := by decide +kernel
theorem dX0_oddsAgainst_35 : decode cX0_oddsAgainst 35 = .ok (.ifCond .ne 13, 3) := by decide +kernel
theorem dX0_oddsAgainst_38 : decode cX0_oddsAgainst 38 = .ok (.new 42, 3) := by decide +kernel
theorem dX0_oddsAgainst_41 : decode cX0_oddsAgainst 41 = .ok (.dup, 1) := by decide +kernel
theorem dX0_oddsAgainst_42 : decode cX0_oddsAgainst 42 = .ok (.ldc 114, 2) := by decide +kernel
theorem dX0_oddsAgainst_44 : decode cX0_oddsAgainst 44 = .ok (.invokespecial 46, 3) := by decide +kernel
theorem dX0_oddsAgainst_47 : decode cX0_oddsAgainst 47 = .ok (.athrow, 1) := by decide +kernel
theorem dX0_oddsAgainst_48 : decode cX0_oddsAgainst 48 = .ok (.aload_n 0, 1) := by decide +kernel
theorem dX0_oddsAgainst_49 : decode cX0_oddsAgainst 49 = .ok (.iload_n 1, 1) := by decide +kernel
theorem dX0_oddsAgainst_50 : decode cX0_oddsAgainst 50 = .ok (.iload_n 3, 1) := by decide +kernel
theorem dX0_oddsAgainst_51 : decode cX0_oddsAgainst 51 = .ok (.iload 4, 2) := by decide +kernel
theorem dX0_oddsAgainst_53 : decode cX0_oddsAgainst 53 = .ok (.invokevirtual 93, 3) := by decide +kernel
theorem dX0_oddsAgainst_56 : decode cX0_oddsAgainst 56 = .ok (.lload 5, 2) := by decide +kernel
theorem dX0_oddsAgainst_58 : decode cX0_oddsAgainst 58 = .ok (.ldiv, 1) := by decide +kernel
theorem dX0_oddsAgainst_59 : decode cX0_oddsAgainst 59 = .ok (.lreturn, 1) := by decide +kernel
theorem dX0_surpriseOf_0 : decode cX0_surpriseOf 0 = .ok (.aload_n 0, 1) := by decide +kernel
theorem dX0_surpriseOf_1 : decode cX0_surpriseOf 1 = .ok (.iload_n 1, 1) := by decide +kernel
theorem dX0_surpriseOf_2 : decode cX0_surpriseOf 2 = .ok (.invokevirtual 82, 3) := by decide +kernel
theorem dX0_surpriseOf_5 : decode cX0_surpriseOf 5 = .ok (.aload_n 0, 1) := by decide +kernel
theorem dX0_surpriseOf_6 : decode cX0_surpriseOf 6 = .ok (.iload_n 1, 1) := by decide +kernel
theorem dX0_surpriseOf_7 : decode cX0_surpriseOf 7 = .ok (.invokevirtual 116, 3) := by decide +kernel
theorem dX0_surpriseOf_10 : decode cX0_surpriseOf 10 = .ok (.ireturn, 1) := by decide +kernel
theorem dX0_allSurprise_0 : decode cX0_allSurprise 0 = .ok (.iconst 0, 1) := by decide +kernel
theorem dX0_allSurprise_1 : decode cX0_allSurprise 1 = .ok (.istore_n 1, 1) := by decide +kernel
theorem dX0_allSurprise_2 : decode cX0_allSurprise 2 = .ok (.iconst 0, 1) := by decide +kernel
theorem dX0_allSurprise_3 : decode cX0_allSurprise 3 = .ok (.istore_n 2, 1) := by decide +kernel
theorem dX0_allSurprise_4 : decode cX0_allSurprise 4 = .ok (.iload_n 2, 1) := by decide +kernel
theorem dX0_allSurprise_5 : decode cX0_allSurprise 5 = .ok (.aload_n 0, 1) := by decide +kernel
theorem dX0_allSurprise_6 : decode cX0_allSurprise 6 = .ok (.getfield 32, 3) := by decide +kernel
theorem dX0_allSurprise_9 : decode cX0_allSurprise 9 = .ok (.if_icmp .ge 17, 3) := by decide +kernel
theorem dX0_allSurprise_12 : decode cX0_allSurprise 12 = .ok (.iload_n 1, 1) := by decide +kernel
theorem dX0_allSurprise_13 : decode cX0_allSurprise 13 = .ok (.aload_n 0, 1) := by decide +kernel
theorem dX0_allSurprise_14 : decode cX0_allSurprise 14 = .ok (.iload_n 2, 1) := by decide +kernel
theorem dX0_allSurprise_15 : decode cX0_allSurprise 15 = .ok (.invokevirtual 116, 3) := by decide +kernel
theorem dX0_allSurprise_18 : decode cX0_allSurprise 18 = .ok (.iadd, 1) := by decide +kernel
theorem dX0_allSurprise_19 : decode cX0_allSurprise 19 = .ok (.istore_n 1, 1) := by decide +kernel
theorem dX0_allSurprise_20 : decode cX0_allSurprise 20 = .ok (.iinc 2 1, 3) := by decide +kernel
theorem dX0_allSurprise_23 : decode cX0_allSurprise 23 = .ok (.goto (-19), 3) := by decide +kernel
theorem dX0_allSurprise_26 : decode cX0_allSurprise 26 = .ok (.iload_n 1, 1) := by decide +kernel
theorem dX0_allSurprise_27 : decode cX0_allSurprise 27 = .ok (.ireturn, 1) := by decide +kernel
theorem dX0_greatestSurprise_0 : decode cX0_greatestSurprise 0 = .ok (.iconst (-1), 1) := by decide +kernel
theorem dX0_greatestSurprise_1 : decode cX0_greatestSurprise 1 = .ok (.istore_n 1, 1) := by decide +kernel
theorem dX0_greatestSurprise_2 : decode cX0_greatestSurprise 2 = .ok (.iconst (-1), 1) := by decide +kernel
theorem dX0_greatestSurprise_3 : decode cX0_greatestSurprise 3 = .ok (.istore_n 2, 1) := by decide +kernel
theorem dX0_greatestSurprise_4 : decode cX0_greatestSurprise 4 = .ok (.iconst 0, 1) := by decide +kernel
theorem dX0_greatestSurprise_5 : decode cX0_greatestSurprise 5 = .ok (.istore_n 3, 1) := by decide +kernel
theorem dX0_greatestSurprise_6 : decode cX0_greatestSurprise 6 = .ok (.iload_n 3, 1) := by decide +kernel
theorem dX0_greatestSurprise_7 : decode cX0_greatestSurprise 7 = .ok (.aload_n 0, 1) := by decide +kernel
theorem dX0_greatestSurprise_8 : decode cX0_greatestSurprise 8 = .ok (.getfield 32, 3) := by decide +kernel
theorem dX0_greatestSurprise_11 : decode cX0_greatestSurprise 11 = .ok (.if_icmp .ge 27, 3) := by decide +kernel
theorem dX0_greatestSurprise_14 : decode cX0_greatestSurprise 14 = .ok (.aload_n 0, 1) := by decide +kernel
theorem dX0_greatestSurprise_15 : decode cX0_greatestSurprise 15 = .ok (.iload_n 3, 1) := by decide +kernel
theorem dX0_greatestSurprise_16 : decode cX0_greatestSurprise 16 = .ok (.invokevirtual 116, 3) := by decide +kernel
theorem dX0_greatestSurprise_19 : decode cX0_greatestSurprise 19 = .ok (.istore 4, 2) := by decide +kernel
theorem dX0_greatestSurprise_21 : decode cX0_greatestSurprise 21 = .ok (.iload 4, 2) := by decide +kernel
theorem dX0_greatestSurprise_23 : decode cX0_greatestSurprise 23 = .ok (.iload_n 2, 1) := by decide +kernel
theorem dX0_greatestSurprise_24 : decode cX0_greatestSurprise 24 = .ok (.if_icmp .le 8, 3) := by decide +kernel
theorem dX0_greatestSurprise_27 : decode cX0_greatestSurprise 27 = .ok (.iload 4, 2) := by decide +kernel
theorem dX0_greatestSurprise_29 : decode cX0_greatestSurprise 29 = .ok (.istore_n 2, 1) := by decide +kernel
theorem dX0_greatestSurprise_30 : decode cX0_greatestSurprise 30 = .ok (.iload_n 3, 1) := by decide +kernel
theorem dX0_greatestSurprise_31 : decode cX0_greatestSurprise 31 = .ok (.istore_n 1, 1) := by decide +kernel
theorem dX0_greatestSurprise_32 : decode cX0_greatestSurprise 32 = .ok (.iinc 3 1, 3) := by decide +kernel
theorem dX0_greatestSurprise_35 : decode cX0_greatestSurprise 35 = .ok (.goto (-29), 3) := by decide +kernel
theorem dX0_greatestSurprise_38 : decode cX0_greatestSurprise 38 = .ok (.iload_n 1, 1) := by decide +kernel
theorem dX0_greatestSurprise_39 : decode cX0_greatestSurprise 39 = .ok (.ireturn, 1) := by decide +kernel
theorem dX0_headsPercent_0 : decode cX0_headsPercent 0 = .ok (.aload_n 0, 1) := by decide +kernel
theorem dX0_headsPercent_1 : decode cX0_headsPercent 1 = .ok (.invokevirtual 69, 3) := by decide +kernel
theorem dX0_headsPercent_4 : decode cX0_headsPercent 4 = .ok (.istore_n 1, 1) := by decide +kernel
theorem dX0_headsPercent_5 : decode cX0_headsPercent 5 = .ok (.aload_n 0, 1) := by decide +kernel
theorem dX0_headsPercent_6 : decode cX0_headsPercent 6 = .ok (.invokevirtual 73, 3) := by decide +kernel
theorem dX0_headsPercent_9 : decode cX0_headsPercent 9 = .ok (.istore_n 2, 1) := by decide +kernel
theorem dX0_headsPercent_10 : decode cX0_headsPercent 10 = .ok (.aload_n 0, 1) := by decide +kernel
theorem dX0_headsPercent_11 : decode cX0_headsPercent 11 = .ok (.iconst 1, 1) := by decide +kernel
theorem dX0_headsPercent_12 : decode cX0_headsPercent 12 = .ok (.iload_n 1, 1) := by decide +kernel
theorem dX0_headsPercent_13 : decode cX0_headsPercent 13 = .ok (.iload_n 2, 1) := by decide +kernel
theorem dX0_headsPercent_14 : decode cX0_headsPercent 14 = .ok (.invokevirtual 120, 3) := by decide +kernel
theorem dX0_headsPercent_17 : decode cX0_headsPercent 17 = .ok (.lstore_n 3, 1) := by decide +kernel
theorem dX0_headsPercent_18 : decode cX0_headsPercent 18 = .ok (.lload_n 3, 1) := by decide +kernel
theorem dX0_headsPercent_19 : decode cX0_headsPercent 19 = .ok (.lload_n 3, 1) := by decide +kernel
theorem dX0_headsPercent_20 : decode cX0_headsPercent 20 = .ok (.aload_n 0, 1) := by decide +kernel
theorem dX0_headsPercent_21 : decode cX0_headsPercent 21 = .ok (.iconst 0, 1) := by decide +kernel
theorem dX0_headsPercent_22 : decode cX0_headsPercent 22 = .ok (.iload_n 1, 1) := by decide +kernel
theorem dX0_headsPercent_23 : decode cX0_headsPercent 23 = .ok (.iload_n 2, 1) := by decide +kernel
theorem dX0_headsPercent_24 : decode cX0_headsPercent 24 = .ok (.invokevirtual 120, 3) := by decide +kernel
theorem dX0_headsPercent_27 : decode cX0_headsPercent 27 = .ok (.ladd, 1) := by decide +kernel
theorem dX0_headsPercent_28 : decode cX0_headsPercent 28 = .ok (.invokestatic 104, 3) := by decide +kernel
theorem dX0_headsPercent_31 : decode cX0_headsPercent 31 = .ok (.ireturn, 1) := by decide +kernel
theorem dX0_wouldSurprise_0 : decode cX0_wouldSurprise 0 = .ok (.aload_n 0, 1) := by decide +kernel
theorem dX0_wouldSurprise_1 : decode cX0_wouldSurprise 1 = .ok (.iload_n 1, 1) := by decide +kernel
theorem dX0_wouldSurprise_2 : decode cX0_wouldSurprise 2 = .ok (.invokevirtual 65, 3) := by decide +kernel
theorem dX0_wouldSurprise_5 : decode cX0_wouldSurprise 5 = .ok (.aload_n 0, 1) := by decide +kernel
theorem dX0_wouldSurprise_6 : decode cX0_wouldSurprise 6 = .ok (.iload_n 1, 1) := by decide +kernel
theorem dX0_wouldSurprise_7 : decode cX0_wouldSurprise 7 = .ok (.aload_n 0, 1) := by decide +kernel
theorem dX0_wouldSurprise_8 : decode cX0_wouldSurprise 8 = .ok (.invokevirtual 69, 3) := by decide +kernel
theorem dX0_wouldSurprise_11 : decode cX0_wouldSurprise 11 = .ok (.aload_n 0, 1) := by decide +kernel
theorem dX0_wouldSurprise_12 : decode cX0_wouldSurprise 12 = .ok (.invokevirtual 73, 3) := by decide +kernel
theorem dX0_wouldSurprise_15 : decode cX0_wouldSurprise 15 = .ok (.invokevirtual 76, 3) := by decide +kernel
theorem dX0_wouldSurprise_18 : decode cX0_wouldSurprise 18 = .ok (.ireturn, 1) := by decide +kernel
theorem dX0_leaderBehind_0 : decode cX0_leaderBehind 0 = .ok (.aload_n 0, 1) := by decide +kernel
theorem dX0_leaderBehind_1 : decode cX0_leaderBehind 1 = .ok (.iload_n 1, 1) := by decide +kernel
theorem dX0_leaderBehind_2 : decode cX0_leaderBehind 2 = .ok (.invokevirtual 65, 3) := by decide +kernel
theorem dX0_leaderBehind_5 : decode cX0_leaderBehind 5 = .ok (.iload_n 1, 1) := by decide +kernel
theorem dX0_leaderBehind_6 : decode cX0_leaderBehind 6 = .ok (.ifCond .eq 20, 3) := by decide +kernel
theorem dX0_leaderBehind_9 : decode cX0_leaderBehind 9 = .ok (.aload_n 0, 1) := by decide +kernel
theorem dX0_leaderBehind_10 : decode cX0_leaderBehind 10 = .ok (.aload_n 0, 1) := by decide +kernel
theorem dX0_leaderBehind_11 : decode cX0_leaderBehind 11 = .ok (.invokevirtual 69, 3) := by decide +kernel
theorem dX0_leaderBehind_14 : decode cX0_leaderBehind 14 = .ok (.iconst 1, 1) := by decide +kernel
theorem dX0_leaderBehind_15 : decode cX0_leaderBehind 15 = .ok (.iadd, 1) := by decide +kernel
theorem dX0_leaderBehind_16 : decode cX0_leaderBehind 16 = .ok (.aload_n 0, 1) := by decide +kernel
theorem dX0_leaderBehind_17 : decode cX0_leaderBehind 17 = .ok (.invokevirtual 73, 3) := by decide +kernel
theorem dX0_leaderBehind_20 : decode cX0_leaderBehind 20 = .ok (.invokevirtual 108, 3) := by decide +kernel
theorem dX0_leaderBehind_23 : decode cX0_leaderBehind 23 = .ok (.goto 17, 3) := by decide +kernel
theorem dX0_leaderBehind_26 : decode cX0_leaderBehind 26 = .ok (.aload_n 0, 1) := by decide +kernel
theorem dX0_leaderBehind_27 : decode cX0_leaderBehind 27 = .ok (.aload_n 0, 1) := by decide +kernel
theorem dX0_leaderBehind_28 : decode cX0_leaderBehind 28 = .ok (.invokevirtual 69, 3) := by decide +kernel
theorem dX0_leaderBehind_31 : decode cX0_leaderBehind 31 = .ok (.aload_n 0, 1) := by decide +kernel
theorem dX0_leaderBehind_32 : decode cX0_leaderBehind 32 = .ok (.invokevirtual 73, 3) := by decide +kernel
theorem dX0_leaderBehind_35 : decode cX0_leaderBehind 35 = .ok (.iconst 1, 1) := by decide +kernel
theorem dX0_leaderBehind_36 : decode cX0_leaderBehind 36 = .ok (.iadd, 1) := by decide +kernel
theorem dX0_leaderBehind_37 : decode cX0_leaderBehind 37 = .ok (.invokevirtual 108, 3) := by decide +kernel
theorem dX0_leaderBehind_40 : decode cX0_leaderBehind 40 = .ok (.ireturn, 1) := by decide +kernel
theorem dX0_tossesToLead_0 : decode cX0_tossesToLead 0 = .ok (.aload_n 0, 1) := by decide +kernel
theorem dX0_tossesToLead_1 : decode cX0_tossesToLead 1 = .ok (.iload_n 1, 1) := by decide +kernel
theorem dX0_tossesToLead_2 : decode cX0_tossesToLead 2 = .ok (.invokevirtual 58, 3) := by decide +kernel
theorem dX0_tossesToLead_5 : decode cX0_tossesToLead 5 = .ok (.aload_n 0, 1) := by decide +kernel
theorem dX0_tossesToLead_6 : decode cX0_tossesToLead 6 = .ok (.invokevirtual 69, 3) := by decide +kernel
theorem dX0_tossesToLead_9 : decode cX0_tossesToLead 9 = .ok (.istore_n 2, 1) := by decide +kernel
theorem dX0_tossesToLead_10 : decode cX0_tossesToLead 10 = .ok (.aload_n 0, 1) := by decide +kernel
theorem dX0_tossesToLead_11 : decode cX0_tossesToLead 11 = .ok (.invokevirtual 73, 3) := by decide +kernel
theorem dX0_tossesToLead_14 : decode cX0_tossesToLead 14 = .ok (.istore_n 3, 1) := by decide +kernel
theorem dX0_tossesToLead_15 : decode cX0_tossesToLead 15 = .ok (.iconst 0, 1) := by decide +kernel
theorem dX0_tossesToLead_16 : decode cX0_tossesToLead 16 = .ok (.istore 4, 2) := by decide +kernel
theorem dX0_tossesToLead_18 : decode cX0_tossesToLead 18 = .ok (.iload 4, 2) := by decide +kernel
theorem dX0_tossesToLead_20 : decode cX0_tossesToLead 20 = .ok (.bipush 12, 2) := by decide +kernel
theorem dX0_tossesToLead_22 : decode cX0_tossesToLead 22 = .ok (.aload_n 0, 1) := by decide +kernel
theorem dX0_tossesToLead_23 : decode cX0_tossesToLead 23 = .ok (.getfield 32, 3) := by decide +kernel
theorem dX0_tossesToLead_26 : decode cX0_tossesToLead 26 = .ok (.isub, 1) := by decide +kernel
theorem dX0_tossesToLead_27 : decode cX0_tossesToLead 27 = .ok (.if_icmp .gt 38, 3) := by decide +kernel
theorem dX0_tossesToLead_30 : decode cX0_tossesToLead 30 = .ok (.aload_n 0, 1) := by decide +kernel
theorem dX0_tossesToLead_31 : decode cX0_tossesToLead 31 = .ok (.iload_n 2, 1) := by decide +kernel
theorem dX0_tossesToLead_32 : decode cX0_tossesToLead 32 = .ok (.iload 4, 2) := by decide +kernel
theorem dX0_tossesToLead_34 : decode cX0_tossesToLead 34 = .ok (.iadd, 1) := by decide +kernel
theorem dX0_tossesToLead_35 : decode cX0_tossesToLead 35 = .ok (.iload_n 3, 1) := by decide +kernel
theorem dX0_tossesToLead_36 : decode cX0_tossesToLead 36 = .ok (.invokevirtual 108, 3) := by decide +kernel
theorem dX0_tossesToLead_39 : decode cX0_tossesToLead 39 = .ok (.iload_n 1, 1) := by decide +kernel
theorem dX0_tossesToLead_40 : decode cX0_tossesToLead 40 = .ok (.if_icmp .eq 16, 3) := by decide +kernel
theorem dX0_tossesToLead_43 : decode cX0_tossesToLead 43 = .ok (.aload_n 0, 1) := by decide +kernel
theorem dX0_tossesToLead_44 : decode cX0_tossesToLead 44 = .ok (.iload_n 2, 1) := by decide +kernel
theorem dX0_tossesToLead_45 : decode cX0_tossesToLead 45 = .ok (.iload_n 3, 1) := by decide +kernel
theorem dX0_tossesToLead_46 : decode cX0_tossesToLead 46 = .ok (.iload 4, 2) := by decide +kernel
theorem dX0_tossesToLead_48 : decode cX0_tossesToLead 48 = .ok (.iadd, 1) := by decide +kernel
theorem dX0_tossesToLead_49 : decode cX0_tossesToLead 49 = .ok (.invokevirtual 108, 3) := by decide +kernel
theorem dX0_tossesToLead_52 : decode cX0_tossesToLead 52 = .ok (.iload_n 1, 1) := by decide +kernel
theorem dX0_tossesToLead_53 : decode cX0_tossesToLead 53 = .ok (.if_icmp .ne 6, 3) := by decide +kernel
theorem dX0_tossesToLead_56 : decode cX0_tossesToLead 56 = .ok (.iload 4, 2) := by decide +kernel
theorem dX0_tossesToLead_58 : decode cX0_tossesToLead 58 = .ok (.ireturn, 1) := by decide +kernel
theorem dX0_tossesToLead_59 : decode cX0_tossesToLead 59 = .ok (.iinc 4 1, 3) := by decide +kernel
theorem dX0_tossesToLead_62 : decode cX0_tossesToLead 62 = .ok (.goto (-44), 3) := by decide +kernel
theorem dX0_tossesToLead_65 : decode cX0_tossesToLead 65 = .ok (.iconst (-1), 1) := by decide +kernel
theorem dX0_tossesToLead_66 : decode cX0_tossesToLead 66 = .ok (.ireturn, 1) := by decide +kernel
theorem dX0_decisiveTosses_0 : decode cX0_decisiveTosses 0 = .ok (.aload_n 0, 1) := by decide +kernel
theorem dX0_decisiveTosses_1 : decode cX0_decisiveTosses 1 = .ok (.invokevirtual 69, 3) := by decide +kernel
theorem dX0_decisiveTosses_4 : decode cX0_decisiveTosses 4 = .ok (.istore_n 1, 1) := by decide +kernel
theorem dX0_decisiveTosses_5 : decode cX0_decisiveTosses 5 = .ok (.aload_n 0, 1) := by decide +kernel
theorem dX0_decisiveTosses_6 : decode cX0_decisiveTosses 6 = .ok (.invokevirtual 73, 3) := by decide +kernel
theorem dX0_decisiveTosses_9 : decode cX0_decisiveTosses 9 = .ok (.istore_n 2, 1) := by decide +kernel
theorem dX0_decisiveTosses_10 : decode cX0_decisiveTosses 10 = .ok (.aload_n 0, 1) := by decide +kernel
theorem dX0_decisiveTosses_11 : decode cX0_decisiveTosses 11 = .ok (.iload_n 1, 1) := by decide +kernel
theorem dX0_decisiveTosses_12 : decode cX0_decisiveTosses 12 = .ok (.iload_n 2, 1) := by decide +kernel
theorem dX0_decisiveTosses_13 : decode cX0_decisiveTosses 13 = .ok (.invokevirtual 108, 3) := by decide +kernel
theorem dX0_decisiveTosses_16 : decode cX0_decisiveTosses 16 = .ok (.istore_n 3, 1) := by decide +kernel
theorem dX0_decisiveTosses_17 : decode cX0_decisiveTosses 17 = .ok (.iconst 0, 1) := by decide +kernel
theorem dX0_decisiveTosses_18 : decode cX0_decisiveTosses 18 = .ok (.istore 4, 2) := by decide +kernel
theorem dX0_decisiveTosses_20 : decode cX0_decisiveTosses 20 = .ok (.iconst 0, 1) := by decide +kernel
theorem dX0_decisiveTosses_21 : decode cX0_decisiveTosses 21 = .ok (.istore 5, 2) := by decide +kernel
theorem dX0_decisiveTosses_23 : decode cX0_decisiveTosses 23 = .ok (.iload 5, 2) := by decide +kernel
theorem dX0_decisiveTosses_25 : decode cX0_decisiveTosses 25 = .ok (.aload_n 0, 1) := by decide +kernel
theorem dX0_decisiveTosses_26 : decode cX0_decisiveTosses 26 = .ok (.getfield 32, 3) := by decide +kernel
theorem dX0_decisiveTosses_29 : decode cX0_decisiveTosses 29 = .ok (.if_icmp .ge 49, 3) := by decide +kernel
theorem dX0_decisiveTosses_32 : decode cX0_decisiveTosses 32 = .ok (.aload_n 0, 1) := by decide +kernel
theorem dX0_decisiveTosses_33 : decode cX0_decisiveTosses 33 = .ok (.getfield 21, 3) := by decide +kernel
theorem dX0_decisiveTosses_36 : decode cX0_decisiveTosses 36 = .ok (.iload 5, 2) := by decide +kernel
theorem dX0_decisiveTosses_38 : decode cX0_decisiveTosses 38 = .ok (.baload, 1) := by decide +kernel
theorem dX0_decisiveTosses_39 : decode cX0_decisiveTosses 39 = .ok (.ifCond .eq 14, 3) := by decide +kernel
theorem dX0_decisiveTosses_42 : decode cX0_decisiveTosses 42 = .ok (.aload_n 0, 1) := by decide +kernel
theorem dX0_decisiveTosses_43 : decode cX0_decisiveTosses 43 = .ok (.iload_n 1, 1) := by decide +kernel
theorem dX0_decisiveTosses_44 : decode cX0_decisiveTosses 44 = .ok (.iconst 1, 1) := by decide +kernel
theorem dX0_decisiveTosses_45 : decode cX0_decisiveTosses 45 = .ok (.isub, 1) := by decide +kernel
theorem dX0_decisiveTosses_46 : decode cX0_decisiveTosses 46 = .ok (.iload_n 2, 1) := by decide +kernel
theorem dX0_decisiveTosses_47 : decode cX0_decisiveTosses 47 = .ok (.invokevirtual 108, 3) := by decide +kernel
theorem dX0_decisiveTosses_50 : decode cX0_decisiveTosses 50 = .ok (.goto 11, 3) := by decide +kernel
theorem dX0_decisiveTosses_53 : decode cX0_decisiveTosses 53 = .ok (.aload_n 0, 1) := by decide +kernel
theorem dX0_decisiveTosses_54 : decode cX0_decisiveTosses 54 = .ok (.iload_n 1, 1) := by decide +kernel
theorem dX0_decisiveTosses_55 : decode cX0_decisiveTosses 55 = .ok (.iload_n 2, 1) := by decide +kernel
theorem dX0_decisiveTosses_56 : decode cX0_decisiveTosses 56 = .ok (.iconst 1, 1) := by decide +kernel
theorem dX0_decisiveTosses_57 : decode cX0_decisiveTosses 57 = .ok (.isub, 1) := by decide +kernel
theorem dX0_decisiveTosses_58 : decode cX0_decisiveTosses 58 = .ok (.invokevirtual 108, 3) := by decide +kernel
theorem dX0_decisiveTosses_61 : decode cX0_decisiveTosses 61 = .ok (.istore 6, 2) := by decide +kernel
theorem dX0_decisiveTosses_63 : decode cX0_decisiveTosses 63 = .ok (.iload 6, 2) := by decide +kernel
theorem dX0_decisiveTosses_65 : decode cX0_decisiveTosses 65 = .ok (.iload_n 3, 1) := by decide +kernel
theorem dX0_decisiveTosses_66 : decode cX0_decisiveTosses 66 = .ok (.if_icmp .eq 6, 3) := by decide +kernel
theorem dX0_decisiveTosses_69 : decode cX0_decisiveTosses 69 = .ok (.iinc 4 1, 3) := by decide +kernel
theorem dX0_decisiveTosses_72 : decode cX0_decisiveTosses 72 = .ok (.iinc 5 1, 3) := by decide +kernel
theorem dX0_decisiveTosses_75 : decode cX0_decisiveTosses 75 = .ok (.goto (-52), 3) := by decide +kernel
theorem dX0_decisiveTosses_78 : decode cX0_decisiveTosses 78 = .ok (.iload 4, 2) := by decide +kernel
theorem dX0_decisiveTosses_80 : decode cX0_decisiveTosses 80 = .ok (.ireturn, 1) := by decide +kernel
theorem dX0_meanTenths_0 : decode cX0_meanTenths 0 = .ok (.aload_n 0, 1) := by decide +kernel
theorem dX0_meanTenths_1 : decode cX0_meanTenths 1 = .ok (.invokevirtual 100, 3) := by decide +kernel
theorem dX0_meanTenths_4 : decode cX0_meanTenths 4 = .ok (.lstore_n 1, 1) := by decide +kernel
theorem dX0_meanTenths_5 : decode cX0_meanTenths 5 = .ok (.lload_n 1, 1) := by decide +kernel
theorem dX0_meanTenths_6 : decode cX0_meanTenths 6 = .ok (.lconst 0, 1) := by decide +kernel
theorem dX0_meanTenths_7 : decode cX0_meanTenths 7 = .ok (.lcmp, 1) := by decide +kernel
theorem dX0_meanTenths_8 : decode cX0_meanTenths 8 = .ok (.ifCond .ne 13, 3) := by decide +kernel
theorem dX0_meanTenths_11 : decode cX0_meanTenths 11 = .ok (.new 42, 3) := by decide +kernel
theorem dX0_meanTenths_14 : decode cX0_meanTenths 14 = .ok (.dup, 1) := by decide +kernel
theorem dX0_meanTenths_15 : decode cX0_meanTenths 15 = .ok (.ldc 112, 2) := by decide +kernel
theorem dX0_meanTenths_17 : decode cX0_meanTenths 17 = .ok (.invokespecial 46, 3) := by decide +kernel
theorem dX0_meanTenths_20 : decode cX0_meanTenths 20 = .ok (.athrow, 1) := by decide +kernel
theorem dX0_meanTenths_21 : decode cX0_meanTenths 21 = .ok (.aload_n 0, 1) := by decide +kernel
theorem dX0_meanTenths_22 : decode cX0_meanTenths 22 = .ok (.iconst 1, 1) := by decide +kernel
theorem dX0_meanTenths_23 : decode cX0_meanTenths 23 = .ok (.aload_n 0, 1) := by decide +kernel
theorem dX0_meanTenths_24 : decode cX0_meanTenths 24 = .ok (.invokevirtual 69, 3) := by decide +kernel
theorem dX0_meanTenths_27 : decode cX0_meanTenths 27 = .ok (.aload_n 0, 1) := by decide +kernel
theorem dX0_meanTenths_28 : decode cX0_meanTenths 28 = .ok (.invokevirtual 73, 3) := by decide +kernel
theorem dX0_meanTenths_31 : decode cX0_meanTenths 31 = .ok (.invokevirtual 120, 3) := by decide +kernel
theorem dX0_meanTenths_34 : decode cX0_meanTenths 34 = .ok (.l2d, 1) := by decide +kernel
theorem dX0_meanTenths_35 : decode cX0_meanTenths 35 = .ok (.lload_n 1, 1) := by decide +kernel
theorem dX0_meanTenths_36 : decode cX0_meanTenths 36 = .ok (.l2d, 1) := by decide +kernel
theorem dX0_meanTenths_37 : decode cX0_meanTenths 37 = .ok (.ddiv, 1) := by decide +kernel
theorem dX0_meanTenths_38 : decode cX0_meanTenths 38 = .ok (.dreturn, 1) := by decide +kernel
theorem dX0_digest_0 : decode cX0_digest 0 = .ok (.ldc2_w 124, 3) := by decide +kernel
theorem dX0_digest_3 : decode cX0_digest 3 = .ok (.lstore_n 1, 1) := by decide +kernel
theorem dX0_digest_4 : decode cX0_digest 4 = .ok (.lload_n 1, 1) := by decide +kernel
theorem dX0_digest_5 : decode cX0_digest 5 = .ok (.aload_n 0, 1) := by decide +kernel
theorem dX0_digest_6 : decode cX0_digest 6 = .ok (.invokevirtual 126, 3) := by decide +kernel
theorem dX0_digest_9 : decode cX0_digest 9 = .ok (.i2l, 1) := by decide +kernel
theorem dX0_digest_10 : decode cX0_digest 10 = .ok (.invokestatic 129, 3) := by decide +kernel
theorem dX0_digest_13 : decode cX0_digest 13 = .ok (.lstore_n 1, 1) := by decide +kernel
theorem dX0_digest_14 : decode cX0_digest 14 = .ok (.lload_n 1, 1) := by decide +kernel
theorem dX0_digest_15 : decode cX0_digest 15 = .ok (.aload_n 0, 1) := by decide +kernel
theorem dX0_digest_16 : decode cX0_digest 16 = .ok (.invokevirtual 133, 3) := by decide +kernel
theorem dX0_digest_19 : decode cX0_digest 19 = .ok (.i2l, 1) := by decide +kernel
theorem dX0_digest_20 : decode cX0_digest 20 = .ok (.invokestatic 129, 3) := by decide +kernel
theorem dX0_digest_23 : decode cX0_digest 23 = .ok (.lstore_n 1, 1) := by decide +kernel
theorem dX0_digest_24 : decode cX0_digest 24 = .ok (.lload_n 1, 1) := by decide +kernel
theorem dX0_digest_25 : decode cX0_digest 25 = .ok (.aload_n 0, 1) := by decide +kernel
theorem dX0_digest_26 : decode cX0_digest 26 = .ok (.invokevirtual 136, 3) := by decide +kernel
theorem dX0_digest_29 : decode cX0_digest 29 = .ok (.i2l, 1) := by decide +kernel
theorem dX0_digest_30 : decode cX0_digest 30 = .ok (.invokestatic 129, 3) := by decide +kernel
theorem dX0_digest_33 : decode cX0_digest 33 = .ok (.lstore_n 1, 1) := by decide +kernel
theorem dX0_digest_34 : decode cX0_digest 34 = .ok (.lload_n 1, 1) := by decide +kernel
theorem dX0_digest_35 : decode cX0_digest 35 = .ok (.aload_n 0, 1) := by decide +kernel
theorem dX0_digest_36 : decode cX0_digest 36 = .ok (.invokevirtual 139, 3) := by decide +kernel
theorem dX0_digest_39 : decode cX0_digest 39 = .ok (.i2l, 1) := by decide +kernel
theorem dX0_digest_40 : decode cX0_digest 40 = .ok (.invokestatic 129, 3) := by decide +kernel
theorem dX0_digest_43 : decode cX0_digest 43 = .ok (.lstore_n 1, 1) := by decide +kernel
theorem dX0_digest_44 : decode cX0_digest 44 = .ok (.lload_n 1, 1) := by decide +kernel
theorem dX0_digest_45 : decode cX0_digest 45 = .ok (.aload_n 0, 1) := by decide +kernel
theorem dX0_digest_46 : decode cX0_digest 46 = .ok (.invokevirtual 142, 3) := by decide +kernel
theorem dX0_digest_49 : decode cX0_digest 49 = .ok (.invokestatic 129, 3) := by decide +kernel
theorem dX0_digest_52 : decode cX0_digest 52 = .ok (.lstore_n 1, 1) := by decide +kernel
theorem dX0_digest_53 : decode cX0_digest 53 = .ok (.lload_n 1, 1) := by decide +kernel
theorem dX0_digest_54 : decode cX0_digest 54 = .ok (.aload_n 0, 1) := by decide +kernel
theorem dX0_digest_55 : decode cX0_digest 55 = .ok (.invokevirtual 145, 3) := by decide +kernel
theorem dX0_digest_58 : decode cX0_digest 58 = .ok (.i2l, 1) := by decide +kernel
theorem dX0_digest_59 : decode cX0_digest 59 = .ok (.invokestatic 129, 3) := by decide +kernel
theorem dX0_digest_62 : decode cX0_digest 62 = .ok (.lstore_n 1, 1) := by decide +kernel
theorem dX0_digest_63 : decode cX0_digest 63 = .ok (.lload_n 1, 1) := by decide +kernel
theorem dX0_digest_64 : decode cX0_digest 64 = .ok (.aload_n 0, 1) := by decide +kernel
theorem dX0_digest_65 : decode cX0_digest 65 = .ok (.invokevirtual 148, 3) := by decide +kernel
theorem dX0_digest_68 : decode cX0_digest 68 = .ok (.i2l, 1) := by decide +kernel
theorem dX0_digest_69 : decode cX0_digest 69 = .ok (.invokestatic 129, 3) := by decide +kernel
theorem dX0_digest_72 : decode cX0_digest 72 = .ok (.lstore_n 1, 1) := by decide +kernel
theorem dX0_digest_73 : decode cX0_digest 73 = .ok (.lload_n 1, 1) := by decide +kernel
theorem dX0_digest_74 : decode cX0_digest 74 = .ok (.aload_n 0, 1) := by decide +kernel
theorem dX0_digest_75 : decode cX0_digest 75 = .ok (.invokevirtual 151, 3) := by decide +kernel
theorem dX0_digest_78 : decode cX0_digest 78 = .ok (.i2l, 1) := by decide +kernel
theorem dX0_digest_79 : decode cX0_digest 79 = .ok (.invokestatic 129, 3) := by decide +kernel
theorem dX0_digest_82 : decode cX0_digest 82 = .ok (.lstore_n 1, 1) := by decide +kernel
theorem dX0_digest_83 : decode cX0_digest 83 = .ok (.aload_n 0, 1) := by decide +kernel
theorem dX0_digest_84 : decode cX0_digest 84 = .ok (.lload_n 1, 1) := by decide +kernel
theorem dX0_digest_85 : decode cX0_digest 85 = .ok (.invokevirtual 154, 3) := by decide +kernel
theorem dX0_digest_88 : decode cX0_digest 88 = .ok (.lstore_n 1, 1) := by decide +kernel
theorem dX0_digest_89 : decode cX0_digest 89 = .ok (.aload_n 0, 1) := by decide +kernel
theorem dX0_digest_90 : decode cX0_digest 90 = .ok (.lload_n 1, 1) := by decide +kernel
theorem dX0_digest_91 : decode cX0_digest 91 = .ok (.invokevirtual 158, 3) := by decide +kernel
theorem dX0_digest_94 : decode cX0_digest 94 = .ok (.lstore_n 1, 1) := by decide +kernel
theorem dX0_digest_95 : decode cX0_digest 95 = .ok (.aload_n 0, 1) := by decide +kernel
theorem dX0_digest_96 : decode cX0_digest 96 = .ok (.lload_n 1, 1) := by decide +kernel
theorem dX0_digest_97 : decode cX0_digest 97 = .ok (.invokevirtual 161, 3) := by decide +kernel
theorem dX0_digest_100 : decode cX0_digest 100 = .ok (.lreturn, 1) := by decide +kernel
theorem dX0_needCoin_0 : decode cX0_needCoin 0 = .ok (.iload_n 1, 1) := by decide +kernel
theorem dX0_needCoin_1 : decode cX0_needCoin 1 = .ok (.ifCond .lt 11, 3) := by decide +kernel
theorem dX0_needCoin_4 : decode cX0_needCoin 4 = .ok (.iload_n 1, 1) := by decide +kernel
theorem dX0_needCoin_5 : decode cX0_needCoin 5 = .ok (.aload_n 0, 1) := by decide +kernel
theorem dX0_needCoin_6 : decode cX0_needCoin 6 = .ok (.getfield 25, 3) := by decide +kernel
theorem dX0_needCoin_9 : decode cX0_needCoin 9 = .ok (.if_icmp .lt 13, 3) := by decide +kernel
theorem dX0_needCoin_12 : decode cX0_needCoin 12 = .ok (.new 164, 3) := by decide +kernel
theorem dX0_needCoin_15 : decode cX0_needCoin 15 = .ok (.dup, 1) := by decide +kernel
theorem dX0_needCoin_16 : decode cX0_needCoin 16 = .ok (.ldc 166, 2) := by decide +kernel
theorem dX0_needCoin_18 : decode cX0_needCoin 18 = .ok (.invokespecial 168, 3) := by decide +kernel
theorem dX0_needCoin_21 : decode cX0_needCoin 21 = .ok (.athrow, 1) := by decide +kernel
theorem dX0_needCoin_22 : decode cX0_needCoin 22 = .ok (.return_, 1) := by decide +kernel
theorem dX0_needSchool_0 : decode cX0_needSchool 0 = .ok (.iload_n 1, 1) := by decide +kernel
theorem dX0_needSchool_1 : decode cX0_needSchool 1 = .ok (.ifCond .lt 11, 3) := by decide +kernel
theorem dX0_needSchool_4 : decode cX0_needSchool 4 = .ok (.iload_n 1, 1) := by decide +kernel
theorem dX0_needSchool_5 : decode cX0_needSchool 5 = .ok (.aload_n 0, 1) := by decide +kernel
theorem dX0_needSchool_6 : decode cX0_needSchool 6 = .ok (.getfield 29, 3) := by decide +kernel
theorem dX0_needSchool_9 : decode cX0_needSchool 9 = .ok (.if_icmp .lt 13, 3) := by decide +kernel
theorem dX0_needSchool_12 : decode cX0_needSchool 12 = .ok (.new 164, 3) := by decide +kernel
theorem dX0_needSchool_15 : decode cX0_needSchool 15 = .ok (.dup, 1) := by decide +kernel
theorem dX0_needSchool_16 : decode cX0_needSchool 16 = .ok (.ldc 169, 2) := by decide +kernel
theorem dX0_needSchool_18 : decode cX0_needSchool 18 = .ok (.invokespecial 168, 3) := by decide +kernel
theorem dX0_needSchool_21 : decode cX0_needSchool 21 = .ok (.athrow, 1) := by decide +kernel
theorem dX0_needSchool_22 : decode cX0_needSchool 22 = .ok (.return_, 1) := by decide +kernel
theorem dX0_needToss_0 : decode cX0_needToss 0 = .ok (.iload_n 1, 1) := by decide +kernel
theorem dX0_needToss_1 : decode cX0_needToss 1 = .ok (.ifCond .lt 11, 3) := by decide +kernel
theorem dX0_needToss_4 : decode cX0_needToss 4 = .ok (.iload_n 1, 1) := by decide +kernel
theorem dX0_needToss_5 : decode cX0_needToss 5 = .ok (.aload_n 0, 1) := by decide +kernel
theorem dX0_needToss_6 : decode cX0_needToss 6 = .ok (.getfield 32, 3) := by decide +kernel
theorem dX0_needToss_9 : decode cX0_needToss 9 = .ok (.if_icmp .lt 13, 3) := by decide +kernel
theorem dX0_needToss_12 : decode cX0_needToss 12 = .ok (.new 164, 3) := by decide +kernel
theorem dX0_needToss_15 : decode cX0_needToss 15 = .ok (.dup, 1) := by decide +kernel
theorem dX0_needToss_16 : decode cX0_needToss 16 = .ok (.ldc 171, 2) := by decide +kernel
theorem dX0_needToss_18 : decode cX0_needToss 18 = .ok (.invokespecial 168, 3) := by decide +kernel
theorem dX0_needToss_21 : decode cX0_needToss 21 = .ok (.athrow, 1) := by decide +kernel
theorem dX0_needToss_22 : decode cX0_needToss 22 = .ok (.return_, 1) := by decide +kernel
theorem dX0_needNoTosses_0 : decode cX0_needNoTosses 0 = .ok (.aload_n 0, 1) := by decide +kernel
theorem dX0_needNoTosses_1 : decode cX0_needNoTosses 1 = .ok (.getfield 32, 3) := by decide +kernel
theorem dX0_needNoTosses_4 : decode cX0_needNoTosses 4 = .ok (.ifCond .le 13, 3) := by decide +kernel
theorem dX0_needNoTosses_7 : decode cX0_needNoTosses 7 = .ok (.new 42, 3) := by decide +kernel
theorem dX0_needNoTosses_10 : decode cX0_needNoTosses 10 = .ok (.dup, 1) := by decide +kernel
theorem dX0_needNoTosses_11 : decode cX0_needNoTosses 11 = .ok (.ldc 173, 2) := by decide +kernel
theorem dX0_needNoTosses_13 : decode cX0_needNoTosses 13 = .ok (.invokespecial 46, 3) := by decide +kernel
theorem dX0_needNoTosses_16 : decode cX0_needNoTosses 16 = .ok (.athrow, 1) := by decide +kernel
theorem dX0_needNoTosses_17 : decode cX0_needNoTosses 17 = .ok (.return_, 1) := by decide +kernel
theorem dX0_needPossible_0 : decode cX0_needPossible 0 = .ok (.aload_n 0, 1) := by decide +kernel
theorem dX0_needPossible_1 : decode cX0_needPossible 1 = .ok (.iload_n 1, 1) := by decide +kernel
theorem dX0_needPossible_2 : decode cX0_needPossible 2 = .ok (.aload_n 0, 1) := by decide +kernel
theorem dX0_needPossible_3 : decode cX0_needPossible 3 = .ok (.invokevirtual 69, 3) := by decide +kernel
theorem dX0_needPossible_6 : decode cX0_needPossible 6 = .ok (.aload_n 0, 1) := by decide +kernel
theorem dX0_needPossible_7 : decode cX0_needPossible 7 = .ok (.invokevirtual 73, 3) := by decide +kernel
theorem dX0_needPossible_10 : decode cX0_needPossible 10 = .ok (.invokevirtual 120, 3) := by decide +kernel
theorem dX0_needPossible_13 : decode cX0_needPossible 13 = .ok (.lconst 0, 1) := by decide +kernel
theorem dX0_needPossible_14 : decode cX0_needPossible 14 = .ok (.lcmp, 1) := by decide +kernel
theorem dX0_needPossible_15 : decode cX0_needPossible 15 = .ok (.ifCond .ne 13, 3) := by decide +kernel
theorem dX0_needPossible_18 : decode cX0_needPossible 18 = .ok (.new 42, 3) := by decide +kernel
theorem dX0_needPossible_21 : decode cX0_needPossible 21 = .ok (.dup, 1) := by decide +kernel
theorem dX0_needPossible_22 : decode cX0_needPossible 22 = .ok (.ldc 175, 2) := by decide +kernel
theorem dX0_needPossible_24 : decode cX0_needPossible 24 = .ok (.invokespecial 46, 3) := by decide +kernel
theorem dX0_needPossible_27 : decode cX0_needPossible 27 = .ok (.athrow, 1) := by decide +kernel
theorem dX0_needPossible_28 : decode cX0_needPossible 28 = .ok (.return_, 1) := by decide +kernel
theorem dX0_headsAhead_0 : decode cX0_headsAhead 0 = .ok (.iconst 0, 1) := by decide +kernel
theorem dX0_headsAhead_1 : decode cX0_headsAhead 1 = .ok (.istore_n 2, 1) := by decide +kernel
theorem dX0_headsAhead_2 : decode cX0_headsAhead 2 = .ok (.iconst 0, 1) := by decide +kernel
theorem dX0_headsAhead_3 : decode cX0_headsAhead 3 = .ok (.istore_n 3, 1) := by decide +kernel
theorem dX0_headsAhead_4 : decode cX0_headsAhead 4 = .ok (.iload_n 3, 1) := by decide +kernel
theorem dX0_headsAhead_5 : decode cX0_headsAhead 5 = .ok (.iload_n 1, 1) := by decide +kernel
theorem dX0_headsAhead_6 : decode cX0_headsAhead 6 = .ok (.if_icmp .ge 21, 3) := by decide +kernel
theorem dX0_headsAhead_9 : decode cX0_headsAhead 9 = .ok (.aload_n 0, 1) := by decide +kernel
theorem dX0_headsAhead_10 : decode cX0_headsAhead 10 = .ok (.getfield 21, 3) := by decide +kernel
theorem dX0_headsAhead_13 : decode cX0_headsAhead 13 = .ok (.iload_n 3, 1) := by decide +kernel
theorem dX0_headsAhead_14 : decode cX0_headsAhead 14 = .ok (.baload, 1) := by decide +kernel
theorem dX0_headsAhead_15 : decode cX0_headsAhead 15 = .ok (.ifCond .eq 6, 3) := by decide +kernel
theorem dX0_headsAhead_18 : decode cX0_headsAhead 18 = .ok (.iinc 2 1, 3) := by decide +kernel
theorem dX0_headsAhead_21 : decode cX0_headsAhead 21 = .ok (.iinc 3 1, 3) := by decide +kernel
theorem dX0_headsAhead_24 : decode cX0_headsAhead 24 = .ok (.goto (-20), 3) := by decide +kernel
theorem dX0_headsAhead_27 : decode cX0_headsAhead 27 = .ok (.iload_n 2, 1) := by decide +kernel
theorem dX0_headsAhead_28 : decode cX0_headsAhead 28 = .ok (.ireturn, 1) := by decide +kernel
theorem dX0_headsNow_0 : decode cX0_headsNow 0 = .ok (.aload_n 0, 1) := by decide +kernel
theorem dX0_headsNow_1 : decode cX0_headsNow 1 = .ok (.aload_n 0, 1) := by decide +kernel
theorem dX0_headsNow_2 : decode cX0_headsNow 2 = .ok (.getfield 32, 3) := by decide +kernel
theorem dX0_headsNow_5 : decode cX0_headsNow 5 = .ok (.invokevirtual 177, 3) := by decide +kernel
theorem dX0_headsNow_8 : decode cX0_headsNow 8 = .ok (.ireturn, 1) := by decide +kernel
theorem dX0_tailsNow_0 : decode cX0_tailsNow 0 = .ok (.aload_n 0, 1) := by decide +kernel
theorem dX0_tailsNow_1 : decode cX0_tailsNow 1 = .ok (.getfield 32, 3) := by decide +kernel
theorem dX0_tailsNow_4 : decode cX0_tailsNow 4 = .ok (.aload_n 0, 1) := by decide +kernel
theorem dX0_tailsNow_5 : decode cX0_tailsNow 5 = .ok (.aload_n 0, 1) := by decide +kernel
theorem dX0_tailsNow_6 : decode cX0_tailsNow 6 = .ok (.getfield 32, 3) := by decide +kernel
theorem dX0_tailsNow_9 : decode cX0_tailsNow 9 = .ok (.invokevirtual 177, 3) := by decide +kernel
theorem dX0_tailsNow_12 : decode cX0_tailsNow 12 = .ok (.isub, 1) := by decide +kernel
theorem dX0_tailsNow_13 : decode cX0_tailsNow 13 = .ok (.ireturn, 1) := by decide +kernel
theorem dX0_startWeight_0 : decode cX0_startWeight 0 = .ok (.aload_n 0, 1) := by decide +kernel
theorem dX0_startWeight_1 : decode cX0_startWeight 1 = .ok (.getfield 13, 3) := by decide +kernel
theorem dX0_startWeight_4 : decode cX0_startWeight 4 = .ok (.iload_n 1, 1) := by decide +kernel
theorem dX0_startWeight_5 : decode cX0_startWeight 5 = .ok (.iaload, 1) := by decide +kernel
theorem dX0_startWeight_6 : decode cX0_startWeight 6 = .ok (.i2l, 1) := by decide +kernel
theorem dX0_startWeight_7 : decode cX0_startWeight 7 = .ok (.aload_n 0, 1) := by decide +kernel
theorem dX0_startWeight_8 : decode cX0_startWeight 8 = .ok (.getfield 18, 3) := by decide +kernel
theorem dX0_startWeight_11 : decode cX0_startWeight 11 = .ok (.iload_n 1, 1) := by decide +kernel
theorem dX0_startWeight_12 : decode cX0_startWeight 12 = .ok (.aaload, 1) := by decide +kernel
theorem dX0_startWeight_13 : decode cX0_startWeight 13 = .ok (.iload_n 2, 1) := by decide +kernel
theorem dX0_startWeight_14 : decode cX0_startWeight 14 = .ok (.iaload, 1) := by decide +kernel
theorem dX0_startWeight_15 : decode cX0_startWeight 15 = .ok (.i2l, 1) := by decide +kernel
theorem dX0_startWeight_16 : decode cX0_startWeight 16 = .ok (.lmul, 1) := by decide +kernel
theorem dX0_startWeight_17 : decode cX0_startWeight 17 = .ok (.lreturn, 1) := by decide +kernel
theorem dX0_likelihood_0 : decode cX0_likelihood 0 = .ok (.aload_n 0, 1) := by decide +kernel
theorem dX0_likelihood_1 : decode cX0_likelihood 1 = .ok (.getfield 9, 3) := by decide +kernel
theorem dX0_likelihood_4 : decode cX0_likelihood 4 = .ok (.iload_n 1, 1) := by decide +kernel
theorem dX0_likelihood_5 : decode cX0_likelihood 5 = .ok (.iaload, 1) := by decide +kernel
theorem dX0_likelihood_6 : decode cX0_likelihood 6 = .ok (.istore 4, 2) := by decide +kernel
theorem dX0_likelihood_8 : decode cX0_likelihood 8 = .ok (.lconst 1, 1) := by decide +kernel
theorem dX0_likelihood_9 : decode cX0_likelihood 9 = .ok (.lstore 5, 2) := by decide +kernel
theorem dX0_likelihood_11 : decode cX0_likelihood 11 = .ok (.iconst 0, 1) := by decide +kernel
theorem dX0_likelihood_12 : decode cX0_likelihood 12 = .ok (.istore 7, 2) := by decide +kernel
theorem dX0_likelihood_14 : decode cX0_likelihood 14 = .ok (.iload 7, 2) := by decide +kernel
theorem dX0_likelihood_16 : decode cX0_likelihood 16 = .ok (.iload_n 2, 1) := by decide +kernel
theorem dX0_likelihood_17 : decode cX0_likelihood 17 = .ok (.if_icmp .ge 17, 3) := by decide +kernel
theorem dX0_likelihood_20 : decode cX0_likelihood 20 = .ok (.lload 5, 2) := by decide +kernel
theorem dX0_likelihood_22 : decode cX0_likelihood 22 = .ok (.iload 4, 2) := by decide +kernel
theorem dX0_likelihood_24 : decode cX0_likelihood 24 = .ok (.i2l, 1) := by decide +kernel
theorem dX0_likelihood_25 : decode cX0_likelihood 25 = .ok (.lmul, 1) := by decide +kernel
theorem dX0_likelihood_26 : decode cX0_likelihood 26 = .ok (.lstore 5, 2) := by decide +kernel
theorem dX0_likelihood_28 : decode cX0_likelihood 28 = .ok (.iinc 7 1, 3) := by decide +kernel
theorem dX0_likelihood_31 : decode cX0_likelihood 31 = .ok (.goto (-17), 3) := by decide +kernel
theorem dX0_likelihood_34 : decode cX0_likelihood 34 = .ok (.iconst 0, 1) := by decide +kernel
theorem dX0_likelihood_35 : decode cX0_likelihood 35 = .ok (.istore 7, 2) := by decide +kernel
theorem dX0_likelihood_37 : decode cX0_likelihood 37 = .ok (.iload 7, 2) := by decide +kernel
theorem dX0_likelihood_39 : decode cX0_likelihood 39 = .ok (.iload_n 3, 1) := by decide +kernel
theorem dX0_likelihood_40 : decode cX0_likelihood 40 = .ok (.if_icmp .ge 20, 3) := by decide +kernel
theorem dX0_likelihood_43 : decode cX0_likelihood 43 = .ok (.lload 5, 2) := by decide +kernel
theorem dX0_likelihood_45 : decode cX0_likelihood 45 = .ok (.bipush 10, 2) := by decide +kernel
theorem dX0_likelihood_47 : decode cX0_likelihood 47 = .ok (.iload 4, 2) := by decide +kernel
theorem dX0_likelihood_49 : decode cX0_likelihood 49 = .ok (.isub, 1) := by decide +kernel
theorem dX0_likelihood_50 : decode cX0_likelihood 50 = .ok (.i2l, 1) := by decide +kernel
theorem dX0_likelihood_51 : decode cX0_likelihood 51 = .ok (.lmul, 1) := by decide +kernel
theorem dX0_likelihood_52 : decode cX0_likelihood 52 = .ok (.lstore 5, 2) := by decide +kernel
theorem dX0_likelihood_54 : decode cX0_likelihood 54 = .ok (.iinc 7 1, 3) := by decide +kernel
theorem dX0_likelihood_57 : decode cX0_likelihood 57 = .ok (.goto (-20), 3) := by decide +kernel
theorem dX0_likelihood_60 : decode cX0_likelihood 60 = .ok (.lload 5, 2) := by decide +kernel
theorem dX0_likelihood_62 : decode cX0_likelihood 62 = .ok (.lreturn, 1) := by decide +kernel
theorem dX0_coinWeightAt_0 : decode cX0_coinWeightAt 0 = .ok (.lconst 0, 1) := by decide +kernel
theorem dX0_coinWeightAt_1 : decode cX0_coinWeightAt 1 = .ok (.lstore 4, 2) := by decide +kernel
theorem dX0_coinWeightAt_3 : decode cX0_coinWeightAt 3 = .ok (.iconst 0, 1) := by decide +kernel
theorem dX0_coinWeightAt_4 : decode cX0_coinWeightAt 4 = .ok (.istore 6, 2) := by decide +kernel
theorem dX0_coinWeightAt_6 : decode cX0_coinWeightAt 6 = .ok (.iload 6, 2) := by decide +kernel
theorem dX0_coinWeightAt_8 : decode cX0_coinWeightAt 8 = .ok (.aload_n 0, 1) := by decide +kernel
theorem dX0_coinWeightAt_9 : decode cX0_coinWeightAt 9 = .ok (.getfield 29, 3) := by decide +kernel
theorem dX0_coinWeightAt_12 : decode cX0_coinWeightAt 12 = .ok (.if_icmp .ge 21, 3) := by decide +kernel
theorem dX0_coinWeightAt_15 : decode cX0_coinWeightAt 15 = .ok (.lload 4, 2) := by decide +kernel
theorem dX0_coinWeightAt_17 : decode cX0_coinWeightAt 17 = .ok (.aload_n 0, 1) := by decide +kernel
theorem dX0_coinWeightAt_18 : decode cX0_coinWeightAt 18 = .ok (.iload 6, 2) := by decide +kernel
theorem dX0_coinWeightAt_20 : decode cX0_coinWeightAt 20 = .ok (.iload_n 1, 1) := by decide +kernel
theorem dX0_coinWeightAt_21 : decode cX0_coinWeightAt 21 = .ok (.invokevirtual 85, 3) := by decide +kernel
theorem dX0_coinWeightAt_24 : decode cX0_coinWeightAt 24 = .ok (.ladd, 1) := by decide +kernel
theorem dX0_coinWeightAt_25 : decode cX0_coinWeightAt 25 = .ok (.lstore 4, 2) := by decide +kernel
theorem dX0_coinWeightAt_27 : decode cX0_coinWeightAt 27 = .ok (.iinc 6 1, 3) := by decide +kernel
theorem dX0_coinWeightAt_30 : decode cX0_coinWeightAt 30 = .ok (.goto (-24), 3) := by decide +kernel
theorem dX0_coinWeightAt_33 : decode cX0_coinWeightAt 33 = .ok (.lload 4, 2) := by decide +kernel
theorem dX0_coinWeightAt_35 : decode cX0_coinWeightAt 35 = .ok (.aload_n 0, 1) := by decide +kernel
theorem dX0_coinWeightAt_36 : decode cX0_coinWeightAt 36 = .ok (.iload_n 1, 1) := by decide +kernel
theorem dX0_coinWeightAt_37 : decode cX0_coinWeightAt 37 = .ok (.iload_n 2, 1) := by decide +kernel
theorem dX0_coinWeightAt_38 : decode cX0_coinWeightAt 38 = .ok (.iload_n 3, 1) := by decide +kernel
theorem dX0_coinWeightAt_39 : decode cX0_coinWeightAt 39 = .ok (.invokevirtual 89, 3) := by decide +kernel
theorem dX0_coinWeightAt_42 : decode cX0_coinWeightAt 42 = .ok (.lmul, 1) := by decide +kernel
theorem dX0_coinWeightAt_43 : decode cX0_coinWeightAt 43 = .ok (.lreturn, 1) := by decide +kernel
theorem dX0_schoolWeightNow_0 : decode cX0_schoolWeightNow 0 = .ok (.aload_n 0, 1) := by decide +kernel
theorem dX0_schoolWeightNow_1 : decode cX0_schoolWeightNow 1 = .ok (.invokevirtual 69, 3) := by decide +kernel
theorem dX0_schoolWeightNow_4 : decode cX0_schoolWeightNow 4 = .ok (.istore_n 2, 1) := by decide +kernel
theorem dX0_schoolWeightNow_5 : decode cX0_schoolWeightNow 5 = .ok (.aload_n 0, 1) := by decide +kernel
theorem dX0_schoolWeightNow_6 : decode cX0_schoolWeightNow 6 = .ok (.invokevirtual 73, 3) := by decide +kernel
theorem dX0_schoolWeightNow_9 : decode cX0_schoolWeightNow 9 = .ok (.istore_n 3, 1) := by decide +kernel
theorem dX0_schoolWeightNow_10 : decode cX0_schoolWeightNow 10 = .ok (.lconst 0, 1) := by decide +kernel
theorem dX0_schoolWeightNow_11 : decode cX0_schoolWeightNow 11 = .ok (.lstore 4, 2) := by decide +kernel
theorem dX0_schoolWeightNow_13 : decode cX0_schoolWeightNow 13 = .ok (.iconst 0, 1) := by decide +kernel
theorem dX0_schoolWeightNow_14 : decode cX0_schoolWeightNow 14 = .ok (.istore 6, 2) := by decide +kernel
theorem dX0_schoolWeightNow_16 : decode cX0_schoolWeightNow 16 = .ok (.iload 6, 2) := by decide +kernel
theorem dX0_schoolWeightNow_18 : decode cX0_schoolWeightNow 18 = .ok (.aload_n 0, 1) := by decide +kernel
theorem dX0_schoolWeightNow_19 : decode cX0_schoolWeightNow 19 = .ok (.getfield 25, 3) := by decide +kernel
theorem dX0_schoolWeightNow_22 : decode cX0_schoolWeightNow 22 = .ok (.if_icmp .ge 30, 3) := by decide +kernel
theorem dX0_schoolWeightNow_25 : decode cX0_schoolWeightNow 25 = .ok (.lload 4, 2) := by decide +kernel
theorem dX0_schoolWeightNow_27 : decode cX0_schoolWeightNow 27 = .ok (.aload_n 0, 1) := by decide +kernel
theorem dX0_schoolWeightNow_28 : decode cX0_schoolWeightNow 28 = .ok (.iload_n 1, 1) := by decide +kernel
theorem dX0_schoolWeightNow_29 : decode cX0_schoolWeightNow 29 = .ok (.iload 6, 2) := by decide +kernel
theorem dX0_schoolWeightNow_31 : decode cX0_schoolWeightNow 31 = .ok (.invokevirtual 85, 3) := by decide +kernel
theorem dX0_schoolWeightNow_34 : decode cX0_schoolWeightNow 34 = .ok (.aload_n 0, 1) := by decide +kernel
theorem dX0_schoolWeightNow_35 : decode cX0_schoolWeightNow 35 = .ok (.iload 6, 2) := by decide +kernel
theorem dX0_schoolWeightNow_37 : decode cX0_schoolWeightNow 37 = .ok (.iload_n 2, 1) := by decide +kernel
theorem dX0_schoolWeightNow_38 : decode cX0_schoolWeightNow 38 = .ok (.iload_n 3, 1) := by decide +kernel
theorem dX0_schoolWeightNow_39 : decode cX0_schoolWeightNow 39 = .ok (.invokevirtual 89, 3) := by decide +kernel
theorem dX0_schoolWeightNow_42 : decode cX0_schoolWeightNow 42 = .ok (.lmul, 1) := by decide +kernel
theorem dX0_schoolWeightNow_43 : decode cX0_schoolWeightNow 43 = .ok (.ladd, 1) := by decide +kernel
theorem dX0_schoolWeightNow_44 : decode cX0_schoolWeightNow 44 = .ok (.lstore 4, 2) := by decide +kernel
theorem dX0_schoolWeightNow_46 : decode cX0_schoolWeightNow 46 = .ok (.iinc 6 1, 3) := by decide +kernel
theorem dX0_schoolWeightNow_49 : decode cX0_schoolWeightNow 49 = .ok (.goto (-33), 3) := by decide +kernel
theorem dX0_schoolWeightNow_52 : decode cX0_schoolWeightNow 52 = .ok (.lload 4, 2) := by decide +kernel
theorem dX0_schoolWeightNow_54 : decode cX0_schoolWeightNow 54 = .ok (.lreturn, 1) := by decide +kernel
theorem dX0_wholeAt_0 : decode cX0_wholeAt 0 = .ok (.lconst 0, 1) := by decide +kernel
theorem dX0_wholeAt_1 : decode cX0_wholeAt 1 = .ok (.lstore_n 3, 1) := by decide +kernel
theorem dX0_wholeAt_2 : decode cX0_wholeAt 2 = .ok (.iconst 0, 1) := by decide +kernel
theorem dX0_wholeAt_3 : decode cX0_wholeAt 3 = .ok (.istore 5, 2) := by decide +kernel
theorem dX0_wholeAt_5 : decode cX0_wholeAt 5 = .ok (.iload 5, 2) := by decide +kernel
theorem dX0_wholeAt_7 : decode cX0_wholeAt 7 = .ok (.aload_n 0, 1) := by decide +kernel
theorem dX0_wholeAt_8 : decode cX0_wholeAt 8 = .ok (.getfield 25, 3) := by decide +kernel
theorem dX0_wholeAt_11 : decode cX0_wholeAt 11 = .ok (.if_icmp .ge 20, 3) := by decide +kernel
theorem dX0_wholeAt_14 : decode cX0_wholeAt 14 = .ok (.lload_n 3, 1) := by decide +kernel
theorem dX0_wholeAt_15 : decode cX0_wholeAt 15 = .ok (.aload_n 0, 1) := by decide +kernel
theorem dX0_wholeAt_16 : decode cX0_wholeAt 16 = .ok (.iload 5, 2) := by decide +kernel
theorem dX0_wholeAt_18 : decode cX0_wholeAt 18 = .ok (.iload_n 1, 1) := by decide +kernel
theorem dX0_wholeAt_19 : decode cX0_wholeAt 19 = .ok (.iload_n 2, 1) := by decide +kernel
theorem dX0_wholeAt_20 : decode cX0_wholeAt 20 = .ok (.invokevirtual 93, 3) := by decide +kernel
theorem dX0_wholeAt_23 : decode cX0_wholeAt 23 = .ok (.ladd, 1) := by decide +kernel
theorem dX0_wholeAt_24 : decode cX0_wholeAt 24 = .ok (.lstore_n 3, 1) := by decide +kernel
theorem dX0_wholeAt_25 : decode cX0_wholeAt 25 = .ok (.iinc 5 1, 3) := by decide +kernel
theorem dX0_wholeAt_28 : decode cX0_wholeAt 28 = .ok (.goto (-23), 3) := by decide +kernel
theorem dX0_wholeAt_31 : decode cX0_wholeAt 31 = .ok (.lload_n 3, 1) := by decide +kernel
theorem dX0_wholeAt_32 : decode cX0_wholeAt 32 = .ok (.lreturn, 1) := by decide +kernel
theorem dX0_wholeNow_0 : decode cX0_wholeNow 0 = .ok (.aload_n 0, 1) := by decide +kernel
theorem dX0_wholeNow_1 : decode cX0_wholeNow 1 = .ok (.aload_n 0, 1) := by decide +kernel
theorem dX0_wholeNow_2 : decode cX0_wholeNow 2 = .ok (.invokevirtual 69, 3) := by decide +kernel
theorem dX0_wholeNow_5 : decode cX0_wholeNow 5 = .ok (.aload_n 0, 1) := by decide +kernel
theorem dX0_wholeNow_6 : decode cX0_wholeNow 6 = .ok (.invokevirtual 73, 3) := by decide +kernel
theorem dX0_wholeNow_9 : decode cX0_wholeNow 9 = .ok (.invokevirtual 180, 3) := by decide +kernel
theorem dX0_wholeNow_12 : decode cX0_wholeNow 12 = .ok (.lreturn, 1) := by decide +kernel
theorem dX0_leaderAt_0 : decode cX0_leaderAt 0 = .ok (.iconst (-1), 1) := by decide +kernel
theorem dX0_leaderAt_1 : decode cX0_leaderAt 1 = .ok (.istore_n 3, 1) := by decide +kernel
theorem dX0_leaderAt_2 : decode cX0_leaderAt 2 = .ok (.lconst 0, 1) := by decide +kernel
theorem dX0_leaderAt_3 : decode cX0_leaderAt 3 = .ok (.lstore 4, 2) := by decide +kernel
theorem dX0_leaderAt_5 : decode cX0_leaderAt 5 = .ok (.iconst 0, 1) := by decide +kernel
theorem dX0_leaderAt_6 : decode cX0_leaderAt 6 = .ok (.istore 6, 2) := by decide +kernel
theorem dX0_leaderAt_8 : decode cX0_leaderAt 8 = .ok (.iload 6, 2) := by decide +kernel
theorem dX0_leaderAt_10 : decode cX0_leaderAt 10 = .ok (.aload_n 0, 1) := by decide +kernel
theorem dX0_leaderAt_11 : decode cX0_leaderAt 11 = .ok (.getfield 25, 3) := by decide +kernel
theorem dX0_leaderAt_14 : decode cX0_leaderAt 14 = .ok (.if_icmp .ge 34, 3) := by decide +kernel
theorem dX0_leaderAt_17 : decode cX0_leaderAt 17 = .ok (.aload_n 0, 1) := by decide +kernel
theorem dX0_leaderAt_18 : decode cX0_leaderAt 18 = .ok (.iload 6, 2) := by decide +kernel
theorem dX0_leaderAt_20 : decode cX0_leaderAt 20 = .ok (.iload_n 1, 1) := by decide +kernel
theorem dX0_leaderAt_21 : decode cX0_leaderAt 21 = .ok (.iload_n 2, 1) := by decide +kernel
theorem dX0_leaderAt_22 : decode cX0_leaderAt 22 = .ok (.invokevirtual 93, 3) := by decide +kernel
theorem dX0_leaderAt_25 : decode cX0_leaderAt 25 = .ok (.lstore 7, 2) := by decide +kernel
theorem dX0_leaderAt_27 : decode cX0_leaderAt 27 = .ok (.lload 7, 2) := by decide +kernel
theorem dX0_leaderAt_29 : decode cX0_leaderAt 29 = .ok (.lload 4, 2) := by decide +kernel
theorem dX0_leaderAt_31 : decode cX0_leaderAt 31 = .ok (.lcmp, 1) := by decide +kernel
theorem dX0_leaderAt_32 : decode cX0_leaderAt 32 = .ok (.ifCond .le 10, 3) := by decide +kernel
theorem dX0_leaderAt_35 : decode cX0_leaderAt 35 = .ok (.lload 7, 2) := by decide +kernel
theorem dX0_leaderAt_37 : decode cX0_leaderAt 37 = .ok (.lstore 4, 2) := by decide +kernel
theorem dX0_leaderAt_39 : decode cX0_leaderAt 39 = .ok (.iload 6, 2) := by decide +kernel
theorem dX0_leaderAt_41 : decode cX0_leaderAt 41 = .ok (.istore_n 3, 1) := by decide +kernel
theorem dX0_leaderAt_42 : decode cX0_leaderAt 42 = .ok (.iinc 6 1, 3) := by decide +kernel
theorem dX0_leaderAt_45 : decode cX0_leaderAt 45 = .ok (.goto (-37), 3) := by decide +kernel
theorem dX0_leaderAt_48 : decode cX0_leaderAt 48 = .ok (.iload_n 3, 1) := by decide +kernel
theorem dX0_leaderAt_49 : decode cX0_leaderAt 49 = .ok (.ireturn, 1) := by decide +kernel
theorem dX0_percent_0 : decode cX0_percent 0 = .ok (.lload_n 2, 1) := by decide +kernel
theorem dX0_percent_1 : decode cX0_percent 1 = .ok (.lconst 0, 1) := by decide +kernel
theorem dX0_percent_2 : decode cX0_percent 2 = .ok (.lcmp, 1) := by decide +kernel
theorem dX0_percent_3 : decode cX0_percent 3 = .ok (.ifCond .ne 13, 3) := by decide +kernel
theorem dX0_percent_6 : decode cX0_percent 6 = .ok (.new 42, 3) := by decide +kernel
theorem dX0_percent_9 : decode cX0_percent 9 = .ok (.dup, 1) := by decide +kernel
theorem dX0_percent_10 : decode cX0_percent 10 = .ok (.ldc 112, 2) := by decide +kernel
theorem dX0_percent_12 : decode cX0_percent 12 = .ok (.invokespecial 46, 3) := by decide +kernel
theorem dX0_percent_15 : decode cX0_percent 15 = .ok (.athrow, 1) := by decide +kernel
theorem dX0_percent_16 : decode cX0_percent 16 = .ok (.lload_n 0, 1) := by decide +kernel
theorem dX0_percent_17 : decode cX0_percent 17 = .ok (.ldc2_w 183, 3) := by decide +kernel
theorem dX0_percent_20 : decode cX0_percent 20 = .ok (.lmul, 1) := by decide +kernel
theorem dX0_percent_21 : decode cX0_percent 21 = .ok (.lload_n 2, 1) := by decide +kernel
theorem dX0_percent_22 : decode cX0_percent 22 = .ok (.ldiv, 1) := by decide +kernel
theorem dX0_percent_23 : decode cX0_percent 23 = .ok (.l2i, 1) := by decide +kernel
theorem dX0_percent_24 : decode cX0_percent 24 = .ok (.ireturn, 1) := by decide +kernel
theorem dX0_chance_0 : decode cX0_chance 0 = .ok (.lconst 0, 1) := by decide +kernel
theorem dX0_chance_1 : decode cX0_chance 1 = .ok (.lstore 4, 2) := by decide +kernel
theorem dX0_chance_3 : decode cX0_chance 3 = .ok (.iconst 0, 1) := by decide +kernel
theorem dX0_chance_4 : decode cX0_chance 4 = .ok (.istore 6, 2) := by decide +kernel
theorem dX0_chance_6 : decode cX0_chance 6 = .ok (.iload 6, 2) := by decide +kernel
theorem dX0_chance_8 : decode cX0_chance 8 = .ok (.aload_n 0, 1) := by decide +kernel
theorem dX0_chance_9 : decode cX0_chance 9 = .ok (.getfield 25, 3) := by decide +kernel
theorem dX0_chance_12 : decode cX0_chance 12 = .ok (.if_icmp .ge 52, 3) := by decide +kernel
theorem dX0_chance_15 : decode cX0_chance 15 = .ok (.iload_n 1, 1) := by decide +kernel
theorem dX0_chance_16 : decode cX0_chance 16 = .ok (.ifCond .eq 13, 3) := by decide +kernel
theorem dX0_chance_19 : decode cX0_chance 19 = .ok (.aload_n 0, 1) := by decide +kernel
theorem dX0_chance_20 : decode cX0_chance 20 = .ok (.getfield 9, 3) := by decide +kernel
theorem dX0_chance_23 : decode cX0_chance 23 = .ok (.iload 6, 2) := by decide +kernel
theorem dX0_chance_25 : decode cX0_chance 25 = .ok (.iaload, 1) := by decide +kernel
theorem dX0_chance_26 : decode cX0_chance 26 = .ok (.goto 13, 3) := by decide +kernel
theorem dX0_chance_29 : decode cX0_chance 29 = .ok (.bipush 10, 2) := by decide +kernel
theorem dX0_chance_31 : decode cX0_chance 31 = .ok (.aload_n 0, 1) := by decide +kernel
theorem dX0_chance_32 : decode cX0_chance 32 = .ok (.getfield 9, 3) := by decide +kernel
theorem dX0_chance_35 : decode cX0_chance 35 = .ok (.iload 6, 2) := by decide +kernel
theorem dX0_chance_37 : decode cX0_chance 37 = .ok (.iaload, 1) := by decide +kernel
theorem dX0_chance_38 : decode cX0_chance 38 = .ok (.isub, 1) := by decide +kernel
theorem dX0_chance_39 : decode cX0_chance 39 = .ok (.istore 7, 2) := by decide +kernel
theorem dX0_chance_41 : decode cX0_chance 41 = .ok (.lload 4, 2) := by decide +kernel
theorem dX0_chance_43 : decode cX0_chance 43 = .ok (.aload_n 0, 1) := by decide +kernel
theorem dX0_chance_44 : decode cX0_chance 44 = .ok (.iload 6, 2) := by decide +kernel
theorem dX0_chance_46 : decode cX0_chance 46 = .ok (.iload_n 2, 1) := by decide +kernel
theorem dX0_chance_47 : decode cX0_chance 47 = .ok (.iload_n 3, 1) := by decide +kernel
theorem dX0_chance_48 : decode cX0_chance 48 = .ok (.invokevirtual 93, 3) := by decide +kernel
theorem dX0_chance_51 : decode cX0_chance 51 = .ok (.iload 7, 2) := by decide +kernel
theorem dX0_chance_53 : decode cX0_chance 53 = .ok (.i2l, 1) := by decide +kernel
theorem dX0_chance_54 : decode cX0_chance 54 = .ok (.lmul, 1) := by decide +kernel
theorem dX0_chance_55 : decode cX0_chance 55 = .ok (.ladd, 1) := by decide +kernel
theorem dX0_chance_56 : decode cX0_chance 56 = .ok (.lstore 4, 2) := by decide +kernel
theorem dX0_chance_58 : decode cX0_chance 58 = .ok (.iinc 6 1, 3) := by decide +kernel
theorem dX0_chance_61 : decode cX0_chance 61 = .ok (.goto (-55), 3) := by decide +kernel
theorem dX0_chance_64 : decode cX0_chance 64 = .ok (.lload 4, 2) := by decide +kernel
theorem dX0_chance_66 : decode cX0_chance 66 = .ok (.lreturn, 1) := by decide +kernel
theorem dX0_surpriseAt_0 : decode cX0_surpriseAt 0 = .ok (.aload_n 0, 1) := by decide +kernel
theorem dX0_surpriseAt_1 : decode cX0_surpriseAt 1 = .ok (.iload_n 1, 1) := by decide +kernel
theorem dX0_surpriseAt_2 : decode cX0_surpriseAt 2 = .ok (.invokevirtual 177, 3) := by decide +kernel
theorem dX0_surpriseAt_5 : decode cX0_surpriseAt 5 = .ok (.istore_n 2, 1) := by decide +kernel
theorem dX0_surpriseAt_6 : decode cX0_surpriseAt 6 = .ok (.aload_n 0, 1) := by decide +kernel
theorem dX0_surpriseAt_7 : decode cX0_surpriseAt 7 = .ok (.aload_n 0, 1) := by decide +kernel
theorem dX0_surpriseAt_8 : decode cX0_surpriseAt 8 = .ok (.getfield 21, 3) := by decide +kernel
theorem dX0_surpriseAt_11 : decode cX0_surpriseAt 11 = .ok (.iload_n 1, 1) := by decide +kernel
theorem dX0_surpriseAt_12 : decode cX0_surpriseAt 12 = .ok (.baload, 1) := by decide +kernel
theorem dX0_surpriseAt_13 : decode cX0_surpriseAt 13 = .ok (.iload_n 2, 1) := by decide +kernel
theorem dX0_surpriseAt_14 : decode cX0_surpriseAt 14 = .ok (.iload_n 1, 1) := by decide +kernel
theorem dX0_surpriseAt_15 : decode cX0_surpriseAt 15 = .ok (.iload_n 2, 1) := by decide +kernel
theorem dX0_surpriseAt_16 : decode cX0_surpriseAt 16 = .ok (.isub, 1) := by decide +kernel
theorem dX0_surpriseAt_17 : decode cX0_surpriseAt 17 = .ok (.invokevirtual 76, 3) := by decide +kernel
theorem dX0_surpriseAt_20 : decode cX0_surpriseAt 20 = .ok (.ireturn, 1) := by decide +kernel
theorem dX0_surpriseBehind_0 : decode cX0_surpriseBehind 0 = .ok (.ldc2_w 185, 3) := by decide +kernel
theorem dX0_surpriseBehind_3 : decode cX0_surpriseBehind 3 = .ok (.aload_n 0, 1) := by decide +kernel
theorem dX0_surpriseBehind_4 : decode cX0_surpriseBehind 4 = .ok (.iload_n 2, 1) := by decide +kernel
theorem dX0_surpriseBehind_5 : decode cX0_surpriseBehind 5 = .ok (.iload_n 3, 1) := by decide +kernel
theorem dX0_surpriseBehind_6 : decode cX0_surpriseBehind 6 = .ok (.invokevirtual 180, 3) := by decide +kernel
theorem dX0_surpriseBehind_9 : decode cX0_surpriseBehind 9 = .ok (.lmul, 1) := by decide +kernel
theorem dX0_surpriseBehind_10 : decode cX0_surpriseBehind 10 = .ok (.lstore 4, 2) := by decide +kernel
theorem dX0_surpriseBehind_12 : decode cX0_surpriseBehind 12 = .ok (.aload_n 0, 1) := by decide +kernel
theorem dX0_surpriseBehind_13 : decode cX0_surpriseBehind 13 = .ok (.iload_n 1, 1) := by decide +kernel
theorem dX0_surpriseBehind_14 : decode cX0_surpriseBehind 14 = .ok (.iload_n 2, 1) := by decide +kernel
theorem dX0_surpriseBehind_15 : decode cX0_surpriseBehind 15 = .ok (.iload_n 3, 1) := by decide +kernel
theorem dX0_surpriseBehind_16 : decode cX0_surpriseBehind 16 = .ok (.invokevirtual 120, 3) := by decide +kernel
theorem dX0_surpriseBehind_19 : decode cX0_surpriseBehind 19 = .ok (.ldc2_w 187, 3) := by decide +kernel
theorem dX0_surpriseBehind_22 : decode cX0_surpriseBehind 22 = .ok (.lmul, 1) := by decide +kernel
theorem dX0_surpriseBehind_23 : decode cX0_surpriseBehind 23 = .ok (.lstore 6, 2) := by decide +kernel
theorem dX0_surpriseBehind_25 : decode cX0_surpriseBehind 25 = .ok (.iconst 0, 1) := by decide +kernel
theorem dX0_surpriseBehind_26 : decode cX0_surpriseBehind 26 = .ok (.istore 8, 2) := by decide +kernel
theorem dX0_surpriseBehind_28 : decode cX0_surpriseBehind 28 = .ok (.lload 6, 2) := by decide +kernel
theorem dX0_surpriseBehind_30 : decode cX0_surpriseBehind 30 = .ok (.lload 4, 2) := by decide +kernel
theorem dX0_surpriseBehind_32 : decode cX0_surpriseBehind 32 = .ok (.lcmp, 1) := by decide +kernel
theorem dX0_surpriseBehind_33 : decode cX0_surpriseBehind 33 = .ok (.ifCond .gt 24, 3) := by decide +kernel
theorem dX0_surpriseBehind_36 : decode cX0_surpriseBehind 36 = .ok (.iload 8, 2) := by decide +kernel
theorem dX0_surpriseBehind_38 : decode cX0_surpriseBehind 38 = .ok (.bipush 60, 2) := by decide +kernel
theorem dX0_surpriseBehind_40 : decode cX0_surpriseBehind 40 = .ok (.if_icmp .ge 17, 3) := by decide +kernel
theorem dX0_surpriseBehind_43 : decode cX0_surpriseBehind 43 = .ok (.lload 6, 2) := by decide +kernel
theorem dX0_surpriseBehind_45 : decode cX0_surpriseBehind 45 = .ok (.ldc2_w 187, 3) := by decide +kernel
theorem dX0_surpriseBehind_48 : decode cX0_surpriseBehind 48 = .ok (.lmul, 1) := by decide +kernel
theorem dX0_surpriseBehind_49 : decode cX0_surpriseBehind 49 = .ok (.lstore 6, 2) := by decide +kernel
theorem dX0_surpriseBehind_51 : decode cX0_surpriseBehind 51 = .ok (.iinc 8 1, 3) := by decide +kernel
theorem dX0_surpriseBehind_54 : decode cX0_surpriseBehind 54 = .ok (.goto (-26), 3) := by decide +kernel
theorem dX0_surpriseBehind_57 : decode cX0_surpriseBehind 57 = .ok (.iload 8, 2) := by decide +kernel
theorem dX0_surpriseBehind_59 : decode cX0_surpriseBehind 59 = .ok (.ireturn, 1) := by decide +kernel
theorem dX0_digestWith_0 : decode cX0_digestWith 0 = .ok (.lload_n 0, 1) := by decide +kernel
theorem dX0_digestWith_1 : decode cX0_digestWith 1 = .ok (.ldc2_w 189, 3) := by decide +kernel
theorem dX0_digestWith_4 : decode cX0_digestWith 4 = .ok (.lmul, 1) := by decide +kernel
theorem dX0_digestWith_5 : decode cX0_digestWith 5 = .ok (.lload_n 2, 1) := by decide +kernel
theorem dX0_digestWith_6 : decode cX0_digestWith 6 = .ok (.ladd, 1) := by decide +kernel
theorem dX0_digestWith_7 : decode cX0_digestWith 7 = .ok (.lreturn, 1) := by decide +kernel
theorem dX0_digestWithCoins_0 : decode cX0_digestWithCoins 0 = .ok (.aload_n 0, 1) := by decide +kernel
theorem dX0_digestWithCoins_1 : decode cX0_digestWithCoins 1 = .ok (.invokevirtual 69, 3) := by decide +kernel
theorem dX0_digestWithCoins_4 : decode cX0_digestWithCoins 4 = .ok (.istore_n 3, 1) := by decide +kernel
theorem dX0_digestWithCoins_5 : decode cX0_digestWithCoins 5 = .ok (.aload_n 0, 1) := by decide +kernel
theorem dX0_digestWithCoins_6 : decode cX0_digestWithCoins 6 = .ok (.invokevirtual 73, 3) := by decide +kernel
theorem dX0_digestWithCoins_9 : decode cX0_digestWithCoins 9 = .ok (.istore 4, 2) := by decide +kernel
theorem dX0_digestWithCoins_11 : decode cX0_digestWithCoins 11 = .ok (.lload_n 1, 1) := by decide +kernel
theorem dX0_digestWithCoins_12 : decode cX0_digestWithCoins 12 = .ok (.lstore 5, 2) := by decide +kernel
theorem dX0_digestWithCoins_14 : decode cX0_digestWithCoins 14 = .ok (.iconst 0, 1) := by decide +kernel
theorem dX0_digestWithCoins_15 : decode cX0_digestWithCoins 15 = .ok (.istore 7, 2) := by decide +kernel
theorem dX0_digestWithCoins_17 : decode cX0_digestWithCoins 17 = .ok (.iload 7, 2) := by decide +kernel
theorem dX0_digestWithCoins_19 : decode cX0_digestWithCoins 19 = .ok (.aload_n 0, 1) := by decide +kernel
theorem dX0_digestWithCoins_20 : decode cX0_digestWithCoins 20 = .ok (.getfield 25, 3) := by decide +kernel
theorem dX0_digestWithCoins_23 : decode cX0_digestWithCoins 23 = .ok (.if_icmp .ge 54, 3) := by decide +kernel
theorem dX0_digestWithCoins_26 : decode cX0_digestWithCoins 26 = .ok (.lload 5, 2) := by decide +kernel
theorem dX0_digestWithCoins_28 : decode cX0_digestWithCoins 28 = .ok (.aload_n 0, 1) := by decide +kernel
theorem dX0_digestWithCoins_29 : decode cX0_digestWithCoins 29 = .ok (.getfield 9, 3) := by decide +kernel
theorem dX0_digestWithCoins_32 : decode cX0_digestWithCoins 32 = .ok (.iload 7, 2) := by decide +kernel
theorem dX0_digestWithCoins_34 : decode cX0_digestWithCoins 34 = .ok (.iaload, 1) := by decide +kernel
theorem dX0_digestWithCoins_35 : decode cX0_digestWithCoins 35 = .ok (.i2l, 1) := by decide +kernel
theorem dX0_digestWithCoins_36 : decode cX0_digestWithCoins 36 = .ok (.invokestatic 129, 3) := by decide +kernel
theorem dX0_digestWithCoins_39 : decode cX0_digestWithCoins 39 = .ok (.lstore 5, 2) := by decide +kernel
theorem dX0_digestWithCoins_41 : decode cX0_digestWithCoins 41 = .ok (.lload 5, 2) := by decide +kernel
theorem dX0_digestWithCoins_43 : decode cX0_digestWithCoins 43 = .ok (.aload_n 0, 1) := by decide +kernel
theorem dX0_digestWithCoins_44 : decode cX0_digestWithCoins 44 = .ok (.iload 7, 2) := by decide +kernel
theorem dX0_digestWithCoins_46 : decode cX0_digestWithCoins 46 = .ok (.iload_n 3, 1) := by decide +kernel
theorem dX0_digestWithCoins_47 : decode cX0_digestWithCoins 47 = .ok (.iload 4, 2) := by decide +kernel
theorem dX0_digestWithCoins_49 : decode cX0_digestWithCoins 49 = .ok (.invokevirtual 93, 3) := by decide +kernel
theorem dX0_digestWithCoins_52 : decode cX0_digestWithCoins 52 = .ok (.invokestatic 129, 3) := by decide +kernel
theorem dX0_digestWithCoins_55 : decode cX0_digestWithCoins 55 = .ok (.lstore 5, 2) := by decide +kernel
theorem dX0_digestWithCoins_57 : decode cX0_digestWithCoins 57 = .ok (.lload 5, 2) := by decide +kernel
theorem dX0_digestWithCoins_59 : decode cX0_digestWithCoins 59 = .ok (.aload_n 0, 1) := by decide +kernel
theorem dX0_digestWithCoins_60 : decode cX0_digestWithCoins 60 = .ok (.iload 7, 2) := by decide +kernel
theorem dX0_digestWithCoins_62 : decode cX0_digestWithCoins 62 = .ok (.invokevirtual 191, 3) := by decide +kernel
theorem dX0_digestWithCoins_65 : decode cX0_digestWithCoins 65 = .ok (.i2l, 1) := by decide +kernel
theorem dX0_digestWithCoins_66 : decode cX0_digestWithCoins 66 = .ok (.invokestatic 129, 3) := by decide +kernel
theorem dX0_digestWithCoins_69 : decode cX0_digestWithCoins 69 = .ok (.lstore 5, 2) := by decide +kernel
theorem dX0_digestWithCoins_71 : decode cX0_digestWithCoins 71 = .ok (.iinc 7 1, 3) := by decide +kernel
theorem dX0_digestWithCoins_74 : decode cX0_digestWithCoins 74 = .ok (.goto (-57), 3) := by decide +kernel
theorem dX0_digestWithCoins_77 : decode cX0_digestWithCoins 77 = .ok (.lload 5, 2) := by decide +kernel
theorem dX0_digestWithCoins_79 : decode cX0_digestWithCoins 79 = .ok (.lreturn, 1) := by decide +kernel
theorem dX0_digestWithSchools_0 : decode cX0_digestWithSchools 0 = .ok (.lload_n 1, 1) := by decide +kernel
theorem dX0_digestWithSchools_1 : decode cX0_digestWithSchools 1 = .ok (.lstore_n 3, 1) := by decide +kernel
theorem dX0_digestWithSchools_2 : decode cX0_digestWithSchools 2 = .ok (.iconst 0, 1) := by decide +kernel
theorem dX0_digestWithSchools_3 : decode cX0_digestWithSchools 3 = .ok (.istore 5, 2) := by decide +kernel
theorem dX0_digestWithSchools_5 : decode cX0_digestWithSchools 5 = .ok (.iload 5, 2) := by decide +kernel
theorem dX0_digestWithSchools_7 : decode cX0_digestWithSchools 7 = .ok (.aload_n 0, 1) := by decide +kernel
theorem dX0_digestWithSchools_8 : decode cX0_digestWithSchools 8 = .ok (.getfield 29, 3) := by decide +kernel
theorem dX0_digestWithSchools_11 : decode cX0_digestWithSchools 11 = .ok (.if_icmp .ge 67, 3) := by decide +kernel
theorem dX0_digestWithSchools_14 : decode cX0_digestWithSchools 14 = .ok (.lload_n 3, 1) := by decide +kernel
theorem dX0_digestWithSchools_15 : decode cX0_digestWithSchools 15 = .ok (.aload_n 0, 1) := by decide +kernel
theorem dX0_digestWithSchools_16 : decode cX0_digestWithSchools 16 = .ok (.getfield 13, 3) := by decide +kernel
theorem dX0_digestWithSchools_19 : decode cX0_digestWithSchools 19 = .ok (.iload 5, 2) := by decide +kernel
theorem dX0_digestWithSchools_21 : decode cX0_digestWithSchools 21 = .ok (.iaload, 1) := by decide +kernel
theorem dX0_digestWithSchools_22 : decode cX0_digestWithSchools 22 = .ok (.i2l, 1) := by decide +kernel
theorem dX0_digestWithSchools_23 : decode cX0_digestWithSchools 23 = .ok (.invokestatic 129, 3) := by decide +kernel
theorem dX0_digestWithSchools_26 : decode cX0_digestWithSchools 26 = .ok (.lstore_n 3, 1) := by decide +kernel
theorem dX0_digestWithSchools_27 : decode cX0_digestWithSchools 27 = .ok (.lload_n 3, 1) := by decide +kernel
theorem dX0_digestWithSchools_28 : decode cX0_digestWithSchools 28 = .ok (.aload_n 0, 1) := by decide +kernel
theorem dX0_digestWithSchools_29 : decode cX0_digestWithSchools 29 = .ok (.iload 5, 2) := by decide +kernel
theorem dX0_digestWithSchools_31 : decode cX0_digestWithSchools 31 = .ok (.invokevirtual 96, 3) := by decide +kernel
theorem dX0_digestWithSchools_34 : decode cX0_digestWithSchools 34 = .ok (.invokestatic 129, 3) := by decide +kernel
theorem dX0_digestWithSchools_37 : decode cX0_digestWithSchools 37 = .ok (.lstore_n 3, 1) := by decide +kernel
theorem dX0_digestWithSchools_38 : decode cX0_digestWithSchools 38 = .ok (.iconst 0, 1) := by decide +kernel
theorem dX0_digestWithSchools_39 : decode cX0_digestWithSchools 39 = .ok (.istore 6, 2) := by decide +kernel
theorem dX0_digestWithSchools_41 : decode cX0_digestWithSchools 41 = .ok (.iload 6, 2) := by decide +kernel
theorem dX0_digestWithSchools_43 : decode cX0_digestWithSchools 43 = .ok (.aload_n 0, 1) := by decide +kernel
theorem dX0_digestWithSchools_44 : decode cX0_digestWithSchools 44 = .ok (.getfield 25, 3) := by decide +kernel
theorem dX0_digestWithSchools_47 : decode cX0_digestWithSchools 47 = .ok (.if_icmp .ge 25, 3) := by decide +kernel
theorem dX0_digestWithSchools_50 : decode cX0_digestWithSchools 50 = .ok (.lload_n 3, 1) := by decide +kernel
theorem dX0_digestWithSchools_51 : decode cX0_digestWithSchools 51 = .ok (.aload_n 0, 1) := by decide +kernel
theorem dX0_digestWithSchools_52 : decode cX0_digestWithSchools 52 = .ok (.getfield 18, 3) := by decide +kernel
theorem dX0_digestWithSchools_55 : decode cX0_digestWithSchools 55 = .ok (.iload 5, 2) := by decide +kernel
theorem dX0_digestWithSchools_57 : decode cX0_digestWithSchools 57 = .ok (.aaload, 1) := by decide +kernel
theorem dX0_digestWithSchools_58 : decode cX0_digestWithSchools 58 = .ok (.iload 6, 2) := by decide +kernel
theorem dX0_digestWithSchools_60 : decode cX0_digestWithSchools 60 = .ok (.iaload, 1) := by decide +kernel
theorem dX0_digestWithSchools_61 : decode cX0_digestWithSchools 61 = .ok (.i2l, 1) := by decide +kernel
theorem dX0_digestWithSchools_62 : decode cX0_digestWithSchools 62 = .ok (.invokestatic 129, 3) := by decide +kernel
theorem dX0_digestWithSchools_65 : decode cX0_digestWithSchools 65 = .ok (.lstore_n 3, 1) := by decide +kernel
theorem dX0_digestWithSchools_66 : decode cX0_digestWithSchools 66 = .ok (.iinc 6 1, 3) := by decide +kernel
theorem dX0_digestWithSchools_69 : decode cX0_digestWithSchools 69 = .ok (.goto (-28), 3) := by decide +kernel
theorem dX0_digestWithSchools_72 : decode cX0_digestWithSchools 72 = .ok (.iinc 5 1, 3) := by decide +kernel
theorem dX0_digestWithSchools_75 : decode cX0_digestWithSchools 75 = .ok (.goto (-70), 3) := by decide +kernel
theorem dX0_digestWithSchools_78 : decode cX0_digestWithSchools 78 = .ok (.lload_n 3, 1) := by decide +kernel
theorem dX0_digestWithSchools_79 : decode cX0_digestWithSchools 79 = .ok (.lreturn, 1) := by decide +kernel
theorem dX0_digestWithTosses_0 : decode cX0_digestWithTosses 0 = .ok (.lload_n 1, 1) := by decide +kernel
theorem dX0_digestWithTosses_1 : decode cX0_digestWithTosses 1 = .ok (.lstore_n 3, 1) := by decide +kernel
theorem dX0_digestWithTosses_2 : decode cX0_digestWithTosses 2 = .ok (.iconst 0, 1) := by decide +kernel
theorem dX0_digestWithTosses_3 : decode cX0_digestWithTosses 3 = .ok (.istore 5, 2) := by decide +kernel
theorem dX0_digestWithTosses_5 : decode cX0_digestWithTosses 5 = .ok (.iload 5, 2) := by decide +kernel
theorem dX0_digestWithTosses_7 : decode cX0_digestWithTosses 7 = .ok (.aload_n 0, 1) := by decide +kernel
theorem dX0_digestWithTosses_8 : decode cX0_digestWithTosses 8 = .ok (.getfield 32, 3) := by decide +kernel
theorem dX0_digestWithTosses_11 : decode cX0_digestWithTosses 11 = .ok (.if_icmp .ge 41, 3) := by decide +kernel
theorem dX0_digestWithTosses_14 : decode cX0_digestWithTosses 14 = .ok (.lload_n 3, 1) := by decide +kernel
theorem dX0_digestWithTosses_15 : decode cX0_digestWithTosses 15 = .ok (.aload_n 0, 1) := by decide +kernel
theorem dX0_digestWithTosses_16 : decode cX0_digestWithTosses 16 = .ok (.getfield 21, 3) := by decide +kernel
theorem dX0_digestWithTosses_19 : decode cX0_digestWithTosses 19 = .ok (.iload 5, 2) := by decide +kernel
theorem dX0_digestWithTosses_21 : decode cX0_digestWithTosses 21 = .ok (.baload, 1) := by decide +kernel
theorem dX0_digestWithTosses_22 : decode cX0_digestWithTosses 22 = .ok (.ifCond .eq 7, 3) := by decide +kernel
theorem dX0_digestWithTosses_25 : decode cX0_digestWithTosses 25 = .ok (.lconst 1, 1) := by decide +kernel
theorem dX0_digestWithTosses_26 : decode cX0_digestWithTosses 26 = .ok (.goto 4, 3) := by decide +kernel
theorem dX0_digestWithTosses_29 : decode cX0_digestWithTosses 29 = .ok (.lconst 0, 1) := by decide +kernel
theorem dX0_digestWithTosses_30 : decode cX0_digestWithTosses 30 = .ok (.invokestatic 129, 3) := by decide +kernel
theorem dX0_digestWithTosses_33 : decode cX0_digestWithTosses 33 = .ok (.lstore_n 3, 1) := by decide +kernel
theorem dX0_digestWithTosses_34 : decode cX0_digestWithTosses 34 = .ok (.lload_n 3, 1) := by decide +kernel
theorem dX0_digestWithTosses_35 : decode cX0_digestWithTosses 35 = .ok (.aload_n 0, 1) := by decide +kernel
theorem dX0_digestWithTosses_36 : decode cX0_digestWithTosses 36 = .ok (.iload 5, 2) := by decide +kernel
theorem dX0_digestWithTosses_38 : decode cX0_digestWithTosses 38 = .ok (.invokevirtual 116, 3) := by decide +kernel
theorem dX0_digestWithTosses_41 : decode cX0_digestWithTosses 41 = .ok (.i2l, 1) := by decide +kernel
theorem dX0_digestWithTosses_42 : decode cX0_digestWithTosses 42 = .ok (.invokestatic 129, 3) := by decide +kernel
theorem dX0_digestWithTosses_45 : decode cX0_digestWithTosses 45 = .ok (.lstore_n 3, 1) := by decide +kernel
theorem dX0_digestWithTosses_46 : decode cX0_digestWithTosses 46 = .ok (.iinc 5 1, 3) := by decide +kernel
theorem dX0_digestWithTosses_49 : decode cX0_digestWithTosses 49 = .ok (.goto (-44), 3) := by decide +kernel
theorem dX0_digestWithTosses_52 : decode cX0_digestWithTosses 52 = .ok (.lload_n 3, 1) := by decide +kernel
theorem dX0_digestWithTosses_53 : decode cX0_digestWithTosses 53 = .ok (.lreturn, 1) := by decide +kernel
theorem dX1_init_0 : decode cX1_init 0 = .ok (.aload_n 0, 1) := by decide +kernel
theorem dX1_init_1 : decode cX1_init 1 = .ok (.invokespecial 1, 3) := by decide +kernel
theorem dX1_init_4 : decode cX1_init 4 = .ok (.aload_n 0, 1) := by decide +kernel
theorem dX1_init_5 : decode cX1_init 5 = .ok (.bipush 8, 2) := by decide +kernel
theorem dX1_init_7 : decode cX1_init 7 = .ok (.newarray .int, 2) := by decide +kernel
theorem dX1_init_9 : decode cX1_init 9 = .ok (.putfield 9, 3) := by decide +kernel
theorem dX1_init_12 : decode cX1_init 12 = .ok (.aload_n 0, 1) := by decide +kernel
theorem dX1_init_13 : decode cX1_init 13 = .ok (.iconst 4, 1) := by decide +kernel
theorem dX1_init_14 : decode cX1_init 14 = .ok (.newarray .int, 2) := by decide +kernel
theorem dX1_init_16 : decode cX1_init 16 = .ok (.putfield 13, 3) := by decide +kernel
theorem dX1_init_19 : decode cX1_init 19 = .ok (.aload_n 0, 1) := by decide +kernel
theorem dX1_init_20 : decode cX1_init 20 = .ok (.bipush 32, 2) := by decide +kernel
theorem dX1_init_22 : decode cX1_init 22 = .ok (.newarray .int, 2) := by decide +kernel
theorem dX1_init_24 : decode cX1_init 24 = .ok (.putfield 16, 3) := by decide +kernel
theorem dX1_init_27 : decode cX1_init 27 = .ok (.return_, 1) := by decide +kernel
theorem dX1_thrown_0 : decode cX1_thrown 0 = .ok (.aload_n 0, 1) := by decide +kernel
theorem dX1_thrown_1 : decode cX1_thrown 1 = .ok (.getfield 19, 3) := by decide +kernel
theorem dX1_thrown_4 : decode cX1_thrown 4 = .ok (.ireturn, 1) := by decide +kernel
theorem dX1_fail_0 : decode cX1_fail 0 = .ok (.aload_n 0, 1) := by decide +kernel
theorem dX1_fail_1 : decode cX1_fail 1 = .ok (.iload_n 1, 1) := by decide +kernel
theorem dX1_fail_2 : decode cX1_fail 2 = .ok (.putfield 19, 3) := by decide +kernel
theorem dX1_fail_5 : decode cX1_fail 5 = .ok (.iconst 0, 1) := by decide +kernel
theorem dX1_fail_6 : decode cX1_fail 6 = .ok (.ireturn, 1) := by decide +kernel
theorem dX1_told_0 : decode cX1_told 0 = .ok (.aload_n 0, 1) := by decide +kernel
theorem dX1_told_1 : decode cX1_told 1 = .ok (.iconst 0, 1) := by decide +kernel
theorem dX1_told_2 : decode cX1_told 2 = .ok (.putfield 19, 3) := by decide +kernel
theorem dX1_told_5 : decode cX1_told 5 = .ok (.iload_n 1, 1) := by decide +kernel
theorem dX1_told_6 : decode cX1_told 6 = .ok (.ireturn, 1) := by decide +kernel
theorem dX1_isIn_0 : decode cX1_isIn 0 = .ok (.iload_n 0, 1) := by decide +kernel
theorem dX1_isIn_1 : decode cX1_isIn 1 = .ok (.iload_n 1, 1) := by decide +kernel
theorem dX1_isIn_2 : decode cX1_isIn 2 = .ok (.if_icmp .lt 12, 3) := by decide +kernel
theorem dX1_isIn_5 : decode cX1_isIn 5 = .ok (.iload_n 0, 1) := by decide +kernel
theorem dX1_isIn_6 : decode cX1_isIn 6 = .ok (.iload_n 2, 1) := by decide +kernel
theorem dX1_isIn_7 : decode cX1_isIn 7 = .ok (.if_icmp .gt 7, 3) := by decide +kernel
theorem dX1_isIn_10 : decode cX1_isIn 10 = .ok (.iconst 1, 1) := by decide +kernel
theorem dX1_isIn_11 : decode cX1_isIn 11 = .ok (.goto 4, 3) := by decide +kernel
theorem dX1_isIn_14 : decode cX1_isIn 14 = .ok (.iconst 0, 1) := by decide +kernel
theorem dX1_isIn_15 : decode cX1_isIn 15 = .ok (.ireturn, 1) := by decide +kernel
theorem dX1_isCoin_0 : decode cX1_isCoin 0 = .ok (.iload_n 1, 1) := by decide +kernel
theorem dX1_isCoin_1 : decode cX1_isCoin 1 = .ok (.iconst 0, 1) := by decide +kernel
theorem dX1_isCoin_2 : decode cX1_isCoin 2 = .ok (.aload_n 0, 1) := by decide +kernel
theorem dX1_isCoin_3 : decode cX1_isCoin 3 = .ok (.getfield 23, 3) := by decide +kernel
theorem dX1_isCoin_6 : decode cX1_isCoin 6 = .ok (.iconst 1, 1) := by decide +kernel
theorem dX1_isCoin_7 : decode cX1_isCoin 7 = .ok (.isub, 1) := by decide +kernel
theorem dX1_isCoin_8 : decode cX1_isCoin 8 = .ok (.invokestatic 26, 3) := by decide +kernel
theorem dX1_isCoin_11 : decode cX1_isCoin 11 = .ok (.ireturn, 1) := by decide +kernel
theorem dX1_isSchool_0 : decode cX1_isSchool 0 = .ok (.iload_n 1, 1) := by decide +kernel
theorem dX1_isSchool_1 : decode cX1_isSchool 1 = .ok (.iconst 0, 1) := by decide +kernel
theorem dX1_isSchool_2 : decode cX1_isSchool 2 = .ok (.aload_n 0, 1) := by decide +kernel
theorem dX1_isSchool_3 : decode cX1_isSchool 3 = .ok (.getfield 30, 3) := by decide +kernel
theorem dX1_isSchool_6 : decode cX1_isSchool 6 = .ok (.iconst 1, 1) := by decide +kernel
theorem dX1_isSchool_7 : decode cX1_isSchool 7 = .ok (.isub, 1) := by decide +kernel
theorem dX1_isSchool_8 : decode cX1_isSchool 8 = .ok (.invokestatic 26, 3) := by decide +kernel
theorem dX1_isSchool_11 : decode cX1_isSchool 11 = .ok (.ireturn, 1) := by decide +kernel
theorem dX1_isToss_0 : decode cX1_isToss 0 = .ok (.iload_n 1, 1) := by decide +kernel
theorem dX1_isToss_1 : decode cX1_isToss 1 = .ok (.iconst 0, 1) := by decide +kernel
theorem dX1_isToss_2 : decode cX1_isToss 2 = .ok (.aload_n 0, 1) := by decide +kernel
theorem dX1_isToss_3 : decode cX1_isToss 3 = .ok (.getfield 33, 3) := by decide +kernel
theorem dX1_isToss_6 : decode cX1_isToss 6 = .ok (.iconst 1, 1) := by decide +kernel
theorem dX1_isToss_7 : decode cX1_isToss 7 = .ok (.isub, 1) := by decide +kernel
theorem dX1_isToss_8 : decode cX1_isToss 8 = .ok (.invokestatic 26, 3) := by decide +kernel
theorem dX1_isToss_11 : decode cX1_isToss 11 = .ok (.ireturn, 1) := by decide +kernel
theorem dX1_headsIn_0 : decode cX1_headsIn 0 = .ok (.iconst 0, 1) := by decide +kernel
theorem dX1_headsIn_1 : decode cX1_headsIn 1 = .ok (.istore_n 2, 1) := by decide +kernel
theorem dX1_headsIn_2 : decode cX1_headsIn 2 = .ok (.iconst 0, 1) := by decide +kernel
theorem dX1_headsIn_3 : decode cX1_headsIn 3 = .ok (.istore_n 3, 1) := by decide +kernel
theorem dX1_headsIn_4 : decode cX1_headsIn 4 = .ok (.iload_n 3, 1) := by decide +kernel
theorem dX1_headsIn_5 : decode cX1_headsIn 5 = .ok (.iload_n 1, 1) := by decide +kernel
theorem dX1_headsIn_6 : decode cX1_headsIn 6 = .ok (.if_icmp .ge 17, 3) := by decide +kernel
theorem dX1_headsIn_9 : decode cX1_headsIn 9 = .ok (.iload_n 2, 1) := by decide +kernel
theorem dX1_headsIn_10 : decode cX1_headsIn 10 = .ok (.iload_n 0, 1) := by decide +kernel
theorem dX1_headsIn_11 : decode cX1_headsIn 11 = .ok (.iload_n 3, 1) := by decide +kernel
theorem dX1_headsIn_12 : decode cX1_headsIn 12 = .ok (.ishr, 1) := by decide +kernel
theorem dX1_headsIn_13 : decode cX1_headsIn 13 = .ok (.iconst 1, 1) := by decide +kernel
theorem dX1_headsIn_14 : decode cX1_headsIn 14 = .ok (.iand, 1) := by decide +kernel
theorem dX1_headsIn_15 : decode cX1_headsIn 15 = .ok (.iadd, 1) := by decide +kernel
theorem dX1_headsIn_16 : decode cX1_headsIn 16 = .ok (.istore_n 2, 1) := by decide +kernel
theorem dX1_headsIn_17 : decode cX1_headsIn 17 = .ok (.iinc 3 1, 3) := by decide +kernel
theorem dX1_headsIn_20 : decode cX1_headsIn 20 = .ok (.goto (-16), 3) := by decide +kernel
theorem dX1_headsIn_23 : decode cX1_headsIn 23 = .ok (.iload_n 2, 1) := by decide +kernel
theorem dX1_headsIn_24 : decode cX1_headsIn 24 = .ok (.ireturn, 1) := by decide +kernel
theorem dX1_headsNow_0 : decode cX1_headsNow 0 = .ok (.aload_n 0, 1) := by decide +kernel
theorem dX1_headsNow_1 : decode cX1_headsNow 1 = .ok (.getfield 36, 3) := by decide +kernel
theorem dX1_headsNow_4 : decode cX1_headsNow 4 = .ok (.aload_n 0, 1) := by decide +kernel
theorem dX1_headsNow_5 : decode cX1_headsNow 5 = .ok (.getfield 33, 3) := by decide +kernel
theorem dX1_headsNow_8 : decode cX1_headsNow 8 = .ok (.invokestatic 39, 3) := by decide +kernel
theorem dX1_headsNow_11 : decode cX1_headsNow 11 = .ok (.ireturn, 1) := by decide +kernel
theorem dX1_power_0 : decode cX1_power 0 = .ok (.lconst 1, 1) := by decide +kernel
theorem dX1_power_1 : decode cX1_power 1 = .ok (.lstore_n 2, 1) := by decide +kernel
theorem dX1_power_2 : decode cX1_power 2 = .ok (.iconst 0, 1) := by decide +kernel
theorem dX1_power_3 : decode cX1_power 3 = .ok (.istore 4, 2) := by decide +kernel
theorem dX1_power_5 : decode cX1_power 5 = .ok (.iload 4, 2) := by decide +kernel
theorem dX1_power_7 : decode cX1_power 7 = .ok (.iload_n 1, 1) := by decide +kernel
theorem dX1_power_8 : decode cX1_power 8 = .ok (.if_icmp .ge 14, 3) := by decide +kernel
theorem dX1_power_11 : decode cX1_power 11 = .ok (.lload_n 2, 1) := by decide +kernel
theorem dX1_power_12 : decode cX1_power 12 = .ok (.iload_n 0, 1) := by decide +kernel
theorem dX1_power_13 : decode cX1_power 13 = .ok (.i2l, 1) := by decide +kernel
theorem dX1_power_14 : decode cX1_power 14 = .ok (.lmul, 1) := by decide +kernel
theorem dX1_power_15 : decode cX1_power 15 = .ok (.lstore_n 2, 1) := by decide +kernel
theorem dX1_power_16 : decode cX1_power 16 = .ok (.iinc 4 1, 3) := by decide +kernel
theorem dX1_power_19 : decode cX1_power 19 = .ok (.goto (-14), 3) := by decide +kernel
theorem dX1_power_22 : decode cX1_power 22 = .ok (.lload_n 2, 1) := by decide +kernel
theorem dX1_power_23 : decode cX1_power 23 = .ok (.lreturn, 1) := by decide +kernel
theorem dX1_falls_0 : decode cX1_falls 0 = .ok (.aload_n 0, 1) := by decide +kernel
theorem dX1_falls_1 : decode cX1_falls 1 = .ok (.getfield 9, 3) := by decide +kernel
theorem dX1_falls_4 : decode cX1_falls 4 = .ok (.iload_n 1, 1) := by decide +kernel
theorem dX1_falls_5 : decode cX1_falls 5 = .ok (.iaload, 1) := by decide +kernel
theorem dX1_falls_6 : decode cX1_falls 6 = .ok (.iload_n 2, 1) := by decide +kernel
theorem dX1_falls_7 : decode cX1_falls 7 = .ok (.invokestatic 43, 3) := by decide +kernel
theorem dX1_falls_10 : decode cX1_falls 10 = .ok (.bipush 10, 2) := by decide +kernel
theorem dX1_falls_12 : decode cX1_falls 12 = .ok (.aload_n 0, 1) := by decide +kernel
theorem dX1_falls_13 : decode cX1_falls 13 = .ok (.getfield 9, 3) := by decide +kernel
theorem dX1_falls_16 : decode cX1_falls 16 = .ok (.iload_n 1, 1) := by decide +kernel
theorem dX1_falls_17 : decode cX1_falls 17 = .ok (.iaload, 1) := by decide +kernel
theorem dX1_falls_18 : decode cX1_falls 18 = .ok (.isub, 1) := by decide +kernel
theorem dX1_falls_19 : decode cX1_falls 19 = .ok (.iload_n 3, 1) := by decide +kernel
theorem dX1_falls_20 : decode cX1_falls 20 = .ok (.invokestatic 43, 3) := by decide +kernel
theorem dX1_falls_23 : decode cX1_falls 23 = .ok (.lmul, 1) := by decide +kernel
theorem dX1_falls_24 : decode cX1_falls 24 = .ok (.lreturn, 1) := by decide +kernel
theorem dX1_given_0 : decode cX1_given 0 = .ok (.iconst 0, 1) := by decide +kernel
theorem dX1_given_1 : decode cX1_given 1 = .ok (.istore_n 2, 1) := by decide +kernel
theorem dX1_given_2 : decode cX1_given 2 = .ok (.iconst 0, 1) := by decide +kernel
theorem dX1_given_3 : decode cX1_given 3 = .ok (.istore_n 3, 1) := by decide +kernel
theorem dX1_given_4 : decode cX1_given 4 = .ok (.iload_n 3, 1) := by decide +kernel
theorem dX1_given_5 : decode cX1_given 5 = .ok (.aload_n 0, 1) := by decide +kernel
theorem dX1_given_6 : decode cX1_given 6 = .ok (.getfield 30, 3) := by decide +kernel
theorem dX1_given_9 : decode cX1_given 9 = .ok (.if_icmp .ge 29, 3) := by decide +kernel
theorem dX1_given_12 : decode cX1_given 12 = .ok (.iload_n 2, 1) := by decide +kernel
theorem dX1_given_13 : decode cX1_given 13 = .ok (.aload_n 0, 1) := by decide +kernel
theorem dX1_given_14 : decode cX1_given 14 = .ok (.getfield 13, 3) := by decide +kernel
theorem dX1_given_17 : decode cX1_given 17 = .ok (.iload_n 3, 1) := by decide +kernel
theorem dX1_given_18 : decode cX1_given 18 = .ok (.iaload, 1) := by decide +kernel
theorem dX1_given_19 : decode cX1_given 19 = .ok (.aload_n 0, 1) := by decide +kernel
theorem dX1_given_20 : decode cX1_given 20 = .ok (.getfield 16, 3) := by decide +kernel
theorem dX1_given_23 : decode cX1_given 23 = .ok (.iconst 4, 1) := by decide +kernel
theorem dX1_given_24 : decode cX1_given 24 = .ok (.iload_n 1, 1) := by decide +kernel
theorem dX1_given_25 : decode cX1_given 25 = .ok (.imul, 1) := by decide +kernel
theorem dX1_given_26 : decode cX1_given 26 = .ok (.iload_n 3, 1) := by decide +kernel
theorem dX1_given_27 : decode cX1_given 27 = .ok (.iadd, 1) := by decide +kernel
theorem dX1_given_28 : decode cX1_given 28 = .ok (.iaload, 1) := by decide +kernel
theorem dX1_given_29 : decode cX1_given 29 = .ok (.imul, 1) := by decide +kernel
theorem dX1_given_30 : decode cX1_given 30 = .ok (.iadd, 1) := by decide +kernel
theorem dX1_given_31 : decode cX1_given 31 = .ok (.istore_n 2, 1) := by decide +kernel
theorem dX1_given_32 : decode cX1_given 32 = .ok (.iinc 3 1, 3) := by decide +kernel
theorem dX1_given_35 : decode cX1_given 35 = .ok (.goto (-31), 3) := by decide +kernel
theorem dX1_given_38 : decode cX1_given 38 = .ok (.iload_n 2, 1) := by decide +kernel
theorem dX1_given_39 : decode cX1_given 39 = .ok (.ireturn, 1) := by decide +kernel
theorem dX1_weight_0 : decode cX1_weight 0 = .ok (.aload_n 0, 1) := by decide +kernel
theorem dX1_weight_1 : decode cX1_weight 1 = .ok (.iload_n 1, 1) := by decide +kernel
theorem dX1_weight_2 : decode cX1_weight 2 = .ok (.invokevirtual 47, 3) := by decide +kernel
theorem dX1_weight_5 : decode cX1_weight 5 = .ok (.i2l, 1) := by decide +kernel
theorem dX1_weight_6 : decode cX1_weight 6 = .ok (.aload_n 0, 1) := by decide +kernel
theorem dX1_weight_7 : decode cX1_weight 7 = .ok (.iload_n 1, 1) := by decide +kernel
theorem dX1_weight_8 : decode cX1_weight 8 = .ok (.iload_n 2, 1) := by decide +kernel
theorem dX1_weight_9 : decode cX1_weight 9 = .ok (.iload_n 3, 1) := by decide +kernel
theorem dX1_weight_10 : decode cX1_weight 10 = .ok (.invokevirtual 51, 3) := by decide +kernel
theorem dX1_weight_13 : decode cX1_weight 13 = .ok (.lmul, 1) := by decide +kernel
theorem dX1_weight_14 : decode cX1_weight 14 = .ok (.lreturn, 1) := by decide +kernel
theorem dX1_whole_0 : decode cX1_whole 0 = .ok (.lconst 0, 1) := by decide +kernel
theorem dX1_whole_1 : decode cX1_whole 1 = .ok (.lstore_n 3, 1) := by decide +kernel
theorem dX1_whole_2 : decode cX1_whole 2 = .ok (.iconst 0, 1) := by decide +kernel
theorem dX1_whole_3 : decode cX1_whole 3 = .ok (.istore 5, 2) := by decide +kernel
theorem dX1_whole_5 : decode cX1_whole 5 = .ok (.iload 5, 2) := by decide +kernel
theorem dX1_whole_7 : decode cX1_whole 7 = .ok (.aload_n 0, 1) := by decide +kernel
theorem dX1_whole_8 : decode cX1_whole 8 = .ok (.getfield 23, 3) := by decide +kernel
theorem dX1_whole_11 : decode cX1_whole 11 = .ok (.if_icmp .ge 20, 3) := by decide +kernel
theorem dX1_whole_14 : decode cX1_whole 14 = .ok (.lload_n 3, 1) := by decide +kernel
theorem dX1_whole_15 : decode cX1_whole 15 = .ok (.aload_n 0, 1) := by decide +kernel
theorem dX1_whole_16 : decode cX1_whole 16 = .ok (.iload 5, 2) := by decide +kernel
theorem dX1_whole_18 : decode cX1_whole 18 = .ok (.iload_n 1, 1) := by decide +kernel
theorem dX1_whole_19 : decode cX1_whole 19 = .ok (.iload_n 2, 1) := by decide +kernel
theorem dX1_whole_20 : decode cX1_whole 20 = .ok (.invokevirtual 55, 3) := by decide +kernel
theorem dX1_whole_23 : decode cX1_whole 23 = .ok (.ladd, 1) := by decide +kernel
theorem dX1_whole_24 : decode cX1_whole 24 = .ok (.lstore_n 3, 1) := by decide +kernel
theorem dX1_whole_25 : decode cX1_whole 25 = .ok (.iinc 5 1, 3) := by decide +kernel
theorem dX1_whole_28 : decode cX1_whole 28 = .ok (.goto (-23), 3) := by decide +kernel
theorem dX1_whole_31 : decode cX1_whole 31 = .ok (.lload_n 3, 1) := by decide +kernel
theorem dX1_whole_32 : decode cX1_whole 32 = .ok (.lreturn, 1) := by decide +kernel
theorem dX1_chance_0 : decode cX1_chance 0 = .ok (.iload_n 1, 1) := by decide +kernel
theorem dX1_chance_1 : decode cX1_chance 1 = .ok (.ifCond .eq 14, 3) := by decide +kernel
theorem dX1_chance_4 : decode cX1_chance 4 = .ok (.aload_n 0, 1) := by decide +kernel
theorem dX1_chance_5 : decode cX1_chance 5 = .ok (.iload_n 2, 1) := by decide +kernel
theorem dX1_chance_6 : decode cX1_chance 6 = .ok (.iconst 1, 1) := by decide +kernel
theorem dX1_chance_7 : decode cX1_chance 7 = .ok (.iadd, 1) := by decide +kernel
theorem dX1_chance_8 : decode cX1_chance 8 = .ok (.iload_n 3, 1) := by decide +kernel
theorem dX1_chance_9 : decode cX1_chance 9 = .ok (.invokevirtual 58, 3) := by decide +kernel
theorem dX1_chance_12 : decode cX1_chance 12 = .ok (.goto 11, 3) := by decide +kernel
theorem dX1_chance_15 : decode cX1_chance 15 = .ok (.aload_n 0, 1) := by decide +kernel
theorem dX1_chance_16 : decode cX1_chance 16 = .ok (.iload_n 2, 1) := by decide +kernel
theorem dX1_chance_17 : decode cX1_chance 17 = .ok (.iload_n 3, 1) := by decide +kernel
theorem dX1_chance_18 : decode cX1_chance 18 = .ok (.iconst 1, 1) := by decide +kernel
theorem dX1_chance_19 : decode cX1_chance 19 = .ok (.iadd, 1) := by decide +kernel
theorem dX1_chance_20 : decode cX1_chance 20 = .ok (.invokevirtual 58, 3) := by decide +kernel
theorem dX1_chance_23 : decode cX1_chance 23 = .ok (.lreturn, 1) := by decide +kernel
theorem dX1_surprise_0 : decode cX1_surprise 0 = .ok (.ldc2_w 61, 3) := by decide +kernel
theorem dX1_surprise_3 : decode cX1_surprise 3 = .ok (.aload_n 0, 1) := by decide +kernel
theorem dX1_surprise_4 : decode cX1_surprise 4 = .ok (.iload_n 2, 1) := by decide +kernel
theorem dX1_surprise_5 : decode cX1_surprise 5 = .ok (.iload_n 3, 1) := by decide +kernel
theorem dX1_surprise_6 : decode cX1_surprise 6 = .ok (.invokevirtual 58, 3) := by decide +kernel
theorem dX1_surprise_9 : decode cX1_surprise 9 = .ok (.lmul, 1) := by decide +kernel
theorem dX1_surprise_10 : decode cX1_surprise 10 = .ok (.lstore 4, 2) := by decide +kernel
theorem dX1_surprise_12 : decode cX1_surprise 12 = .ok (.iconst 0, 1) := by decide +kernel
theorem dX1_surprise_13 : decode cX1_surprise 13 = .ok (.istore 6, 2) := by decide +kernel
theorem dX1_surprise_15 : decode cX1_surprise 15 = .ok (.ldc2_w 63, 3) := by decide +kernel
theorem dX1_surprise_18 : decode cX1_surprise 18 = .ok (.aload_n 0, 1) := by decide +kernel
theorem dX1_surprise_19 : decode cX1_surprise 19 = .ok (.iload_n 1, 1) := by decide +kernel
theorem dX1_surprise_20 : decode cX1_surprise 20 = .ok (.iload_n 2, 1) := by decide +kernel
theorem dX1_surprise_21 : decode cX1_surprise 21 = .ok (.iload_n 3, 1) := by decide +kernel
theorem dX1_surprise_22 : decode cX1_surprise 22 = .ok (.invokevirtual 65, 3) := by decide +kernel
theorem dX1_surprise_25 : decode cX1_surprise 25 = .ok (.lmul, 1) := by decide +kernel
theorem dX1_surprise_26 : decode cX1_surprise 26 = .ok (.lstore 7, 2) := by decide +kernel
theorem dX1_surprise_28 : decode cX1_surprise 28 = .ok (.lload 7, 2) := by decide +kernel
theorem dX1_surprise_30 : decode cX1_surprise 30 = .ok (.lload 4, 2) := by decide +kernel
theorem dX1_surprise_32 : decode cX1_surprise 32 = .ok (.lcmp, 1) := by decide +kernel
theorem dX1_surprise_33 : decode cX1_surprise 33 = .ok (.ifCond .gt 17, 3) := by decide +kernel
theorem dX1_surprise_36 : decode cX1_surprise 36 = .ok (.iinc 6 1, 3) := by decide +kernel
theorem dX1_surprise_39 : decode cX1_surprise 39 = .ok (.lload 7, 2) := by decide +kernel
theorem dX1_surprise_41 : decode cX1_surprise 41 = .ok (.ldc2_w 63, 3) := by decide +kernel
theorem dX1_surprise_44 : decode cX1_surprise 44 = .ok (.lmul, 1) := by decide +kernel
theorem dX1_surprise_45 : decode cX1_surprise 45 = .ok (.lstore 7, 2) := by decide +kernel
theorem dX1_surprise_47 : decode cX1_surprise 47 = .ok (.goto (-19), 3) := by decide +kernel
theorem dX1_surprise_50 : decode cX1_surprise 50 = .ok (.iload 6, 2) := by decide +kernel
theorem dX1_surprise_52 : decode cX1_surprise 52 = .ok (.ireturn, 1) := by decide +kernel
theorem dX1_leader_0 : decode cX1_leader 0 = .ok (.iconst 0, 1) := by decide +kernel
theorem dX1_leader_1 : decode cX1_leader 1 = .ok (.istore_n 3, 1) := by decide +kernel
theorem dX1_leader_2 : decode cX1_leader 2 = .ok (.iconst 1, 1) := by decide +kernel
theorem dX1_leader_3 : decode cX1_leader 3 = .ok (.istore 4, 2) := by decide +kernel
theorem dX1_leader_5 : decode cX1_leader 5 = .ok (.iload 4, 2) := by decide +kernel
theorem dX1_leader_7 : decode cX1_leader 7 = .ok (.aload_n 0, 1) := by decide +kernel
theorem dX1_leader_8 : decode cX1_leader 8 = .ok (.getfield 23, 3) := by decide +kernel
theorem dX1_leader_11 : decode cX1_leader 11 = .ok (.if_icmp .ge 31, 3) := by decide +kernel
theorem dX1_leader_14 : decode cX1_leader 14 = .ok (.aload_n 0, 1) := by decide +kernel
theorem dX1_leader_15 : decode cX1_leader 15 = .ok (.iload 4, 2) := by decide +kernel
theorem dX1_leader_17 : decode cX1_leader 17 = .ok (.iload_n 1, 1) := by decide +kernel
theorem dX1_leader_18 : decode cX1_leader 18 = .ok (.iload_n 2, 1) := by decide +kernel
theorem dX1_leader_19 : decode cX1_leader 19 = .ok (.invokevirtual 55, 3) := by decide +kernel
theorem dX1_leader_22 : decode cX1_leader 22 = .ok (.aload_n 0, 1) := by decide +kernel
theorem dX1_leader_23 : decode cX1_leader 23 = .ok (.iload_n 3, 1) := by decide +kernel
theorem dX1_leader_24 : decode cX1_leader 24 = .ok (.iload_n 1, 1) := by decide +kernel
theorem dX1_leader_25 : decode cX1_leader 25 = .ok (.iload_n 2, 1) := by decide +kernel
theorem dX1_leader_26 : decode cX1_leader 26 = .ok (.invokevirtual 55, 3) := by decide +kernel
theorem dX1_leader_29 : decode cX1_leader 29 = .ok (.lcmp, 1) := by decide +kernel
theorem dX1_leader_30 : decode cX1_leader 30 = .ok (.ifCond .le 6, 3) := by decide +kernel
theorem dX1_leader_33 : decode cX1_leader 33 = .ok (.iload 4, 2) := by decide +kernel
theorem dX1_leader_35 : decode cX1_leader 35 = .ok (.istore_n 3, 1) := by decide +kernel
theorem dX1_leader_36 : decode cX1_leader 36 = .ok (.iinc 4 1, 3) := by decide +kernel
theorem dX1_leader_39 : decode cX1_leader 39 = .ok (.goto (-34), 3) := by decide +kernel
theorem dX1_leader_42 : decode cX1_leader 42 = .ok (.iload_n 3, 1) := by decide +kernel
theorem dX1_leader_43 : decode cX1_leader 43 = .ok (.ireturn, 1) := by decide +kernel
theorem dX1_here_0 : decode cX1_here 0 = .ok (.aload_n 0, 1) := by decide +kernel
theorem dX1_here_1 : decode cX1_here 1 = .ok (.iload_n 1, 1) := by decide +kernel
theorem dX1_here_2 : decode cX1_here 2 = .ok (.aload_n 0, 1) := by decide +kernel
theorem dX1_here_3 : decode cX1_here 3 = .ok (.invokevirtual 69, 3) := by decide +kernel
theorem dX1_here_6 : decode cX1_here 6 = .ok (.aload_n 0, 1) := by decide +kernel
theorem dX1_here_7 : decode cX1_here 7 = .ok (.getfield 33, 3) := by decide +kernel
theorem dX1_here_10 : decode cX1_here 10 = .ok (.aload_n 0, 1) := by decide +kernel
theorem dX1_here_11 : decode cX1_here 11 = .ok (.invokevirtual 69, 3) := by decide +kernel
theorem dX1_here_14 : decode cX1_here 14 = .ok (.isub, 1) := by decide +kernel
theorem dX1_here_15 : decode cX1_here 15 = .ok (.invokevirtual 55, 3) := by decide +kernel
theorem dX1_here_18 : decode cX1_here 18 = .ok (.lreturn, 1) := by decide +kernel
theorem dX1_all_0 : decode cX1_all 0 = .ok (.aload_n 0, 1) := by decide +kernel
theorem dX1_all_1 : decode cX1_all 1 = .ok (.aload_n 0, 1) := by decide +kernel
theorem dX1_all_2 : decode cX1_all 2 = .ok (.invokevirtual 69, 3) := by decide +kernel
theorem dX1_all_5 : decode cX1_all 5 = .ok (.aload_n 0, 1) := by decide +kernel
theorem dX1_all_6 : decode cX1_all 6 = .ok (.getfield 33, 3) := by decide +kernel
theorem dX1_all_9 : decode cX1_all 9 = .ok (.aload_n 0, 1) := by decide +kernel
theorem dX1_all_10 : decode cX1_all 10 = .ok (.invokevirtual 69, 3) := by decide +kernel
theorem dX1_all_13 : decode cX1_all 13 = .ok (.isub, 1) := by decide +kernel
theorem dX1_all_14 : decode cX1_all 14 = .ok (.invokevirtual 58, 3) := by decide +kernel
theorem dX1_all_17 : decode cX1_all 17 = .ok (.lreturn, 1) := by decide +kernel
theorem dX1_addCoin_0 : decode cX1_addCoin 0 = .ok (.aload_n 0, 1) := by decide +kernel
theorem dX1_addCoin_1 : decode cX1_addCoin 1 = .ok (.iconst 0, 1) := by decide +kernel
theorem dX1_addCoin_2 : decode cX1_addCoin 2 = .ok (.putfield 19, 3) := by decide +kernel
theorem dX1_addCoin_5 : decode cX1_addCoin 5 = .ok (.iload_n 1, 1) := by decide +kernel
theorem dX1_addCoin_6 : decode cX1_addCoin 6 = .ok (.iconst 0, 1) := by decide +kernel
theorem dX1_addCoin_7 : decode cX1_addCoin 7 = .ok (.bipush 10, 2) := by decide +kernel
theorem dX1_addCoin_9 : decode cX1_addCoin 9 = .ok (.invokestatic 26, 3) := by decide +kernel
theorem dX1_addCoin_12 : decode cX1_addCoin 12 = .ok (.ifCond .ne 9, 3) := by decide +kernel
theorem dX1_addCoin_15 : decode cX1_addCoin 15 = .ok (.aload_n 0, 1) := by decide +kernel
theorem dX1_addCoin_16 : decode cX1_addCoin 16 = .ok (.iconst 1, 1) := by decide +kernel
theorem dX1_addCoin_17 : decode cX1_addCoin 17 = .ok (.invokevirtual 73, 3) := by decide +kernel
theorem dX1_addCoin_20 : decode cX1_addCoin 20 = .ok (.ireturn, 1) := by decide +kernel
theorem dX1_addCoin_21 : decode cX1_addCoin 21 = .ok (.aload_n 0, 1) := by decide +kernel
theorem dX1_addCoin_22 : decode cX1_addCoin 22 = .ok (.getfield 23, 3) := by decide +kernel
theorem dX1_addCoin_25 : decode cX1_addCoin 25 = .ok (.bipush 8, 2) := by decide +kernel
theorem dX1_addCoin_27 : decode cX1_addCoin 27 = .ok (.if_icmp .eq 10, 3) := by decide +kernel
theorem dX1_addCoin_30 : decode cX1_addCoin 30 = .ok (.aload_n 0, 1) := by decide +kernel
theorem dX1_addCoin_31 : decode cX1_addCoin 31 = .ok (.getfield 33, 3) := by decide +kernel
theorem dX1_addCoin_34 : decode cX1_addCoin 34 = .ok (.ifCond .le 9, 3) := by decide +kernel
theorem dX1_addCoin_37 : decode cX1_addCoin 37 = .ok (.aload_n 0, 1) := by decide +kernel
theorem dX1_addCoin_38 : decode cX1_addCoin 38 = .ok (.iconst 2, 1) := by decide +kernel
theorem dX1_addCoin_39 : decode cX1_addCoin 39 = .ok (.invokevirtual 73, 3) := by decide +kernel
theorem dX1_addCoin_42 : decode cX1_addCoin 42 = .ok (.ireturn, 1) := by decide +kernel
theorem dX1_addCoin_43 : decode cX1_addCoin 43 = .ok (.aload_n 0, 1) := by decide +kernel
theorem dX1_addCoin_44 : decode cX1_addCoin 44 = .ok (.getfield 9, 3) := by decide +kernel
theorem dX1_addCoin_47 : decode cX1_addCoin 47 = .ok (.aload_n 0, 1) := by decide +kernel
theorem dX1_addCoin_48 : decode cX1_addCoin 48 = .ok (.getfield 23, 3) := by decide +kernel
theorem dX1_addCoin_51 : decode cX1_addCoin 51 = .ok (.iload_n 1, 1) := by decide +kernel
theorem dX1_addCoin_52 : decode cX1_addCoin 52 = .ok (.iastore, 1) := by decide +kernel
theorem dX1_addCoin_53 : decode cX1_addCoin 53 = .ok (.iconst 0, 1) := by decide +kernel
theorem dX1_addCoin_54 : decode cX1_addCoin 54 = .ok (.istore_n 2, 1) := by decide +kernel
theorem dX1_addCoin_55 : decode cX1_addCoin 55 = .ok (.iload_n 2, 1) := by decide +kernel
theorem dX1_addCoin_56 : decode cX1_addCoin 56 = .ok (.aload_n 0, 1) := by decide +kernel
theorem dX1_addCoin_57 : decode cX1_addCoin 57 = .ok (.getfield 30, 3) := by decide +kernel
theorem dX1_addCoin_60 : decode cX1_addCoin 60 = .ok (.if_icmp .ge 23, 3) := by decide +kernel
theorem dX1_addCoin_63 : decode cX1_addCoin 63 = .ok (.aload_n 0, 1) := by decide +kernel
theorem dX1_addCoin_64 : decode cX1_addCoin 64 = .ok (.getfield 16, 3) := by decide +kernel
theorem dX1_addCoin_67 : decode cX1_addCoin 67 = .ok (.iconst 4, 1) := by decide +kernel
theorem dX1_addCoin_68 : decode cX1_addCoin 68 = .ok (.aload_n 0, 1) := by decide +kernel
theorem dX1_addCoin_69 : decode cX1_addCoin 69 = .ok (.getfield 23, 3) := by decide +kernel
theorem dX1_addCoin_72 : decode cX1_addCoin 72 = .ok (.imul, 1) := by decide +kernel
theorem dX1_addCoin_73 : decode cX1_addCoin 73 = .ok (.iload_n 2, 1) := by decide +kernel
theorem dX1_addCoin_74 : decode cX1_addCoin 74 = .ok (.iadd, 1) := by decide +kernel
theorem dX1_addCoin_75 : decode cX1_addCoin 75 = .ok (.iconst 1, 1) := by decide +kernel
theorem dX1_addCoin_76 : decode cX1_addCoin 76 = .ok (.iastore, 1) := by decide +kernel
theorem dX1_addCoin_77 : decode cX1_addCoin 77 = .ok (.iinc 2 1, 3) := by decide +kernel
theorem dX1_addCoin_80 : decode cX1_addCoin 80 = .ok (.goto (-25), 3) := by decide +kernel
theorem dX1_addCoin_83 : decode cX1_addCoin 83 = .ok (.aload_n 0, 1) := by decide +kernel
theorem dX1_addCoin_84 : decode cX1_addCoin 84 = .ok (.dup, 1) := by decide +kernel
theorem dX1_addCoin_85 : decode cX1_addCoin 85 = .ok (.getfield 23, 3) := by decide +kernel
theorem dX1_addCoin_88 : decode cX1_addCoin 88 = .ok (.iconst 1, 1) := by decide +kernel
theorem dX1_addCoin_89 : decode cX1_addCoin 89 = .ok (.iadd, 1) := by decide +kernel
theorem dX1_addCoin_90 : decode cX1_addCoin 90 = .ok (.putfield 23, 3) := by decide +kernel
theorem dX1_addCoin_93 : decode cX1_addCoin 93 = .ok (.aload_n 0, 1) := by decide +kernel
theorem dX1_addCoin_94 : decode cX1_addCoin 94 = .ok (.getfield 23, 3) := by decide +kernel
theorem dX1_addCoin_97 : decode cX1_addCoin 97 = .ok (.iconst 1, 1) := by decide +kernel
theorem dX1_addCoin_98 : decode cX1_addCoin 98 = .ok (.isub, 1) := by decide +kernel
theorem dX1_addCoin_99 : decode cX1_addCoin 99 = .ok (.ireturn, 1) := by decide +kernel
theorem dX1_addSchool_0 : decode cX1_addSchool 0 = .ok (.aload_n 0, 1) := by decide +kernel
theorem dX1_addSchool_1 : decode cX1_addSchool 1 = .ok (.iconst 0, 1) := by decide +kernel
theorem dX1_addSchool_2 : decode cX1_addSchool 2 = .ok (.putfield 19, 3) := by decide +kernel
theorem dX1_addSchool_5 : decode cX1_addSchool 5 = .ok (.iload_n 1, 1) := by decide +kernel
theorem dX1_addSchool_6 : decode cX1_addSchool 6 = .ok (.iconst 1, 1) := by decide +kernel
theorem dX1_addSchool_7 : decode cX1_addSchool 7 = .ok (.bipush 9, 2) := by decide +kernel
theorem dX1_addSchool_9 : decode cX1_addSchool 9 = .ok (.invokestatic 26, 3) := by decide +kernel
theorem dX1_addSchool_12 : decode cX1_addSchool 12 = .ok (.ifCond .ne 9, 3) := by decide +kernel
theorem dX1_addSchool_15 : decode cX1_addSchool 15 = .ok (.aload_n 0, 1) := by decide +kernel
theorem dX1_addSchool_16 : decode cX1_addSchool 16 = .ok (.iconst 1, 1) := by decide +kernel
theorem dX1_addSchool_17 : decode cX1_addSchool 17 = .ok (.invokevirtual 73, 3) := by decide +kernel
theorem dX1_addSchool_20 : decode cX1_addSchool 20 = .ok (.ireturn, 1) := by decide +kernel
theorem dX1_addSchool_21 : decode cX1_addSchool 21 = .ok (.aload_n 0, 1) := by decide +kernel
theorem dX1_addSchool_22 : decode cX1_addSchool 22 = .ok (.getfield 30, 3) := by decide +kernel
theorem dX1_addSchool_25 : decode cX1_addSchool 25 = .ok (.iconst 4, 1) := by decide +kernel
theorem dX1_addSchool_26 : decode cX1_addSchool 26 = .ok (.if_icmp .eq 10, 3) := by decide +kernel
theorem dX1_addSchool_29 : decode cX1_addSchool 29 = .ok (.aload_n 0, 1) := by decide +kernel
theorem dX1_addSchool_30 : decode cX1_addSchool 30 = .ok (.getfield 33, 3) := by decide +kernel
theorem dX1_addSchool_33 : decode cX1_addSchool 33 = .ok (.ifCond .le 9, 3) := by decide +kernel
theorem dX1_addSchool_36 : decode cX1_addSchool 36 = .ok (.aload_n 0, 1) := by decide +kernel
theorem dX1_addSchool_37 : decode cX1_addSchool 37 = .ok (.iconst 2, 1) := by decide +kernel
theorem dX1_addSchool_38 : decode cX1_addSchool 38 = .ok (.invokevirtual 73, 3) := by decide +kernel
theorem dX1_addSchool_41 : decode cX1_addSchool 41 = .ok (.ireturn, 1) := by decide +kernel
theorem dX1_addSchool_42 : decode cX1_addSchool 42 = .ok (.aload_n 0, 1) := by decide +kernel
theorem dX1_addSchool_43 : decode cX1_addSchool 43 = .ok (.getfield 13, 3) := by decide +kernel
theorem dX1_addSchool_46 : decode cX1_addSchool 46 = .ok (.aload_n 0, 1) := by decide +kernel
theorem dX1_addSchool_47 : decode cX1_addSchool 47 = .ok (.getfield 30, 3) := by decide +kernel
theorem dX1_addSchool_50 : decode cX1_addSchool 50 = .ok (.iload_n 1, 1) := by decide +kernel
theorem dX1_addSchool_51 : decode cX1_addSchool 51 = .ok (.iastore, 1) := by decide +kernel
theorem dX1_addSchool_52 : decode cX1_addSchool 52 = .ok (.iconst 0, 1) := by decide +kernel
theorem dX1_addSchool_53 : decode cX1_addSchool 53 = .ok (.istore_n 2, 1) := by decide +kernel
theorem dX1_addSchool_54 : decode cX1_addSchool 54 = .ok (.iload_n 2, 1) := by decide +kernel
theorem dX1_addSchool_55 : decode cX1_addSchool 55 = .ok (.aload_n 0, 1) := by decide +kernel
theorem dX1_addSchool_56 : decode cX1_addSchool 56 = .ok (.getfield 23, 3) := by decide +kernel
theorem dX1_addSchool_59 : decode cX1_addSchool 59 = .ok (.if_icmp .ge 23, 3) := by decide +kernel
theorem dX1_addSchool_62 : decode cX1_addSchool 62 = .ok (.aload_n 0, 1) := by decide +kernel
theorem dX1_addSchool_63 : decode cX1_addSchool 63 = .ok (.getfield 16, 3) := by decide +kernel
theorem dX1_addSchool_66 : decode cX1_addSchool 66 = .ok (.iconst 4, 1) := by decide +kernel
theorem dX1_addSchool_67 : decode cX1_addSchool 67 = .ok (.iload_n 2, 1) := by decide +kernel
theorem dX1_addSchool_68 : decode cX1_addSchool 68 = .ok (.imul, 1) := by decide +kernel
theorem dX1_addSchool_69 : decode cX1_addSchool 69 = .ok (.aload_n 0, 1) := by decide +kernel
theorem dX1_addSchool_70 : decode cX1_addSchool 70 = .ok (.getfield 30, 3) := by decide +kernel
theorem dX1_addSchool_73 : decode cX1_addSchool 73 = .ok (.iadd, 1) := by decide +kernel
theorem dX1_addSchool_74 : decode cX1_addSchool 74 = .ok (.iconst 1, 1) := by decide +kernel
theorem dX1_addSchool_75 : decode cX1_addSchool 75 = .ok (.iastore, 1) := by decide +kernel
theorem dX1_addSchool_76 : decode cX1_addSchool 76 = .ok (.iinc 2 1, 3) := by decide +kernel
theorem dX1_addSchool_79 : decode cX1_addSchool 79 = .ok (.goto (-25), 3) := by decide +kernel
theorem dX1_addSchool_82 : decode cX1_addSchool 82 = .ok (.aload_n 0, 1) := by decide +kernel
theorem dX1_addSchool_83 : decode cX1_addSchool 83 = .ok (.dup, 1) := by decide +kernel
theorem dX1_addSchool_84 : decode cX1_addSchool 84 = .ok (.getfield 30, 3) := by decide +kernel
theorem dX1_addSchool_87 : decode cX1_addSchool 87 = .ok (.iconst 1, 1) := by decide +kernel
theorem dX1_addSchool_88 : decode cX1_addSchool 88 = .ok (.iadd, 1) := by decide +kernel
theorem dX1_addSchool_89 : decode cX1_addSchool 89 = .ok (.putfield 30, 3) := by decide +kernel
theorem dX1_addSchool_92 : decode cX1_addSchool 92 = .ok (.aload_n 0, 1) := by decide +kernel
theorem dX1_addSchool_93 : decode cX1_addSchool 93 = .ok (.getfield 30, 3) := by decide +kernel
theorem dX1_addSchool_96 : decode cX1_addSchool 96 = .ok (.iconst 1, 1) := by decide +kernel
theorem dX1_addSchool_97 : decode cX1_addSchool 97 = .ok (.isub, 1) := by decide +kernel
theorem dX1_addSchool_98 : decode cX1_addSchool 98 = .ok (.ireturn, 1) := by decide +kernel
theorem dX1_setShare_0 : decode cX1_setShare 0 = .ok (.aload_n 0, 1) := by decide +kernel
theorem dX1_setShare_1 : decode cX1_setShare 1 = .ok (.iconst 0, 1) := by decide +kernel
theorem dX1_setShare_2 : decode cX1_setShare 2 = .ok (.putfield 19, 3) := by decide +kernel
theorem dX1_setShare_5 : decode cX1_setShare 5 = .ok (.aload_n 0, 1) := by decide +kernel
theorem dX1_setShare_6 : decode cX1_setShare 6 = .ok (.iload_n 1, 1) := by decide +kernel
theorem dX1_setShare_7 : decode cX1_setShare 7 = .ok (.invokevirtual 76, 3) := by decide +kernel
theorem dX1_setShare_10 : decode cX1_setShare 10 = .ok (.ifCond .eq 11, 3) := by decide +kernel
theorem dX1_setShare_13 : decode cX1_setShare 13 = .ok (.aload_n 0, 1) := by decide +kernel
theorem dX1_setShare_14 : decode cX1_setShare 14 = .ok (.iload_n 2, 1) := by decide +kernel
theorem dX1_setShare_15 : decode cX1_setShare 15 = .ok (.invokevirtual 80, 3) := by decide +kernel
theorem dX1_setShare_18 : decode cX1_setShare 18 = .ok (.ifCond .ne 9, 3) := by decide +kernel
theorem dX1_setShare_21 : decode cX1_setShare 21 = .ok (.aload_n 0, 1) := by decide +kernel
theorem dX1_setShare_22 : decode cX1_setShare 22 = .ok (.iconst 1, 1) := by decide +kernel
theorem dX1_setShare_23 : decode cX1_setShare 23 = .ok (.invokevirtual 73, 3) := by decide +kernel
theorem dX1_setShare_26 : decode cX1_setShare 26 = .ok (.ireturn, 1) := by decide +kernel
theorem dX1_setShare_27 : decode cX1_setShare 27 = .ok (.iload_n 3, 1) := by decide +kernel
theorem dX1_setShare_28 : decode cX1_setShare 28 = .ok (.iconst 0, 1) := by decide +kernel
theorem dX1_setShare_29 : decode cX1_setShare 29 = .ok (.bipush 9, 2) := by decide +kernel
theorem dX1_setShare_31 : decode cX1_setShare 31 = .ok (.invokestatic 26, 3) := by decide +kernel
theorem dX1_setShare_34 : decode cX1_setShare 34 = .ok (.ifCond .ne 9, 3) := by decide +kernel
theorem dX1_setShare_37 : decode cX1_setShare 37 = .ok (.aload_n 0, 1) := by decide +kernel
theorem dX1_setShare_38 : decode cX1_setShare 38 = .ok (.iconst 2, 1) := by decide +kernel
theorem dX1_setShare_39 : decode cX1_setShare 39 = .ok (.invokevirtual 73, 3) := by decide +kernel
theorem dX1_setShare_42 : decode cX1_setShare 42 = .ok (.ireturn, 1) := by decide +kernel
theorem dX1_setShare_43 : decode cX1_setShare 43 = .ok (.aload_n 0, 1) := by decide +kernel
theorem dX1_setShare_44 : decode cX1_setShare 44 = .ok (.getfield 33, 3) := by decide +kernel
theorem dX1_setShare_47 : decode cX1_setShare 47 = .ok (.ifCond .le 9, 3) := by decide +kernel
theorem dX1_setShare_50 : decode cX1_setShare 50 = .ok (.aload_n 0, 1) := by decide +kernel
theorem dX1_setShare_51 : decode cX1_setShare 51 = .ok (.iconst 3, 1) := by decide +kernel
theorem dX1_setShare_52 : decode cX1_setShare 52 = .ok (.invokevirtual 73, 3) := by decide +kernel
theorem dX1_setShare_55 : decode cX1_setShare 55 = .ok (.ireturn, 1) := by decide +kernel
theorem dX1_setShare_56 : decode cX1_setShare 56 = .ok (.aload_n 0, 1) := by decide +kernel
theorem dX1_setShare_57 : decode cX1_setShare 57 = .ok (.getfield 16, 3) := by decide +kernel
theorem dX1_setShare_60 : decode cX1_setShare 60 = .ok (.iconst 4, 1) := by decide +kernel
theorem dX1_setShare_61 : decode cX1_setShare 61 = .ok (.iload_n 2, 1) := by decide +kernel
theorem dX1_setShare_62 : decode cX1_setShare 62 = .ok (.imul, 1) := by decide +kernel
theorem dX1_setShare_63 : decode cX1_setShare 63 = .ok (.iload_n 1, 1) := by decide +kernel
theorem dX1_setShare_64 : decode cX1_setShare 64 = .ok (.iadd, 1) := by decide +kernel
theorem dX1_setShare_65 : decode cX1_setShare 65 = .ok (.iaload, 1) := by decide +kernel
theorem dX1_setShare_66 : decode cX1_setShare 66 = .ok (.istore 4, 2) := by decide +kernel
theorem dX1_setShare_68 : decode cX1_setShare 68 = .ok (.aload_n 0, 1) := by decide +kernel
theorem dX1_setShare_69 : decode cX1_setShare 69 = .ok (.getfield 16, 3) := by decide +kernel
theorem dX1_setShare_72 : decode cX1_setShare 72 = .ok (.iconst 4, 1) := by decide +kernel
theorem dX1_setShare_73 : decode cX1_setShare 73 = .ok (.iload_n 2, 1) := by decide +kernel
theorem dX1_setShare_74 : decode cX1_setShare 74 = .ok (.imul, 1) := by decide +kernel
theorem dX1_setShare_75 : decode cX1_setShare 75 = .ok (.iload_n 1, 1) := by decide +kernel
theorem dX1_setShare_76 : decode cX1_setShare 76 = .ok (.iadd, 1) := by decide +kernel
theorem dX1_setShare_77 : decode cX1_setShare 77 = .ok (.iload_n 3, 1) := by decide +kernel
theorem dX1_setShare_78 : decode cX1_setShare 78 = .ok (.iastore, 1) := by decide +kernel
theorem dX1_setShare_79 : decode cX1_setShare 79 = .ok (.iload 4, 2) := by decide +kernel
theorem dX1_setShare_81 : decode cX1_setShare 81 = .ok (.ireturn, 1) := by decide +kernel
theorem dX1_canBe_0 : decode cX1_canBe 0 = .ok (.aload_n 0, 1) := by decide +kernel
theorem dX1_canBe_1 : decode cX1_canBe 1 = .ok (.iload_n 1, 1) := by decide +kernel
theorem dX1_canBe_2 : decode cX1_canBe 2 = .ok (.aload_n 0, 1) := by decide +kernel
theorem dX1_canBe_3 : decode cX1_canBe 3 = .ok (.invokevirtual 69, 3) := by decide +kernel
theorem dX1_canBe_6 : decode cX1_canBe 6 = .ok (.aload_n 0, 1) := by decide +kernel
theorem dX1_canBe_7 : decode cX1_canBe 7 = .ok (.getfield 33, 3) := by decide +kernel
theorem dX1_canBe_10 : decode cX1_canBe 10 = .ok (.aload_n 0, 1) := by decide +kernel
theorem dX1_canBe_11 : decode cX1_canBe 11 = .ok (.invokevirtual 69, 3) := by decide +kernel
theorem dX1_canBe_14 : decode cX1_canBe 14 = .ok (.isub, 1) := by decide +kernel
theorem dX1_canBe_15 : decode cX1_canBe 15 = .ok (.invokevirtual 65, 3) := by decide +kernel
theorem dX1_canBe_18 : decode cX1_canBe 18 = .ok (.lconst 0, 1) := by decide +kernel
theorem dX1_canBe_19 : decode cX1_canBe 19 = .ok (.lcmp, 1) := by decide +kernel
theorem dX1_canBe_20 : decode cX1_canBe 20 = .ok (.ifCond .le 7, 3) := by decide +kernel
theorem dX1_canBe_23 : decode cX1_canBe 23 = .ok (.iconst 1, 1) := by decide +kernel
theorem dX1_canBe_24 : decode cX1_canBe 24 = .ok (.goto 4, 3) := by decide +kernel
theorem dX1_canBe_27 : decode cX1_canBe 27 = .ok (.iconst 0, 1) := by decide +kernel
theorem dX1_canBe_28 : decode cX1_canBe 28 = .ok (.ireturn, 1) := by decide +kernel
theorem dX1_toss_0 : decode cX1_toss 0 = .ok (.aload_n 0, 1) := by decide +kernel
theorem dX1_toss_1 : decode cX1_toss 1 = .ok (.iconst 0, 1) := by decide +kernel
theorem dX1_toss_2 : decode cX1_toss 2 = .ok (.putfield 19, 3) := by decide +kernel
theorem dX1_toss_5 : decode cX1_toss 5 = .ok (.aload_n 0, 1) := by decide +kernel
theorem dX1_toss_6 : decode cX1_toss 6 = .ok (.getfield 33, 3) := by decide +kernel
theorem dX1_toss_9 : decode cX1_toss 9 = .ok (.bipush 12, 2) := by decide +kernel
theorem dX1_toss_11 : decode cX1_toss 11 = .ok (.if_icmp .eq 11, 3) := by decide +kernel
theorem dX1_toss_14 : decode cX1_toss 14 = .ok (.aload_n 0, 1) := by decide +kernel
theorem dX1_toss_15 : decode cX1_toss 15 = .ok (.iload_n 1, 1) := by decide +kernel
theorem dX1_toss_16 : decode cX1_toss 16 = .ok (.invokevirtual 83, 3) := by decide +kernel
theorem dX1_toss_19 : decode cX1_toss 19 = .ok (.ifCond .ne 9, 3) := by decide +kernel
theorem dX1_toss_22 : decode cX1_toss 22 = .ok (.aload_n 0, 1) := by decide +kernel
theorem dX1_toss_23 : decode cX1_toss 23 = .ok (.iconst 1, 1) := by decide +kernel
theorem dX1_toss_24 : decode cX1_toss 24 = .ok (.invokevirtual 73, 3) := by decide +kernel
theorem dX1_toss_27 : decode cX1_toss 27 = .ok (.ireturn, 1) := by decide +kernel
theorem dX1_toss_28 : decode cX1_toss 28 = .ok (.aload_n 0, 1) := by decide +kernel
theorem dX1_toss_29 : decode cX1_toss 29 = .ok (.iload_n 1, 1) := by decide +kernel
theorem dX1_toss_30 : decode cX1_toss 30 = .ok (.aload_n 0, 1) := by decide +kernel
theorem dX1_toss_31 : decode cX1_toss 31 = .ok (.invokevirtual 69, 3) := by decide +kernel
theorem dX1_toss_34 : decode cX1_toss 34 = .ok (.aload_n 0, 1) := by decide +kernel
theorem dX1_toss_35 : decode cX1_toss 35 = .ok (.getfield 33, 3) := by decide +kernel
theorem dX1_toss_38 : decode cX1_toss 38 = .ok (.aload_n 0, 1) := by decide +kernel
theorem dX1_toss_39 : decode cX1_toss 39 = .ok (.invokevirtual 69, 3) := by decide +kernel
theorem dX1_toss_42 : decode cX1_toss 42 = .ok (.isub, 1) := by decide +kernel
theorem dX1_toss_43 : decode cX1_toss 43 = .ok (.invokevirtual 87, 3) := by decide +kernel
theorem dX1_toss_46 : decode cX1_toss 46 = .ok (.istore_n 2, 1) := by decide +kernel
theorem dX1_toss_47 : decode cX1_toss 47 = .ok (.aload_n 0, 1) := by decide +kernel
theorem dX1_toss_48 : decode cX1_toss 48 = .ok (.dup, 1) := by decide +kernel
theorem dX1_toss_49 : decode cX1_toss 49 = .ok (.getfield 36, 3) := by decide +kernel
theorem dX1_toss_52 : decode cX1_toss 52 = .ok (.iload_n 1, 1) := by decide +kernel
theorem dX1_toss_53 : decode cX1_toss 53 = .ok (.ifCond .eq 7, 3) := by decide +kernel
theorem dX1_toss_56 : decode cX1_toss 56 = .ok (.iconst 1, 1) := by decide +kernel
theorem dX1_toss_57 : decode cX1_toss 57 = .ok (.goto 4, 3) := by decide +kernel
theorem dX1_toss_60 : decode cX1_toss 60 = .ok (.iconst 0, 1) := by decide +kernel
theorem dX1_toss_61 : decode cX1_toss 61 = .ok (.aload_n 0, 1) := by decide +kernel
theorem dX1_toss_62 : decode cX1_toss 62 = .ok (.getfield 33, 3) := by decide +kernel
theorem dX1_toss_65 : decode cX1_toss 65 = .ok (.ishl, 1) := by decide +kernel
theorem dX1_toss_66 : decode cX1_toss 66 = .ok (.ior, 1) := by decide +kernel
theorem dX1_toss_67 : decode cX1_toss 67 = .ok (.putfield 36, 3) := by decide +kernel
theorem dX1_toss_70 : decode cX1_toss 70 = .ok (.aload_n 0, 1) := by decide +kernel
theorem dX1_toss_71 : decode cX1_toss 71 = .ok (.dup, 1) := by decide +kernel
theorem dX1_toss_72 : decode cX1_toss 72 = .ok (.getfield 33, 3) := by decide +kernel
theorem dX1_toss_75 : decode cX1_toss 75 = .ok (.iconst 1, 1) := by decide +kernel
theorem dX1_toss_76 : decode cX1_toss 76 = .ok (.iadd, 1) := by decide +kernel
theorem dX1_toss_77 : decode cX1_toss 77 = .ok (.putfield 33, 3) := by decide +kernel
theorem dX1_toss_80 : decode cX1_toss 80 = .ok (.iload_n 2, 1) := by decide +kernel
theorem dX1_toss_81 : decode cX1_toss 81 = .ok (.ireturn, 1) := by decide +kernel
theorem dX1_without_0 : decode cX1_without 0 = .ok (.iload_n 0, 1) := by decide +kernel
theorem dX1_without_1 : decode cX1_without 1 = .ok (.iconst 1, 1) := by decide +kernel
theorem dX1_without_2 : decode cX1_without 2 = .ok (.iload_n 1, 1) := by decide +kernel
theorem dX1_without_3 : decode cX1_without 3 = .ok (.ishl, 1) := by decide +kernel
theorem dX1_without_4 : decode cX1_without 4 = .ok (.iconst 1, 1) := by decide +kernel
theorem dX1_without_5 : decode cX1_without 5 = .ok (.isub, 1) := by decide +kernel
theorem dX1_without_6 : decode cX1_without 6 = .ok (.iand, 1) := by decide +kernel
theorem dX1_without_7 : decode cX1_without 7 = .ok (.iload_n 0, 1) := by decide +kernel
theorem dX1_without_8 : decode cX1_without 8 = .ok (.iload_n 1, 1) := by decide +kernel
theorem dX1_without_9 : decode cX1_without 9 = .ok (.iconst 1, 1) := by decide +kernel
theorem dX1_without_10 : decode cX1_without 10 = .ok (.iadd, 1) := by decide +kernel
theorem dX1_without_11 : decode cX1_without 11 = .ok (.ishr, 1) := by decide +kernel
theorem dX1_without_12 : decode cX1_without 12 = .ok (.iload_n 1, 1) := by decide +kernel
theorem dX1_without_13 : decode cX1_without 13 = .ok (.ishl, 1) := by decide +kernel
theorem dX1_without_14 : decode cX1_without 14 = .ok (.ior, 1) := by decide +kernel
theorem dX1_without_15 : decode cX1_without 15 = .ok (.ireturn, 1) := by decide +kernel
theorem dX1_undo_0 : decode cX1_undo 0 = .ok (.aload_n 0, 1) := by decide +kernel
theorem dX1_undo_1 : decode cX1_undo 1 = .ok (.aload_n 0, 1) := by decide +kernel
theorem dX1_undo_2 : decode cX1_undo 2 = .ok (.getfield 33, 3) := by decide +kernel
theorem dX1_undo_5 : decode cX1_undo 5 = .ok (.ifCond .ne 7, 3) := by decide +kernel
theorem dX1_undo_8 : decode cX1_undo 8 = .ok (.iconst 1, 1) := by decide +kernel
theorem dX1_undo_9 : decode cX1_undo 9 = .ok (.goto 4, 3) := by decide +kernel
theorem dX1_undo_12 : decode cX1_undo 12 = .ok (.iconst 0, 1) := by decide +kernel
theorem dX1_undo_13 : decode cX1_undo 13 = .ok (.putfield 19, 3) := by decide +kernel
theorem dX1_undo_16 : decode cX1_undo 16 = .ok (.aload_n 0, 1) := by decide +kernel
theorem dX1_undo_17 : decode cX1_undo 17 = .ok (.getfield 19, 3) := by decide +kernel
theorem dX1_undo_20 : decode cX1_undo 20 = .ok (.ifCond .le 5, 3) := by decide +kernel
theorem dX1_undo_23 : decode cX1_undo 23 = .ok (.iconst 0, 1) := by decide +kernel
theorem dX1_undo_24 : decode cX1_undo 24 = .ok (.ireturn, 1) := by decide +kernel
theorem dX1_undo_25 : decode cX1_undo 25 = .ok (.aload_n 0, 1) := by decide +kernel
theorem dX1_undo_26 : decode cX1_undo 26 = .ok (.dup, 1) := by decide +kernel
theorem dX1_undo_27 : decode cX1_undo 27 = .ok (.getfield 33, 3) := by decide +kernel
theorem dX1_undo_30 : decode cX1_undo 30 = .ok (.iconst 1, 1) := by decide +kernel
theorem dX1_undo_31 : decode cX1_undo 31 = .ok (.isub, 1) := by decide +kernel
theorem dX1_undo_32 : decode cX1_undo 32 = .ok (.putfield 33, 3) := by decide +kernel
theorem dX1_undo_35 : decode cX1_undo 35 = .ok (.aload_n 0, 1) := by decide +kernel
theorem dX1_undo_36 : decode cX1_undo 36 = .ok (.getfield 36, 3) := by decide +kernel
theorem dX1_undo_39 : decode cX1_undo 39 = .ok (.aload_n 0, 1) := by decide +kernel
theorem dX1_undo_40 : decode cX1_undo 40 = .ok (.getfield 33, 3) := by decide +kernel
theorem dX1_undo_43 : decode cX1_undo 43 = .ok (.ishr, 1) := by decide +kernel
theorem dX1_undo_44 : decode cX1_undo 44 = .ok (.iconst 1, 1) := by decide +kernel
theorem dX1_undo_45 : decode cX1_undo 45 = .ok (.iand, 1) := by decide +kernel
theorem dX1_undo_46 : decode cX1_undo 46 = .ok (.iconst 1, 1) := by decide +kernel
theorem dX1_undo_47 : decode cX1_undo 47 = .ok (.if_icmp .ne 7, 3) := by decide +kernel
theorem dX1_undo_50 : decode cX1_undo 50 = .ok (.iconst 1, 1) := by decide +kernel
theorem dX1_undo_51 : decode cX1_undo 51 = .ok (.goto 4, 3) := by decide +kernel
theorem dX1_undo_54 : decode cX1_undo 54 = .ok (.iconst 0, 1) := by decide +kernel
theorem dX1_undo_55 : decode cX1_undo 55 = .ok (.istore_n 1, 1) := by decide +kernel
theorem dX1_undo_56 : decode cX1_undo 56 = .ok (.aload_n 0, 1) := by decide +kernel
theorem dX1_undo_57 : decode cX1_undo 57 = .ok (.aload_n 0, 1) := by decide +kernel
theorem dX1_undo_58 : decode cX1_undo 58 = .ok (.getfield 36, 3) := by decide +kernel
theorem dX1_undo_61 : decode cX1_undo 61 = .ok (.aload_n 0, 1) := by decide +kernel
theorem dX1_undo_62 : decode cX1_undo 62 = .ok (.getfield 33, 3) := by decide +kernel
theorem dX1_undo_65 : decode cX1_undo 65 = .ok (.invokestatic 91, 3) := by decide +kernel
theorem dX1_undo_68 : decode cX1_undo 68 = .ok (.putfield 36, 3) := by decide +kernel
theorem dX1_undo_71 : decode cX1_undo 71 = .ok (.iload_n 1, 1) := by decide +kernel
theorem dX1_undo_72 : decode cX1_undo 72 = .ok (.ireturn, 1) := by decide +kernel
theorem dX1_strike_0 : decode cX1_strike 0 = .ok (.aload_n 0, 1) := by decide +kernel
theorem dX1_strike_1 : decode cX1_strike 1 = .ok (.iconst 0, 1) := by decide +kernel
theorem dX1_strike_2 : decode cX1_strike 2 = .ok (.putfield 19, 3) := by decide +kernel
theorem dX1_strike_5 : decode cX1_strike 5 = .ok (.aload_n 0, 1) := by decide +kernel
theorem dX1_strike_6 : decode cX1_strike 6 = .ok (.iload_n 1, 1) := by decide +kernel
theorem dX1_strike_7 : decode cX1_strike 7 = .ok (.invokevirtual 94, 3) := by decide +kernel
theorem dX1_strike_10 : decode cX1_strike 10 = .ok (.ifCond .ne 9, 3) := by decide +kernel
theorem dX1_strike_13 : decode cX1_strike 13 = .ok (.aload_n 0, 1) := by decide +kernel
theorem dX1_strike_14 : decode cX1_strike 14 = .ok (.iconst 1, 1) := by decide +kernel
theorem dX1_strike_15 : decode cX1_strike 15 = .ok (.invokevirtual 73, 3) := by decide +kernel
theorem dX1_strike_18 : decode cX1_strike 18 = .ok (.ireturn, 1) := by decide +kernel
theorem dX1_strike_19 : decode cX1_strike 19 = .ok (.aload_n 0, 1) := by decide +kernel
theorem dX1_strike_20 : decode cX1_strike 20 = .ok (.aload_n 0, 1) := by decide +kernel
theorem dX1_strike_21 : decode cX1_strike 21 = .ok (.getfield 36, 3) := by decide +kernel
theorem dX1_strike_24 : decode cX1_strike 24 = .ok (.iload_n 1, 1) := by decide +kernel
theorem dX1_strike_25 : decode cX1_strike 25 = .ok (.invokestatic 91, 3) := by decide +kernel
theorem dX1_strike_28 : decode cX1_strike 28 = .ok (.putfield 36, 3) := by decide +kernel
theorem dX1_strike_31 : decode cX1_strike 31 = .ok (.aload_n 0, 1) := by decide +kernel
theorem dX1_strike_32 : decode cX1_strike 32 = .ok (.dup, 1) := by decide +kernel
theorem dX1_strike_33 : decode cX1_strike 33 = .ok (.getfield 33, 3) := by decide +kernel
theorem dX1_strike_36 : decode cX1_strike 36 = .ok (.iconst 1, 1) := by decide +kernel
theorem dX1_strike_37 : decode cX1_strike 37 = .ok (.isub, 1) := by decide +kernel
theorem dX1_strike_38 : decode cX1_strike 38 = .ok (.putfield 33, 3) := by decide +kernel
theorem dX1_strike_41 : decode cX1_strike 41 = .ok (.aload_n 0, 1) := by decide +kernel
theorem dX1_strike_42 : decode cX1_strike 42 = .ok (.getfield 33, 3) := by decide +kernel
theorem dX1_strike_45 : decode cX1_strike 45 = .ok (.ireturn, 1) := by decide +kernel
theorem dX1_coins_0 : decode cX1_coins 0 = .ok (.aload_n 0, 1) := by decide +kernel
theorem dX1_coins_1 : decode cX1_coins 1 = .ok (.aload_n 0, 1) := by decide +kernel
theorem dX1_coins_2 : decode cX1_coins 2 = .ok (.getfield 23, 3) := by decide +kernel
theorem dX1_coins_5 : decode cX1_coins 5 = .ok (.invokevirtual 97, 3) := by decide +kernel
theorem dX1_coins_8 : decode cX1_coins 8 = .ok (.ireturn, 1) := by decide +kernel
theorem dX1_schools_0 : decode cX1_schools 0 = .ok (.aload_n 0, 1) := by decide +kernel
theorem dX1_schools_1 : decode cX1_schools 1 = .ok (.aload_n 0, 1) := by decide +kernel
theorem dX1_schools_2 : decode cX1_schools 2 = .ok (.getfield 30, 3) := by decide +kernel
theorem dX1_schools_5 : decode cX1_schools 5 = .ok (.invokevirtual 97, 3) := by decide +kernel
theorem dX1_schools_8 : decode cX1_schools 8 = .ok (.ireturn, 1) := by decide +kernel
theorem dX1_tosses_0 : decode cX1_tosses 0 = .ok (.aload_n 0, 1) := by decide +kernel
theorem dX1_tosses_1 : decode cX1_tosses 1 = .ok (.aload_n 0, 1) := by decide +kernel
theorem dX1_tosses_2 : decode cX1_tosses 2 = .ok (.getfield 33, 3) := by decide +kernel
theorem dX1_tosses_5 : decode cX1_tosses 5 = .ok (.invokevirtual 97, 3) := by decide +kernel
theorem dX1_tosses_8 : decode cX1_tosses 8 = .ok (.ireturn, 1) := by decide +kernel
theorem dX1_heads_0 : decode cX1_heads 0 = .ok (.aload_n 0, 1) := by decide +kernel
theorem dX1_heads_1 : decode cX1_heads 1 = .ok (.aload_n 0, 1) := by decide +kernel
theorem dX1_heads_2 : decode cX1_heads 2 = .ok (.invokevirtual 69, 3) := by decide +kernel
theorem dX1_heads_5 : decode cX1_heads 5 = .ok (.invokevirtual 97, 3) := by decide +kernel
theorem dX1_heads_8 : decode cX1_heads 8 = .ok (.ireturn, 1) := by decide +kernel
theorem dX1_isUp_0 : decode cX1_isUp 0 = .ok (.aload_n 0, 1) := by decide +kernel
theorem dX1_isUp_1 : decode cX1_isUp 1 = .ok (.getfield 36, 3) := by decide +kernel
theorem dX1_isUp_4 : decode cX1_isUp 4 = .ok (.iload_n 1, 1) := by decide +kernel
theorem dX1_isUp_5 : decode cX1_isUp 5 = .ok (.ishr, 1) := by decide +kernel
theorem dX1_isUp_6 : decode cX1_isUp 6 = .ok (.iconst 1, 1) := by decide +kernel
theorem dX1_isUp_7 : decode cX1_isUp 7 = .ok (.iand, 1) := by decide +kernel
theorem dX1_isUp_8 : decode cX1_isUp 8 = .ok (.iconst 1, 1) := by decide +kernel
theorem dX1_isUp_9 : decode cX1_isUp 9 = .ok (.if_icmp .ne 7, 3) := by decide +kernel
theorem dX1_isUp_12 : decode cX1_isUp 12 = .ok (.iconst 1, 1) := by decide +kernel
theorem dX1_isUp_13 : decode cX1_isUp 13 = .ok (.goto 4, 3) := by decide +kernel
theorem dX1_isUp_16 : decode cX1_isUp 16 = .ok (.iconst 0, 1) := by decide +kernel
theorem dX1_isUp_17 : decode cX1_isUp 17 = .ok (.ireturn, 1) := by decide +kernel
theorem dX1_isHeads_0 : decode cX1_isHeads 0 = .ok (.aload_n 0, 1) := by decide +kernel
theorem dX1_isHeads_1 : decode cX1_isHeads 1 = .ok (.aload_n 0, 1) := by decide +kernel
theorem dX1_isHeads_2 : decode cX1_isHeads 2 = .ok (.iload_n 1, 1) := by decide +kernel
theorem dX1_isHeads_3 : decode cX1_isHeads 3 = .ok (.invokevirtual 94, 3) := by decide +kernel
theorem dX1_isHeads_6 : decode cX1_isHeads 6 = .ok (.ifCond .eq 7, 3) := by decide +kernel
theorem dX1_isHeads_9 : decode cX1_isHeads 9 = .ok (.iconst 0, 1) := by decide +kernel
theorem dX1_isHeads_10 : decode cX1_isHeads 10 = .ok (.goto 4, 3) := by decide +kernel
theorem dX1_isHeads_13 : decode cX1_isHeads 13 = .ok (.iconst 1, 1) := by decide +kernel
theorem dX1_isHeads_14 : decode cX1_isHeads 14 = .ok (.putfield 19, 3) := by decide +kernel
theorem dX1_isHeads_17 : decode cX1_isHeads 17 = .ok (.aload_n 0, 1) := by decide +kernel
theorem dX1_isHeads_18 : decode cX1_isHeads 18 = .ok (.getfield 19, 3) := by decide +kernel
theorem dX1_isHeads_21 : decode cX1_isHeads 21 = .ok (.ifCond .ne 15, 3) := by decide +kernel
theorem dX1_isHeads_24 : decode cX1_isHeads 24 = .ok (.aload_n 0, 1) := by decide +kernel
theorem dX1_isHeads_25 : decode cX1_isHeads 25 = .ok (.iload_n 1, 1) := by decide +kernel
theorem dX1_isHeads_26 : decode cX1_isHeads 26 = .ok (.invokevirtual 100, 3) := by decide +kernel
theorem dX1_isHeads_29 : decode cX1_isHeads 29 = .ok (.ifCond .eq 7, 3) := by decide +kernel
theorem dX1_isHeads_32 : decode cX1_isHeads 32 = .ok (.iconst 1, 1) := by decide +kernel
theorem dX1_isHeads_33 : decode cX1_isHeads 33 = .ok (.goto 4, 3) := by decide +kernel
theorem dX1_isHeads_36 : decode cX1_isHeads 36 = .ok (.iconst 0, 1) := by decide +kernel
theorem dX1_isHeads_37 : decode cX1_isHeads 37 = .ok (.ireturn, 1) := by decide +kernel
theorem dX1_tenthsOf_0 : decode cX1_tenthsOf 0 = .ok (.aload_n 0, 1) := by decide +kernel
theorem dX1_tenthsOf_1 : decode cX1_tenthsOf 1 = .ok (.iconst 0, 1) := by decide +kernel
theorem dX1_tenthsOf_2 : decode cX1_tenthsOf 2 = .ok (.putfield 19, 3) := by decide +kernel
theorem dX1_tenthsOf_5 : decode cX1_tenthsOf 5 = .ok (.aload_n 0, 1) := by decide +kernel
theorem dX1_tenthsOf_6 : decode cX1_tenthsOf 6 = .ok (.iload_n 1, 1) := by decide +kernel
theorem dX1_tenthsOf_7 : decode cX1_tenthsOf 7 = .ok (.invokevirtual 80, 3) := by decide +kernel
theorem dX1_tenthsOf_10 : decode cX1_tenthsOf 10 = .ok (.ifCond .eq 12, 3) := by decide +kernel
theorem dX1_tenthsOf_13 : decode cX1_tenthsOf 13 = .ok (.aload_n 0, 1) := by decide +kernel
theorem dX1_tenthsOf_14 : decode cX1_tenthsOf 14 = .ok (.getfield 9, 3) := by decide +kernel
theorem dX1_tenthsOf_17 : decode cX1_tenthsOf 17 = .ok (.iload_n 1, 1) := by decide +kernel
theorem dX1_tenthsOf_18 : decode cX1_tenthsOf 18 = .ok (.iaload, 1) := by decide +kernel
theorem dX1_tenthsOf_19 : decode cX1_tenthsOf 19 = .ok (.goto 8, 3) := by decide +kernel
theorem dX1_tenthsOf_22 : decode cX1_tenthsOf 22 = .ok (.aload_n 0, 1) := by decide +kernel
theorem dX1_tenthsOf_23 : decode cX1_tenthsOf 23 = .ok (.iconst 1, 1) := by decide +kernel
theorem dX1_tenthsOf_24 : decode cX1_tenthsOf 24 = .ok (.invokevirtual 73, 3) := by decide +kernel
theorem dX1_tenthsOf_27 : decode cX1_tenthsOf 27 = .ok (.ireturn, 1) := by decide +kernel
theorem dX1_oddsOf_0 : decode cX1_oddsOf 0 = .ok (.aload_n 0, 1) := by decide +kernel
theorem dX1_oddsOf_1 : decode cX1_oddsOf 1 = .ok (.iconst 0, 1) := by decide +kernel
theorem dX1_oddsOf_2 : decode cX1_oddsOf 2 = .ok (.putfield 19, 3) := by decide +kernel
theorem dX1_oddsOf_5 : decode cX1_oddsOf 5 = .ok (.aload_n 0, 1) := by decide +kernel
theorem dX1_oddsOf_6 : decode cX1_oddsOf 6 = .ok (.iload_n 1, 1) := by decide +kernel
theorem dX1_oddsOf_7 : decode cX1_oddsOf 7 = .ok (.invokevirtual 76, 3) := by decide +kernel
theorem dX1_oddsOf_10 : decode cX1_oddsOf 10 = .ok (.ifCond .eq 12, 3) := by decide +kernel
theorem dX1_oddsOf_13 : decode cX1_oddsOf 13 = .ok (.aload_n 0, 1) := by decide +kernel
theorem dX1_oddsOf_14 : decode cX1_oddsOf 14 = .ok (.getfield 13, 3) := by decide +kernel
theorem dX1_oddsOf_17 : decode cX1_oddsOf 17 = .ok (.iload_n 1, 1) := by decide +kernel
theorem dX1_oddsOf_18 : decode cX1_oddsOf 18 = .ok (.iaload, 1) := by decide +kernel
theorem dX1_oddsOf_19 : decode cX1_oddsOf 19 = .ok (.goto 8, 3) := by decide +kernel
theorem dX1_oddsOf_22 : decode cX1_oddsOf 22 = .ok (.aload_n 0, 1) := by decide +kernel
theorem dX1_oddsOf_23 : decode cX1_oddsOf 23 = .ok (.iconst 1, 1) := by decide +kernel
theorem dX1_oddsOf_24 : decode cX1_oddsOf 24 = .ok (.invokevirtual 73, 3) := by decide +kernel
theorem dX1_oddsOf_27 : decode cX1_oddsOf 27 = .ok (.ireturn, 1) := by decide +kernel
theorem dX1_shareOf_0 : decode cX1_shareOf 0 = .ok (.aload_n 0, 1) := by decide +kernel
theorem dX1_shareOf_1 : decode cX1_shareOf 1 = .ok (.iconst 0, 1) := by decide +kernel
theorem dX1_shareOf_2 : decode cX1_shareOf 2 = .ok (.putfield 19, 3) := by decide +kernel
theorem dX1_shareOf_5 : decode cX1_shareOf 5 = .ok (.aload_n 0, 1) := by decide +kernel
theorem dX1_shareOf_6 : decode cX1_shareOf 6 = .ok (.iload_n 1, 1) := by decide +kernel
theorem dX1_shareOf_7 : decode cX1_shareOf 7 = .ok (.invokevirtual 76, 3) := by decide +kernel
theorem dX1_shareOf_10 : decode cX1_shareOf 10 = .ok (.ifCond .eq 24, 3) := by decide +kernel
theorem dX1_shareOf_13 : decode cX1_shareOf 13 = .ok (.aload_n 0, 1) := by decide +kernel
theorem dX1_shareOf_14 : decode cX1_shareOf 14 = .ok (.iload_n 2, 1) := by decide +kernel
theorem dX1_shareOf_15 : decode cX1_shareOf 15 = .ok (.invokevirtual 80, 3) := by decide +kernel
theorem dX1_shareOf_18 : decode cX1_shareOf 18 = .ok (.ifCond .eq 16, 3) := by decide +kernel
theorem dX1_shareOf_21 : decode cX1_shareOf 21 = .ok (.aload_n 0, 1) := by decide +kernel
theorem dX1_shareOf_22 : decode cX1_shareOf 22 = .ok (.getfield 16, 3) := by decide +kernel
theorem dX1_shareOf_25 : decode cX1_shareOf 25 = .ok (.iconst 4, 1) := by decide +kernel
theorem dX1_shareOf_26 : decode cX1_shareOf 26 = .ok (.iload_n 2, 1) := by decide +kernel
theorem dX1_shareOf_27 : decode cX1_shareOf 27 = .ok (.imul, 1) := by decide +kernel
theorem dX1_shareOf_28 : decode cX1_shareOf 28 = .ok (.iload_n 1, 1) := by decide +kernel
theorem dX1_shareOf_29 : decode cX1_shareOf 29 = .ok (.iadd, 1) := by decide +kernel
theorem dX1_shareOf_30 : decode cX1_shareOf 30 = .ok (.iaload, 1) := by decide +kernel
theorem dX1_shareOf_31 : decode cX1_shareOf 31 = .ok (.goto 8, 3) := by decide +kernel
theorem dX1_shareOf_34 : decode cX1_shareOf 34 = .ok (.aload_n 0, 1) := by decide +kernel
theorem dX1_shareOf_35 : decode cX1_shareOf 35 = .ok (.iconst 1, 1) := by decide +kernel
theorem dX1_shareOf_36 : decode cX1_shareOf 36 = .ok (.invokevirtual 73, 3) := by decide +kernel
theorem dX1_shareOf_39 : decode cX1_shareOf 39 = .ok (.ireturn, 1) := by decide +kernel
theorem dX1_pair_0 : decode cX1_pair 0 = .ok (.aload_n 0, 1) := by decide +kernel
theorem dX1_pair_1 : decode cX1_pair 1 = .ok (.getfield 13, 3) := by decide +kernel
theorem dX1_pair_4 : decode cX1_pair 4 = .ok (.iload_n 1, 1) := by decide +kernel
theorem dX1_pair_5 : decode cX1_pair 5 = .ok (.iaload, 1) := by decide +kernel
theorem dX1_pair_6 : decode cX1_pair 6 = .ok (.aload_n 0, 1) := by decide +kernel
theorem dX1_pair_7 : decode cX1_pair 7 = .ok (.getfield 16, 3) := by decide +kernel
theorem dX1_pair_10 : decode cX1_pair 10 = .ok (.iconst 4, 1) := by decide +kernel
theorem dX1_pair_11 : decode cX1_pair 11 = .ok (.iload_n 2, 1) := by decide +kernel
theorem dX1_pair_12 : decode cX1_pair 12 = .ok (.imul, 1) := by decide +kernel
theorem dX1_pair_13 : decode cX1_pair 13 = .ok (.iload_n 1, 1) := by decide +kernel
theorem dX1_pair_14 : decode cX1_pair 14 = .ok (.iadd, 1) := by decide +kernel
theorem dX1_pair_15 : decode cX1_pair 15 = .ok (.iaload, 1) := by decide +kernel
theorem dX1_pair_16 : decode cX1_pair 16 = .ok (.imul, 1) := by decide +kernel
theorem dX1_pair_17 : decode cX1_pair 17 = .ok (.i2l, 1) := by decide +kernel
theorem dX1_pair_18 : decode cX1_pair 18 = .ok (.aload_n 0, 1) := by decide +kernel
theorem dX1_pair_19 : decode cX1_pair 19 = .ok (.iload_n 2, 1) := by decide +kernel
theorem dX1_pair_20 : decode cX1_pair 20 = .ok (.aload_n 0, 1) := by decide +kernel
theorem dX1_pair_21 : decode cX1_pair 21 = .ok (.invokevirtual 69, 3) := by decide +kernel
theorem dX1_pair_24 : decode cX1_pair 24 = .ok (.aload_n 0, 1) := by decide +kernel
theorem dX1_pair_25 : decode cX1_pair 25 = .ok (.getfield 33, 3) := by decide +kernel
theorem dX1_pair_28 : decode cX1_pair 28 = .ok (.aload_n 0, 1) := by decide +kernel
theorem dX1_pair_29 : decode cX1_pair 29 = .ok (.invokevirtual 69, 3) := by decide +kernel
theorem dX1_pair_32 : decode cX1_pair 32 = .ok (.isub, 1) := by decide +kernel
theorem dX1_pair_33 : decode cX1_pair 33 = .ok (.invokevirtual 51, 3) := by decide +kernel
theorem dX1_pair_36 : decode cX1_pair 36 = .ok (.lmul, 1) := by decide +kernel
theorem dX1_pair_37 : decode cX1_pair 37 = .ok (.lreturn, 1) := by decide +kernel
theorem dX1_schoolHere_0 : decode cX1_schoolHere 0 = .ok (.lconst 0, 1) := by decide +kernel
theorem dX1_schoolHere_1 : decode cX1_schoolHere 1 = .ok (.lstore_n 2, 1) := by decide +kernel
theorem dX1_schoolHere_2 : decode cX1_schoolHere 2 = .ok (.iconst 0, 1) := by decide +kernel
theorem dX1_schoolHere_3 : decode cX1_schoolHere 3 = .ok (.istore 4, 2) := by decide +kernel
theorem dX1_schoolHere_5 : decode cX1_schoolHere 5 = .ok (.iload 4, 2) := by decide +kernel
theorem dX1_schoolHere_7 : decode cX1_schoolHere 7 = .ok (.aload_n 0, 1) := by decide +kernel
theorem dX1_schoolHere_8 : decode cX1_schoolHere 8 = .ok (.getfield 23, 3) := by decide +kernel
theorem dX1_schoolHere_11 : decode cX1_schoolHere 11 = .ok (.if_icmp .ge 19, 3) := by decide +kernel
theorem dX1_schoolHere_14 : decode cX1_schoolHere 14 = .ok (.lload_n 2, 1) := by decide +kernel
theorem dX1_schoolHere_15 : decode cX1_schoolHere 15 = .ok (.aload_n 0, 1) := by decide +kernel
theorem dX1_schoolHere_16 : decode cX1_schoolHere 16 = .ok (.iload_n 1, 1) := by decide +kernel
theorem dX1_schoolHere_17 : decode cX1_schoolHere 17 = .ok (.iload 4, 2) := by decide +kernel
theorem dX1_schoolHere_19 : decode cX1_schoolHere 19 = .ok (.invokevirtual 103, 3) := by decide +kernel
theorem dX1_schoolHere_22 : decode cX1_schoolHere 22 = .ok (.ladd, 1) := by decide +kernel
theorem dX1_schoolHere_23 : decode cX1_schoolHere 23 = .ok (.lstore_n 2, 1) := by decide +kernel
theorem dX1_schoolHere_24 : decode cX1_schoolHere 24 = .ok (.iinc 4 1, 3) := by decide +kernel
theorem dX1_schoolHere_27 : decode cX1_schoolHere 27 = .ok (.goto (-22), 3) := by decide +kernel
theorem dX1_schoolHere_30 : decode cX1_schoolHere 30 = .ok (.lload_n 2, 1) := by decide +kernel
theorem dX1_schoolHere_31 : decode cX1_schoolHere 31 = .ok (.lreturn, 1) := by decide +kernel
theorem dX1_weightOf_0 : decode cX1_weightOf 0 = .ok (.aload_n 0, 1) := by decide +kernel
theorem dX1_weightOf_1 : decode cX1_weightOf 1 = .ok (.iconst 0, 1) := by decide +kernel
theorem dX1_weightOf_2 : decode cX1_weightOf 2 = .ok (.putfield 19, 3) := by decide +kernel
theorem dX1_weightOf_5 : decode cX1_weightOf 5 = .ok (.aload_n 0, 1) := by decide +kernel
theorem dX1_weightOf_6 : decode cX1_weightOf 6 = .ok (.iload_n 1, 1) := by decide +kernel
theorem dX1_weightOf_7 : decode cX1_weightOf 7 = .ok (.invokevirtual 76, 3) := by decide +kernel
theorem dX1_weightOf_10 : decode cX1_weightOf 10 = .ok (.ifCond .eq 20, 3) := by decide +kernel
theorem dX1_weightOf_13 : decode cX1_weightOf 13 = .ok (.aload_n 0, 1) := by decide +kernel
theorem dX1_weightOf_14 : decode cX1_weightOf 14 = .ok (.iload_n 2, 1) := by decide +kernel
theorem dX1_weightOf_15 : decode cX1_weightOf 15 = .ok (.invokevirtual 80, 3) := by decide +kernel
theorem dX1_weightOf_18 : decode cX1_weightOf 18 = .ok (.ifCond .eq 12, 3) := by decide +kernel
theorem dX1_weightOf_21 : decode cX1_weightOf 21 = .ok (.aload_n 0, 1) := by decide +kernel
theorem dX1_weightOf_22 : decode cX1_weightOf 22 = .ok (.iload_n 1, 1) := by decide +kernel
theorem dX1_weightOf_23 : decode cX1_weightOf 23 = .ok (.iload_n 2, 1) := by decide +kernel
theorem dX1_weightOf_24 : decode cX1_weightOf 24 = .ok (.invokevirtual 103, 3) := by decide +kernel
theorem dX1_weightOf_27 : decode cX1_weightOf 27 = .ok (.goto 9, 3) := by decide +kernel
theorem dX1_weightOf_30 : decode cX1_weightOf 30 = .ok (.aload_n 0, 1) := by decide +kernel
theorem dX1_weightOf_31 : decode cX1_weightOf 31 = .ok (.iconst 1, 1) := by decide +kernel
theorem dX1_weightOf_32 : decode cX1_weightOf 32 = .ok (.invokevirtual 73, 3) := by decide +kernel
theorem dX1_weightOf_35 : decode cX1_weightOf 35 = .ok (.i2l, 1) := by decide +kernel
theorem dX1_weightOf_36 : decode cX1_weightOf 36 = .ok (.lreturn, 1) := by decide +kernel
theorem dX1_coinWeight_0 : decode cX1_coinWeight 0 = .ok (.aload_n 0, 1) := by decide +kernel
theorem dX1_coinWeight_1 : decode cX1_coinWeight 1 = .ok (.iconst 0, 1) := by decide +kernel
theorem dX1_coinWeight_2 : decode cX1_coinWeight 2 = .ok (.putfield 19, 3) := by decide +kernel
theorem dX1_coinWeight_5 : decode cX1_coinWeight 5 = .ok (.aload_n 0, 1) := by decide +kernel
theorem dX1_coinWeight_6 : decode cX1_coinWeight 6 = .ok (.iload_n 1, 1) := by decide +kernel
theorem dX1_coinWeight_7 : decode cX1_coinWeight 7 = .ok (.invokevirtual 80, 3) := by decide +kernel
theorem dX1_coinWeight_10 : decode cX1_coinWeight 10 = .ok (.ifCond .eq 11, 3) := by decide +kernel
theorem dX1_coinWeight_13 : decode cX1_coinWeight 13 = .ok (.aload_n 0, 1) := by decide +kernel
theorem dX1_coinWeight_14 : decode cX1_coinWeight 14 = .ok (.iload_n 1, 1) := by decide +kernel
theorem dX1_coinWeight_15 : decode cX1_coinWeight 15 = .ok (.invokevirtual 106, 3) := by decide +kernel
theorem dX1_coinWeight_18 : decode cX1_coinWeight 18 = .ok (.goto 9, 3) := by decide +kernel
theorem dX1_coinWeight_21 : decode cX1_coinWeight 21 = .ok (.aload_n 0, 1) := by decide +kernel
theorem dX1_coinWeight_22 : decode cX1_coinWeight 22 = .ok (.iconst 1, 1) := by decide +kernel
theorem dX1_coinWeight_23 : decode cX1_coinWeight 23 = .ok (.invokevirtual 73, 3) := by decide +kernel
theorem dX1_coinWeight_26 : decode cX1_coinWeight 26 = .ok (.i2l, 1) := by decide +kernel
theorem dX1_coinWeight_27 : decode cX1_coinWeight 27 = .ok (.lreturn, 1) := by decide +kernel
theorem dX1_schoolWeight_0 : decode cX1_schoolWeight 0 = .ok (.aload_n 0, 1) := by decide +kernel
theorem dX1_schoolWeight_1 : decode cX1_schoolWeight 1 = .ok (.iconst 0, 1) := by decide +kernel
theorem dX1_schoolWeight_2 : decode cX1_schoolWeight 2 = .ok (.putfield 19, 3) := by decide +kernel
theorem dX1_schoolWeight_5 : decode cX1_schoolWeight 5 = .ok (.aload_n 0, 1) := by decide +kernel
theorem dX1_schoolWeight_6 : decode cX1_schoolWeight 6 = .ok (.iload_n 1, 1) := by decide +kernel
theorem dX1_schoolWeight_7 : decode cX1_schoolWeight 7 = .ok (.invokevirtual 76, 3) := by decide +kernel
theorem dX1_schoolWeight_10 : decode cX1_schoolWeight 10 = .ok (.ifCond .eq 11, 3) := by decide +kernel
theorem dX1_schoolWeight_13 : decode cX1_schoolWeight 13 = .ok (.aload_n 0, 1) := by decide +kernel
theorem dX1_schoolWeight_14 : decode cX1_schoolWeight 14 = .ok (.iload_n 1, 1) := by decide +kernel
theorem dX1_schoolWeight_15 : decode cX1_schoolWeight 15 = .ok (.invokevirtual 110, 3) := by decide +kernel
theorem dX1_schoolWeight_18 : decode cX1_schoolWeight 18 = .ok (.goto 9, 3) := by decide +kernel
theorem dX1_schoolWeight_21 : decode cX1_schoolWeight 21 = .ok (.aload_n 0, 1) := by decide +kernel
theorem dX1_schoolWeight_22 : decode cX1_schoolWeight 22 = .ok (.iconst 1, 1) := by decide +kernel
theorem dX1_schoolWeight_23 : decode cX1_schoolWeight 23 = .ok (.invokevirtual 73, 3) := by decide +kernel
theorem dX1_schoolWeight_26 : decode cX1_schoolWeight 26 = .ok (.i2l, 1) := by decide +kernel
theorem dX1_schoolWeight_27 : decode cX1_schoolWeight 27 = .ok (.lreturn, 1) := by decide +kernel
theorem dX1_wholeWeight_0 : decode cX1_wholeWeight 0 = .ok (.aload_n 0, 1) := by decide +kernel
theorem dX1_wholeWeight_1 : decode cX1_wholeWeight 1 = .ok (.iconst 0, 1) := by decide +kernel
theorem dX1_wholeWeight_2 : decode cX1_wholeWeight 2 = .ok (.putfield 19, 3) := by decide +kernel
theorem dX1_wholeWeight_5 : decode cX1_wholeWeight 5 = .ok (.aload_n 0, 1) := by decide +kernel
theorem dX1_wholeWeight_6 : decode cX1_wholeWeight 6 = .ok (.invokevirtual 113, 3) := by decide +kernel
theorem dX1_wholeWeight_9 : decode cX1_wholeWeight 9 = .ok (.lreturn, 1) := by decide +kernel
theorem dX1_isRuledOut_0 : decode cX1_isRuledOut 0 = .ok (.aload_n 0, 1) := by decide +kernel
theorem dX1_isRuledOut_1 : decode cX1_isRuledOut 1 = .ok (.aload_n 0, 1) := by decide +kernel
theorem dX1_isRuledOut_2 : decode cX1_isRuledOut 2 = .ok (.iload_n 1, 1) := by decide +kernel
theorem dX1_isRuledOut_3 : decode cX1_isRuledOut 3 = .ok (.invokevirtual 80, 3) := by decide +kernel
theorem dX1_isRuledOut_6 : decode cX1_isRuledOut 6 = .ok (.ifCond .eq 7, 3) := by decide +kernel
theorem dX1_isRuledOut_9 : decode cX1_isRuledOut 9 = .ok (.iconst 0, 1) := by decide +kernel
theorem dX1_isRuledOut_10 : decode cX1_isRuledOut 10 = .ok (.goto 4, 3) := by decide +kernel
theorem dX1_isRuledOut_13 : decode cX1_isRuledOut 13 = .ok (.iconst 1, 1) := by decide +kernel
theorem dX1_isRuledOut_14 : decode cX1_isRuledOut 14 = .ok (.putfield 19, 3) := by decide +kernel
theorem dX1_isRuledOut_17 : decode cX1_isRuledOut 17 = .ok (.aload_n 0, 1) := by decide +kernel
theorem dX1_isRuledOut_18 : decode cX1_isRuledOut 18 = .ok (.getfield 19, 3) := by decide +kernel
theorem dX1_isRuledOut_21 : decode cX1_isRuledOut 21 = .ok (.ifCond .ne 17, 3) := by decide +kernel
theorem dX1_isRuledOut_24 : decode cX1_isRuledOut 24 = .ok (.aload_n 0, 1) := by decide +kernel
theorem dX1_isRuledOut_25 : decode cX1_isRuledOut 25 = .ok (.iload_n 1, 1) := by decide +kernel
theorem dX1_isRuledOut_26 : decode cX1_isRuledOut 26 = .ok (.invokevirtual 106, 3) := by decide +kernel
theorem dX1_isRuledOut_29 : decode cX1_isRuledOut 29 = .ok (.lconst 0, 1) := by decide +kernel
theorem dX1_isRuledOut_30 : decode cX1_isRuledOut 30 = .ok (.lcmp, 1) := by decide +kernel
theorem dX1_isRuledOut_31 : decode cX1_isRuledOut 31 = .ok (.ifCond .ne 7, 3) := by decide +kernel
theorem dX1_isRuledOut_34 : decode cX1_isRuledOut 34 = .ok (.iconst 1, 1) := by decide +kernel
theorem dX1_isRuledOut_35 : decode cX1_isRuledOut 35 = .ok (.goto 4, 3) := by decide +kernel
theorem dX1_isRuledOut_38 : decode cX1_isRuledOut 38 = .ok (.iconst 0, 1) := by decide +kernel
theorem dX1_isRuledOut_39 : decode cX1_isRuledOut 39 = .ok (.ireturn, 1) := by decide +kernel
theorem dX1_gone_0 : decode cX1_gone 0 = .ok (.iconst 0, 1) := by decide +kernel
theorem dX1_gone_1 : decode cX1_gone 1 = .ok (.istore_n 1, 1) := by decide +kernel
theorem dX1_gone_2 : decode cX1_gone 2 = .ok (.iconst 0, 1) := by decide +kernel
theorem dX1_gone_3 : decode cX1_gone 3 = .ok (.istore_n 2, 1) := by decide +kernel
theorem dX1_gone_4 : decode cX1_gone 4 = .ok (.iload_n 2, 1) := by decide +kernel
theorem dX1_gone_5 : decode cX1_gone 5 = .ok (.aload_n 0, 1) := by decide +kernel
theorem dX1_gone_6 : decode cX1_gone 6 = .ok (.getfield 23, 3) := by decide +kernel
theorem dX1_gone_9 : decode cX1_gone 9 = .ok (.if_icmp .ge 27, 3) := by decide +kernel
theorem dX1_gone_12 : decode cX1_gone 12 = .ok (.iload_n 1, 1) := by decide +kernel
theorem dX1_gone_13 : decode cX1_gone 13 = .ok (.aload_n 0, 1) := by decide +kernel
theorem dX1_gone_14 : decode cX1_gone 14 = .ok (.iload_n 2, 1) := by decide +kernel
theorem dX1_gone_15 : decode cX1_gone 15 = .ok (.invokevirtual 106, 3) := by decide +kernel
theorem dX1_gone_18 : decode cX1_gone 18 = .ok (.lconst 0, 1) := by decide +kernel
theorem dX1_gone_19 : decode cX1_gone 19 = .ok (.lcmp, 1) := by decide +kernel
theorem dX1_gone_20 : decode cX1_gone 20 = .ok (.ifCond .ne 7, 3) := by decide +kernel
theorem dX1_gone_23 : decode cX1_gone 23 = .ok (.iconst 1, 1) := by decide +kernel
theorem dX1_gone_24 : decode cX1_gone 24 = .ok (.goto 4, 3) := by decide +kernel
theorem dX1_gone_27 : decode cX1_gone 27 = .ok (.iconst 0, 1) := by decide +kernel
theorem dX1_gone_28 : decode cX1_gone 28 = .ok (.iadd, 1) := by decide +kernel
theorem dX1_gone_29 : decode cX1_gone 29 = .ok (.istore_n 1, 1) := by decide +kernel
theorem dX1_gone_30 : decode cX1_gone 30 = .ok (.iinc 2 1, 3) := by decide +kernel
theorem dX1_gone_33 : decode cX1_gone 33 = .ok (.goto (-29), 3) := by decide +kernel
theorem dX1_gone_36 : decode cX1_gone 36 = .ok (.iload_n 1, 1) := by decide +kernel
theorem dX1_gone_37 : decode cX1_gone 37 = .ok (.ireturn, 1) := by decide +kernel
theorem dX1_ruledOut_0 : decode cX1_ruledOut 0 = .ok (.aload_n 0, 1) := by decide +kernel
theorem dX1_ruledOut_1 : decode cX1_ruledOut 1 = .ok (.aload_n 0, 1) := by decide +kernel
theorem dX1_ruledOut_2 : decode cX1_ruledOut 2 = .ok (.invokevirtual 117, 3) := by decide +kernel
theorem dX1_ruledOut_5 : decode cX1_ruledOut 5 = .ok (.invokevirtual 97, 3) := by decide +kernel
theorem dX1_ruledOut_8 : decode cX1_ruledOut 8 = .ok (.ireturn, 1) := by decide +kernel
theorem dX1_coinPercent_0 : decode cX1_coinPercent 0 = .ok (.aload_n 0, 1) := by decide +kernel
theorem dX1_coinPercent_1 : decode cX1_coinPercent 1 = .ok (.iconst 0, 1) := by decide +kernel
theorem dX1_coinPercent_2 : decode cX1_coinPercent 2 = .ok (.putfield 19, 3) := by decide +kernel
theorem dX1_coinPercent_5 : decode cX1_coinPercent 5 = .ok (.aload_n 0, 1) := by decide +kernel
theorem dX1_coinPercent_6 : decode cX1_coinPercent 6 = .ok (.iload_n 1, 1) := by decide +kernel
theorem dX1_coinPercent_7 : decode cX1_coinPercent 7 = .ok (.invokevirtual 80, 3) := by decide +kernel
theorem dX1_coinPercent_10 : decode cX1_coinPercent 10 = .ok (.ifCond .ne 9, 3) := by decide +kernel
theorem dX1_coinPercent_13 : decode cX1_coinPercent 13 = .ok (.aload_n 0, 1) := by decide +kernel
theorem dX1_coinPercent_14 : decode cX1_coinPercent 14 = .ok (.iconst 1, 1) := by decide +kernel
theorem dX1_coinPercent_15 : decode cX1_coinPercent 15 = .ok (.invokevirtual 73, 3) := by decide +kernel
theorem dX1_coinPercent_18 : decode cX1_coinPercent 18 = .ok (.ireturn, 1) := by decide +kernel
theorem dX1_coinPercent_19 : decode cX1_coinPercent 19 = .ok (.aload_n 0, 1) := by decide +kernel
theorem dX1_coinPercent_20 : decode cX1_coinPercent 20 = .ok (.invokevirtual 113, 3) := by decide +kernel
theorem dX1_coinPercent_23 : decode cX1_coinPercent 23 = .ok (.lconst 0, 1) := by decide +kernel
theorem dX1_coinPercent_24 : decode cX1_coinPercent 24 = .ok (.lcmp, 1) := by decide +kernel
theorem dX1_coinPercent_25 : decode cX1_coinPercent 25 = .ok (.ifCond .ne 11, 3) := by decide +kernel
theorem dX1_coinPercent_28 : decode cX1_coinPercent 28 = .ok (.aload_n 0, 1) := by decide +kernel
theorem dX1_coinPercent_29 : decode cX1_coinPercent 29 = .ok (.iconst 2, 1) := by decide +kernel
theorem dX1_coinPercent_30 : decode cX1_coinPercent 30 = .ok (.invokevirtual 73, 3) := by decide +kernel
theorem dX1_coinPercent_33 : decode cX1_coinPercent 33 = .ok (.goto 18, 3) := by decide +kernel
theorem dX1_coinPercent_36 : decode cX1_coinPercent 36 = .ok (.aload_n 0, 1) := by decide +kernel
theorem dX1_coinPercent_37 : decode cX1_coinPercent 37 = .ok (.iload_n 1, 1) := by decide +kernel
theorem dX1_coinPercent_38 : decode cX1_coinPercent 38 = .ok (.invokevirtual 106, 3) := by decide +kernel
theorem dX1_coinPercent_41 : decode cX1_coinPercent 41 = .ok (.ldc2_w 120, 3) := by decide +kernel
theorem dX1_coinPercent_44 : decode cX1_coinPercent 44 = .ok (.lmul, 1) := by decide +kernel
theorem dX1_coinPercent_45 : decode cX1_coinPercent 45 = .ok (.aload_n 0, 1) := by decide +kernel
theorem dX1_coinPercent_46 : decode cX1_coinPercent 46 = .ok (.invokevirtual 113, 3) := by decide +kernel
theorem dX1_coinPercent_49 : decode cX1_coinPercent 49 = .ok (.ldiv, 1) := by decide +kernel
theorem dX1_coinPercent_50 : decode cX1_coinPercent 50 = .ok (.l2i, 1) := by decide +kernel
theorem dX1_coinPercent_51 : decode cX1_coinPercent 51 = .ok (.ireturn, 1) := by decide +kernel
theorem dX1_schoolPercent_0 : decode cX1_schoolPercent 0 = .ok (.aload_n 0, 1) := by decide +kernel
theorem dX1_schoolPercent_1 : decode cX1_schoolPercent 1 = .ok (.iconst 0, 1) := by decide +kernel
theorem dX1_schoolPercent_2 : decode cX1_schoolPercent 2 = .ok (.putfield 19, 3) := by decide +kernel
theorem dX1_schoolPercent_5 : decode cX1_schoolPercent 5 = .ok (.aload_n 0, 1) := by decide +kernel
theorem dX1_schoolPercent_6 : decode cX1_schoolPercent 6 = .ok (.iload_n 1, 1) := by decide +kernel
theorem dX1_schoolPercent_7 : decode cX1_schoolPercent 7 = .ok (.invokevirtual 76, 3) := by decide +kernel
theorem dX1_schoolPercent_10 : decode cX1_schoolPercent 10 = .ok (.ifCond .ne 9, 3) := by decide +kernel
theorem dX1_schoolPercent_13 : decode cX1_schoolPercent 13 = .ok (.aload_n 0, 1) := by decide +kernel
theorem dX1_schoolPercent_14 : decode cX1_schoolPercent 14 = .ok (.iconst 1, 1) := by decide +kernel
theorem dX1_schoolPercent_15 : decode cX1_schoolPercent 15 = .ok (.invokevirtual 73, 3) := by decide +kernel
theorem dX1_schoolPercent_18 : decode cX1_schoolPercent 18 = .ok (.ireturn, 1) := by decide +kernel
theorem dX1_schoolPercent_19 : decode cX1_schoolPercent 19 = .ok (.aload_n 0, 1) := by decide +kernel
theorem dX1_schoolPercent_20 : decode cX1_schoolPercent 20 = .ok (.invokevirtual 113, 3) := by decide +kernel
theorem dX1_schoolPercent_23 : decode cX1_schoolPercent 23 = .ok (.lconst 0, 1) := by decide +kernel
theorem dX1_schoolPercent_24 : decode cX1_schoolPercent 24 = .ok (.lcmp, 1) := by decide +kernel
theorem dX1_schoolPercent_25 : decode cX1_schoolPercent 25 = .ok (.ifCond .ne 11, 3) := by decide +kernel
theorem dX1_schoolPercent_28 : decode cX1_schoolPercent 28 = .ok (.aload_n 0, 1) := by decide +kernel
theorem dX1_schoolPercent_29 : decode cX1_schoolPercent 29 = .ok (.iconst 2, 1) := by decide +kernel
theorem dX1_schoolPercent_30 : decode cX1_schoolPercent 30 = .ok (.invokevirtual 73, 3) := by decide +kernel
theorem dX1_schoolPercent_33 : decode cX1_schoolPercent 33 = .ok (.goto 18, 3) := by decide +kernel
theorem dX1_schoolPercent_36 : decode cX1_schoolPercent 36 = .ok (.aload_n 0, 1) := by decide +kernel
theorem dX1_schoolPercent_37 : decode cX1_schoolPercent 37 = .ok (.iload_n 1, 1) := by decide +kernel
theorem dX1_schoolPercent_38 : decode cX1_schoolPercent 38 = .ok (.invokevirtual 110, 3) := by decide +kernel
theorem dX1_schoolPercent_41 : decode cX1_schoolPercent 41 = .ok (.ldc2_w 120, 3) := by decide +kernel
theorem dX1_schoolPercent_44 : decode cX1_schoolPercent 44 = .ok (.lmul, 1) := by decide +kernel
theorem dX1_schoolPercent_45 : decode cX1_schoolPercent 45 = .ok (.aload_n 0, 1) := by decide +kernel
theorem dX1_schoolPercent_46 : decode cX1_schoolPercent 46 = .ok (.invokevirtual 113, 3) := by decide +kernel
theorem dX1_schoolPercent_49 : decode cX1_schoolPercent 49 = .ok (.ldiv, 1) := by decide +kernel
theorem dX1_schoolPercent_50 : decode cX1_schoolPercent 50 = .ok (.l2i, 1) := by decide +kernel
theorem dX1_schoolPercent_51 : decode cX1_schoolPercent 51 = .ok (.ireturn, 1) := by decide +kernel
theorem dX1_leads_0 : decode cX1_leads 0 = .ok (.aload_n 0, 1) := by decide +kernel
theorem dX1_leads_1 : decode cX1_leads 1 = .ok (.aload_n 0, 1) := by decide +kernel
theorem dX1_leads_2 : decode cX1_leads 2 = .ok (.invokevirtual 69, 3) := by decide +kernel
theorem dX1_leads_5 : decode cX1_leads 5 = .ok (.aload_n 0, 1) := by decide +kernel
theorem dX1_leads_6 : decode cX1_leads 6 = .ok (.getfield 33, 3) := by decide +kernel
theorem dX1_leads_9 : decode cX1_leads 9 = .ok (.aload_n 0, 1) := by decide +kernel
theorem dX1_leads_10 : decode cX1_leads 10 = .ok (.invokevirtual 69, 3) := by decide +kernel
theorem dX1_leads_13 : decode cX1_leads 13 = .ok (.isub, 1) := by decide +kernel
theorem dX1_leads_14 : decode cX1_leads 14 = .ok (.invokevirtual 122, 3) := by decide +kernel
theorem dX1_leads_17 : decode cX1_leads 17 = .ok (.ireturn, 1) := by decide +kernel
theorem dX1_leadingCoin_0 : decode cX1_leadingCoin 0 = .ok (.aload_n 0, 1) := by decide +kernel
theorem dX1_leadingCoin_1 : decode cX1_leadingCoin 1 = .ok (.iconst 0, 1) := by decide +kernel
theorem dX1_leadingCoin_2 : decode cX1_leadingCoin 2 = .ok (.putfield 19, 3) := by decide +kernel
theorem dX1_leadingCoin_5 : decode cX1_leadingCoin 5 = .ok (.aload_n 0, 1) := by decide +kernel
theorem dX1_leadingCoin_6 : decode cX1_leadingCoin 6 = .ok (.invokevirtual 113, 3) := by decide +kernel
theorem dX1_leadingCoin_9 : decode cX1_leadingCoin 9 = .ok (.lconst 0, 1) := by decide +kernel
theorem dX1_leadingCoin_10 : decode cX1_leadingCoin 10 = .ok (.lcmp, 1) := by decide +kernel
theorem dX1_leadingCoin_11 : decode cX1_leadingCoin 11 = .ok (.ifCond .ne 11, 3) := by decide +kernel
theorem dX1_leadingCoin_14 : decode cX1_leadingCoin 14 = .ok (.aload_n 0, 1) := by decide +kernel
theorem dX1_leadingCoin_15 : decode cX1_leadingCoin 15 = .ok (.iconst 1, 1) := by decide +kernel
theorem dX1_leadingCoin_16 : decode cX1_leadingCoin 16 = .ok (.invokevirtual 73, 3) := by decide +kernel
theorem dX1_leadingCoin_19 : decode cX1_leadingCoin 19 = .ok (.goto 7, 3) := by decide +kernel
theorem dX1_leadingCoin_22 : decode cX1_leadingCoin 22 = .ok (.aload_n 0, 1) := by decide +kernel
theorem dX1_leadingCoin_23 : decode cX1_leadingCoin 23 = .ok (.invokevirtual 125, 3) := by decide +kernel
theorem dX1_leadingCoin_26 : decode cX1_leadingCoin 26 = .ok (.ireturn, 1) := by decide +kernel
theorem dX1_leadingSchool_0 : decode cX1_leadingSchool 0 = .ok (.aload_n 0, 1) := by decide +kernel
theorem dX1_leadingSchool_1 : decode cX1_leadingSchool 1 = .ok (.iconst 0, 1) := by decide +kernel
theorem dX1_leadingSchool_2 : decode cX1_leadingSchool 2 = .ok (.putfield 19, 3) := by decide +kernel
theorem dX1_leadingSchool_5 : decode cX1_leadingSchool 5 = .ok (.aload_n 0, 1) := by decide +kernel
theorem dX1_leadingSchool_6 : decode cX1_leadingSchool 6 = .ok (.invokevirtual 113, 3) := by decide +kernel
theorem dX1_leadingSchool_9 : decode cX1_leadingSchool 9 = .ok (.lconst 0, 1) := by decide +kernel
theorem dX1_leadingSchool_10 : decode cX1_leadingSchool 10 = .ok (.lcmp, 1) := by decide +kernel
theorem dX1_leadingSchool_11 : decode cX1_leadingSchool 11 = .ok (.ifCond .ne 9, 3) := by decide +kernel
theorem dX1_leadingSchool_14 : decode cX1_leadingSchool 14 = .ok (.aload_n 0, 1) := by decide +kernel
theorem dX1_leadingSchool_15 : decode cX1_leadingSchool 15 = .ok (.iconst 1, 1) := by decide +kernel
theorem dX1_leadingSchool_16 : decode cX1_leadingSchool 16 = .ok (.invokevirtual 73, 3) := by decide +kernel
theorem dX1_leadingSchool_19 : decode cX1_leadingSchool 19 = .ok (.ireturn, 1) := by decide +kernel
theorem dX1_leadingSchool_20 : decode cX1_leadingSchool 20 = .ok (.iconst 0, 1) := by decide +kernel
theorem dX1_leadingSchool_21 : decode cX1_leadingSchool 21 = .ok (.istore_n 1, 1) := by decide +kernel
theorem dX1_leadingSchool_22 : decode cX1_leadingSchool 22 = .ok (.iconst 1, 1) := by decide +kernel
theorem dX1_leadingSchool_23 : decode cX1_leadingSchool 23 = .ok (.istore_n 2, 1) := by decide +kernel
theorem dX1_leadingSchool_24 : decode cX1_leadingSchool 24 = .ok (.iload_n 2, 1) := by decide +kernel
theorem dX1_leadingSchool_25 : decode cX1_leadingSchool 25 = .ok (.aload_n 0, 1) := by decide +kernel
theorem dX1_leadingSchool_26 : decode cX1_leadingSchool 26 = .ok (.getfield 30, 3) := by decide +kernel
theorem dX1_leadingSchool_29 : decode cX1_leadingSchool 29 = .ok (.if_icmp .ge 25, 3) := by decide +kernel
theorem dX1_leadingSchool_32 : decode cX1_leadingSchool 32 = .ok (.aload_n 0, 1) := by decide +kernel
theorem dX1_leadingSchool_33 : decode cX1_leadingSchool 33 = .ok (.iload_n 2, 1) := by decide +kernel
theorem dX1_leadingSchool_34 : decode cX1_leadingSchool 34 = .ok (.invokevirtual 110, 3) := by decide +kernel
theorem dX1_leadingSchool_37 : decode cX1_leadingSchool 37 = .ok (.aload_n 0, 1) := by decide +kernel
theorem dX1_leadingSchool_38 : decode cX1_leadingSchool 38 = .ok (.iload_n 1, 1) := by decide +kernel
theorem dX1_leadingSchool_39 : decode cX1_leadingSchool 39 = .ok (.invokevirtual 110, 3) := by decide +kernel
theorem dX1_leadingSchool_42 : decode cX1_leadingSchool 42 = .ok (.lcmp, 1) := by decide +kernel
theorem dX1_leadingSchool_43 : decode cX1_leadingSchool 43 = .ok (.ifCond .le 5, 3) := by decide +kernel
theorem dX1_leadingSchool_46 : decode cX1_leadingSchool 46 = .ok (.iload_n 2, 1) := by decide +kernel
theorem dX1_leadingSchool_47 : decode cX1_leadingSchool 47 = .ok (.istore_n 1, 1) := by decide +kernel
theorem dX1_leadingSchool_48 : decode cX1_leadingSchool 48 = .ok (.iinc 2 1, 3) := by decide +kernel
theorem dX1_leadingSchool_51 : decode cX1_leadingSchool 51 = .ok (.goto (-27), 3) := by decide +kernel
theorem dX1_leadingSchool_54 : decode cX1_leadingSchool 54 = .ok (.iload_n 1, 1) := by decide +kernel
theorem dX1_leadingSchool_55 : decode cX1_leadingSchool 55 = .ok (.ireturn, 1) := by decide +kernel
theorem dX1_oddsAgainst_0 : decode cX1_oddsAgainst 0 = .ok (.aload_n 0, 1) := by decide +kernel
theorem dX1_oddsAgainst_1 : decode cX1_oddsAgainst 1 = .ok (.iconst 0, 1) := by decide +kernel
theorem dX1_oddsAgainst_2 : decode cX1_oddsAgainst 2 = .ok (.putfield 19, 3) := by decide +kernel
theorem dX1_oddsAgainst_5 : decode cX1_oddsAgainst 5 = .ok (.aload_n 0, 1) := by decide +kernel
theorem dX1_oddsAgainst_6 : decode cX1_oddsAgainst 6 = .ok (.iload_n 1, 1) := by decide +kernel
theorem dX1_oddsAgainst_7 : decode cX1_oddsAgainst 7 = .ok (.invokevirtual 80, 3) := by decide +kernel
theorem dX1_oddsAgainst_10 : decode cX1_oddsAgainst 10 = .ok (.ifCond .eq 11, 3) := by decide +kernel
theorem dX1_oddsAgainst_13 : decode cX1_oddsAgainst 13 = .ok (.aload_n 0, 1) := by decide +kernel
theorem dX1_oddsAgainst_14 : decode cX1_oddsAgainst 14 = .ok (.iload_n 2, 1) := by decide +kernel
theorem dX1_oddsAgainst_15 : decode cX1_oddsAgainst 15 = .ok (.invokevirtual 80, 3) := by decide +kernel
theorem dX1_oddsAgainst_18 : decode cX1_oddsAgainst 18 = .ok (.ifCond .ne 10, 3) := by decide +kernel
theorem dX1_oddsAgainst_21 : decode cX1_oddsAgainst 21 = .ok (.aload_n 0, 1) := by decide +kernel
theorem dX1_oddsAgainst_22 : decode cX1_oddsAgainst 22 = .ok (.iconst 1, 1) := by decide +kernel
theorem dX1_oddsAgainst_23 : decode cX1_oddsAgainst 23 = .ok (.invokevirtual 73, 3) := by decide +kernel
theorem dX1_oddsAgainst_26 : decode cX1_oddsAgainst 26 = .ok (.i2l, 1) := by decide +kernel
theorem dX1_oddsAgainst_27 : decode cX1_oddsAgainst 27 = .ok (.lreturn, 1) := by decide +kernel
theorem dX1_oddsAgainst_28 : decode cX1_oddsAgainst 28 = .ok (.aload_n 0, 1) := by decide +kernel
theorem dX1_oddsAgainst_29 : decode cX1_oddsAgainst 29 = .ok (.iload_n 2, 1) := by decide +kernel
theorem dX1_oddsAgainst_30 : decode cX1_oddsAgainst 30 = .ok (.invokevirtual 106, 3) := by decide +kernel
theorem dX1_oddsAgainst_33 : decode cX1_oddsAgainst 33 = .ok (.lconst 0, 1) := by decide +kernel
theorem dX1_oddsAgainst_34 : decode cX1_oddsAgainst 34 = .ok (.lcmp, 1) := by decide +kernel
theorem dX1_oddsAgainst_35 : decode cX1_oddsAgainst 35 = .ok (.ifCond .ne 12, 3) := by decide +kernel
theorem dX1_oddsAgainst_38 : decode cX1_oddsAgainst 38 = .ok (.aload_n 0, 1) := by decide +kernel
theorem dX1_oddsAgainst_39 : decode cX1_oddsAgainst 39 = .ok (.iconst 2, 1) := by decide +kernel
theorem dX1_oddsAgainst_40 : decode cX1_oddsAgainst 40 = .ok (.invokevirtual 73, 3) := by decide +kernel
theorem dX1_oddsAgainst_43 : decode cX1_oddsAgainst 43 = .ok (.i2l, 1) := by decide +kernel
theorem dX1_oddsAgainst_44 : decode cX1_oddsAgainst 44 = .ok (.goto 14, 3) := by decide +kernel
theorem dX1_oddsAgainst_47 : decode cX1_oddsAgainst 47 = .ok (.aload_n 0, 1) := by decide +kernel
theorem dX1_oddsAgainst_48 : decode cX1_oddsAgainst 48 = .ok (.iload_n 1, 1) := by decide +kernel
theorem dX1_oddsAgainst_49 : decode cX1_oddsAgainst 49 = .ok (.invokevirtual 106, 3) := by decide +kernel
theorem dX1_oddsAgainst_52 : decode cX1_oddsAgainst 52 = .ok (.aload_n 0, 1) := by decide +kernel
theorem dX1_oddsAgainst_53 : decode cX1_oddsAgainst 53 = .ok (.iload_n 2, 1) := by decide +kernel
theorem dX1_oddsAgainst_54 : decode cX1_oddsAgainst 54 = .ok (.invokevirtual 106, 3) := by decide +kernel
theorem dX1_oddsAgainst_57 : decode cX1_oddsAgainst 57 = .ok (.ldiv, 1) := by decide +kernel
theorem dX1_oddsAgainst_58 : decode cX1_oddsAgainst 58 = .ok (.lreturn, 1) := by decide +kernel
theorem dX1_surprise__0 : decode cX1_surprise_ 0 = .ok (.aload_n 0, 1) := by decide +kernel
theorem dX1_surprise__1 : decode cX1_surprise_ 1 = .ok (.getfield 36, 3) := by decide +kernel
theorem dX1_surprise__4 : decode cX1_surprise_ 4 = .ok (.iload_n 1, 1) := by decide +kernel
theorem dX1_surprise__5 : decode cX1_surprise_ 5 = .ok (.invokestatic 39, 3) := by decide +kernel
theorem dX1_surprise__8 : decode cX1_surprise_ 8 = .ok (.istore_n 2, 1) := by decide +kernel
theorem dX1_surprise__9 : decode cX1_surprise_ 9 = .ok (.aload_n 0, 1) := by decide +kernel
theorem dX1_surprise__10 : decode cX1_surprise_ 10 = .ok (.aload_n 0, 1) := by decide +kernel
theorem dX1_surprise__11 : decode cX1_surprise_ 11 = .ok (.iload_n 1, 1) := by decide +kernel
theorem dX1_surprise__12 : decode cX1_surprise_ 12 = .ok (.invokevirtual 100, 3) := by decide +kernel
theorem dX1_surprise__15 : decode cX1_surprise_ 15 = .ok (.iload_n 2, 1) := by decide +kernel
theorem dX1_surprise__16 : decode cX1_surprise_ 16 = .ok (.iload_n 1, 1) := by decide +kernel
theorem dX1_surprise__17 : decode cX1_surprise_ 17 = .ok (.iload_n 2, 1) := by decide +kernel
theorem dX1_surprise__18 : decode cX1_surprise_ 18 = .ok (.isub, 1) := by decide +kernel
theorem dX1_surprise__19 : decode cX1_surprise_ 19 = .ok (.invokevirtual 87, 3) := by decide +kernel
theorem dX1_surprise__22 : decode cX1_surprise_ 22 = .ok (.ireturn, 1) := by decide +kernel
theorem dX1_surpriseOf_0 : decode cX1_surpriseOf 0 = .ok (.aload_n 0, 1) := by decide +kernel
theorem dX1_surpriseOf_1 : decode cX1_surpriseOf 1 = .ok (.iconst 0, 1) := by decide +kernel
theorem dX1_surpriseOf_2 : decode cX1_surpriseOf 2 = .ok (.putfield 19, 3) := by decide +kernel
theorem dX1_surpriseOf_5 : decode cX1_surpriseOf 5 = .ok (.aload_n 0, 1) := by decide +kernel
theorem dX1_surpriseOf_6 : decode cX1_surpriseOf 6 = .ok (.iload_n 1, 1) := by decide +kernel
theorem dX1_surpriseOf_7 : decode cX1_surpriseOf 7 = .ok (.invokevirtual 94, 3) := by decide +kernel
theorem dX1_surpriseOf_10 : decode cX1_surpriseOf 10 = .ok (.ifCond .eq 11, 3) := by decide +kernel
theorem dX1_surpriseOf_13 : decode cX1_surpriseOf 13 = .ok (.aload_n 0, 1) := by decide +kernel
theorem dX1_surpriseOf_14 : decode cX1_surpriseOf 14 = .ok (.iload_n 1, 1) := by decide +kernel
theorem dX1_surpriseOf_15 : decode cX1_surpriseOf 15 = .ok (.invokevirtual 128, 3) := by decide +kernel
theorem dX1_surpriseOf_18 : decode cX1_surpriseOf 18 = .ok (.goto 8, 3) := by decide +kernel
theorem dX1_surpriseOf_21 : decode cX1_surpriseOf 21 = .ok (.aload_n 0, 1) := by decide +kernel
theorem dX1_surpriseOf_22 : decode cX1_surpriseOf 22 = .ok (.iconst 1, 1) := by decide +kernel
theorem dX1_surpriseOf_23 : decode cX1_surpriseOf 23 = .ok (.invokevirtual 73, 3) := by decide +kernel
theorem dX1_surpriseOf_26 : decode cX1_surpriseOf 26 = .ok (.ireturn, 1) := by decide +kernel
theorem dX1_surprises_0 : decode cX1_surprises 0 = .ok (.iconst 0, 1) := by decide +kernel
theorem dX1_surprises_1 : decode cX1_surprises 1 = .ok (.istore_n 1, 1) := by decide +kernel
theorem dX1_surprises_2 : decode cX1_surprises 2 = .ok (.iconst 0, 1) := by decide +kernel
theorem dX1_surprises_3 : decode cX1_surprises 3 = .ok (.istore_n 2, 1) := by decide +kernel
theorem dX1_surprises_4 : decode cX1_surprises 4 = .ok (.iload_n 2, 1) := by decide +kernel
theorem dX1_surprises_5 : decode cX1_surprises 5 = .ok (.aload_n 0, 1) := by decide +kernel
theorem dX1_surprises_6 : decode cX1_surprises 6 = .ok (.getfield 33, 3) := by decide +kernel
theorem dX1_surprises_9 : decode cX1_surprises 9 = .ok (.if_icmp .ge 17, 3) := by decide +kernel
theorem dX1_surprises_12 : decode cX1_surprises 12 = .ok (.iload_n 1, 1) := by decide +kernel
theorem dX1_surprises_13 : decode cX1_surprises 13 = .ok (.aload_n 0, 1) := by decide +kernel
theorem dX1_surprises_14 : decode cX1_surprises 14 = .ok (.iload_n 2, 1) := by decide +kernel
theorem dX1_surprises_15 : decode cX1_surprises 15 = .ok (.invokevirtual 128, 3) := by decide +kernel
theorem dX1_surprises_18 : decode cX1_surprises 18 = .ok (.iadd, 1) := by decide +kernel
theorem dX1_surprises_19 : decode cX1_surprises 19 = .ok (.istore_n 1, 1) := by decide +kernel
theorem dX1_surprises_20 : decode cX1_surprises 20 = .ok (.iinc 2 1, 3) := by decide +kernel
theorem dX1_surprises_23 : decode cX1_surprises 23 = .ok (.goto (-19), 3) := by decide +kernel
theorem dX1_surprises_26 : decode cX1_surprises 26 = .ok (.iload_n 1, 1) := by decide +kernel
theorem dX1_surprises_27 : decode cX1_surprises 27 = .ok (.ireturn, 1) := by decide +kernel
theorem dX1_allSurprise_0 : decode cX1_allSurprise 0 = .ok (.aload_n 0, 1) := by decide +kernel
theorem dX1_allSurprise_1 : decode cX1_allSurprise 1 = .ok (.aload_n 0, 1) := by decide +kernel
theorem dX1_allSurprise_2 : decode cX1_allSurprise 2 = .ok (.invokevirtual 130, 3) := by decide +kernel
theorem dX1_allSurprise_5 : decode cX1_allSurprise 5 = .ok (.invokevirtual 97, 3) := by decide +kernel
theorem dX1_allSurprise_8 : decode cX1_allSurprise 8 = .ok (.ireturn, 1) := by decide +kernel
theorem dX1_greatestSurprise_0 : decode cX1_greatestSurprise 0 = .ok (.aload_n 0, 1) := by decide +kernel
theorem dX1_greatestSurprise_1 : decode cX1_greatestSurprise 1 = .ok (.iconst 0, 1) := by decide +kernel
theorem dX1_greatestSurprise_2 : decode cX1_greatestSurprise 2 = .ok (.putfield 19, 3) := by decide +kernel
theorem dX1_greatestSurprise_5 : decode cX1_greatestSurprise 5 = .ok (.iconst (-1), 1) := by decide +kernel
theorem dX1_greatestSurprise_6 : decode cX1_greatestSurprise 6 = .ok (.istore_n 1, 1) := by decide +kernel
theorem dX1_greatestSurprise_7 : decode cX1_greatestSurprise 7 = .ok (.iconst 0, 1) := by decide +kernel
theorem dX1_greatestSurprise_8 : decode cX1_greatestSurprise 8 = .ok (.istore_n 2, 1) := by decide +kernel
theorem dX1_greatestSurprise_9 : decode cX1_greatestSurprise 9 = .ok (.iload_n 2, 1) := by decide +kernel
theorem dX1_greatestSurprise_10 : decode cX1_greatestSurprise 10 = .ok (.aload_n 0, 1) := by decide +kernel
theorem dX1_greatestSurprise_11 : decode cX1_greatestSurprise 11 = .ok (.getfield 33, 3) := by decide +kernel
theorem dX1_greatestSurprise_14 : decode cX1_greatestSurprise 14 = .ok (.if_icmp .ge 29, 3) := by decide +kernel
theorem dX1_greatestSurprise_17 : decode cX1_greatestSurprise 17 = .ok (.iload_n 1, 1) := by decide +kernel
theorem dX1_greatestSurprise_18 : decode cX1_greatestSurprise 18 = .ok (.iconst (-1), 1) := by decide +kernel
theorem dX1_greatestSurprise_19 : decode cX1_greatestSurprise 19 = .ok (.if_icmp .eq 16, 3) := by decide +kernel
theorem dX1_greatestSurprise_22 : decode cX1_greatestSurprise 22 = .ok (.aload_n 0, 1) := by decide +kernel
theorem dX1_greatestSurprise_23 : decode cX1_greatestSurprise 23 = .ok (.iload_n 2, 1) := by decide +kernel
theorem dX1_greatestSurprise_24 : decode cX1_greatestSurprise 24 = .ok (.invokevirtual 128, 3) := by decide +kernel
theorem dX1_greatestSurprise_27 : decode cX1_greatestSurprise 27 = .ok (.aload_n 0, 1) := by decide +kernel
theorem dX1_greatestSurprise_28 : decode cX1_greatestSurprise 28 = .ok (.iload_n 1, 1) := by decide +kernel
theorem dX1_greatestSurprise_29 : decode cX1_greatestSurprise 29 = .ok (.invokevirtual 128, 3) := by decide +kernel
theorem dX1_greatestSurprise_32 : decode cX1_greatestSurprise 32 = .ok (.if_icmp .le 5, 3) := by decide +kernel
theorem dX1_greatestSurprise_35 : decode cX1_greatestSurprise 35 = .ok (.iload_n 2, 1) := by decide +kernel
theorem dX1_greatestSurprise_36 : decode cX1_greatestSurprise 36 = .ok (.istore_n 1, 1) := by decide +kernel
theorem dX1_greatestSurprise_37 : decode cX1_greatestSurprise 37 = .ok (.iinc 2 1, 3) := by decide +kernel
theorem dX1_greatestSurprise_40 : decode cX1_greatestSurprise 40 = .ok (.goto (-31), 3) := by decide +kernel
theorem dX1_greatestSurprise_43 : decode cX1_greatestSurprise 43 = .ok (.iload_n 1, 1) := by decide +kernel
theorem dX1_greatestSurprise_44 : decode cX1_greatestSurprise 44 = .ok (.ireturn, 1) := by decide +kernel
theorem dX1_headsPercent_0 : decode cX1_headsPercent 0 = .ok (.aload_n 0, 1) := by decide +kernel
theorem dX1_headsPercent_1 : decode cX1_headsPercent 1 = .ok (.iconst 0, 1) := by decide +kernel
theorem dX1_headsPercent_2 : decode cX1_headsPercent 2 = .ok (.putfield 19, 3) := by decide +kernel
theorem dX1_headsPercent_5 : decode cX1_headsPercent 5 = .ok (.aload_n 0, 1) := by decide +kernel
theorem dX1_headsPercent_6 : decode cX1_headsPercent 6 = .ok (.invokevirtual 113, 3) := by decide +kernel
theorem dX1_headsPercent_9 : decode cX1_headsPercent 9 = .ok (.lstore_n 1, 1) := by decide +kernel
theorem dX1_headsPercent_10 : decode cX1_headsPercent 10 = .ok (.lload_n 1, 1) := by decide +kernel
theorem dX1_headsPercent_11 : decode cX1_headsPercent 11 = .ok (.lconst 0, 1) := by decide +kernel
theorem dX1_headsPercent_12 : decode cX1_headsPercent 12 = .ok (.lcmp, 1) := by decide +kernel
theorem dX1_headsPercent_13 : decode cX1_headsPercent 13 = .ok (.ifCond .ne 9, 3) := by decide +kernel
theorem dX1_headsPercent_16 : decode cX1_headsPercent 16 = .ok (.aload_n 0, 1) := by decide +kernel
theorem dX1_headsPercent_17 : decode cX1_headsPercent 17 = .ok (.iconst 1, 1) := by decide +kernel
theorem dX1_headsPercent_18 : decode cX1_headsPercent 18 = .ok (.invokevirtual 73, 3) := by decide +kernel
theorem dX1_headsPercent_21 : decode cX1_headsPercent 21 = .ok (.ireturn, 1) := by decide +kernel
theorem dX1_headsPercent_22 : decode cX1_headsPercent 22 = .ok (.aload_n 0, 1) := by decide +kernel
theorem dX1_headsPercent_23 : decode cX1_headsPercent 23 = .ok (.iconst 1, 1) := by decide +kernel
theorem dX1_headsPercent_24 : decode cX1_headsPercent 24 = .ok (.aload_n 0, 1) := by decide +kernel
theorem dX1_headsPercent_25 : decode cX1_headsPercent 25 = .ok (.invokevirtual 69, 3) := by decide +kernel
theorem dX1_headsPercent_28 : decode cX1_headsPercent 28 = .ok (.aload_n 0, 1) := by decide +kernel
theorem dX1_headsPercent_29 : decode cX1_headsPercent 29 = .ok (.getfield 33, 3) := by decide +kernel
theorem dX1_headsPercent_32 : decode cX1_headsPercent 32 = .ok (.aload_n 0, 1) := by decide +kernel
theorem dX1_headsPercent_33 : decode cX1_headsPercent 33 = .ok (.invokevirtual 69, 3) := by decide +kernel
theorem dX1_headsPercent_36 : decode cX1_headsPercent 36 = .ok (.isub, 1) := by decide +kernel
theorem dX1_headsPercent_37 : decode cX1_headsPercent 37 = .ok (.invokevirtual 65, 3) := by decide +kernel
theorem dX1_headsPercent_40 : decode cX1_headsPercent 40 = .ok (.ldc2_w 120, 3) := by decide +kernel
theorem dX1_headsPercent_43 : decode cX1_headsPercent 43 = .ok (.lmul, 1) := by decide +kernel
theorem dX1_headsPercent_44 : decode cX1_headsPercent 44 = .ok (.ldc2_w 61, 3) := by decide +kernel
theorem dX1_headsPercent_47 : decode cX1_headsPercent 47 = .ok (.lload_n 1, 1) := by decide +kernel
theorem dX1_headsPercent_48 : decode cX1_headsPercent 48 = .ok (.lmul, 1) := by decide +kernel
theorem dX1_headsPercent_49 : decode cX1_headsPercent 49 = .ok (.ldiv, 1) := by decide +kernel
theorem dX1_headsPercent_50 : decode cX1_headsPercent 50 = .ok (.l2i, 1) := by decide +kernel
theorem dX1_headsPercent_51 : decode cX1_headsPercent 51 = .ok (.ireturn, 1) := by decide +kernel
theorem dX1_wouldSurprise_0 : decode cX1_wouldSurprise 0 = .ok (.aload_n 0, 1) := by decide +kernel
theorem dX1_wouldSurprise_1 : decode cX1_wouldSurprise 1 = .ok (.iconst 0, 1) := by decide +kernel
theorem dX1_wouldSurprise_2 : decode cX1_wouldSurprise 2 = .ok (.putfield 19, 3) := by decide +kernel
theorem dX1_wouldSurprise_5 : decode cX1_wouldSurprise 5 = .ok (.aload_n 0, 1) := by decide +kernel
theorem dX1_wouldSurprise_6 : decode cX1_wouldSurprise 6 = .ok (.iload_n 1, 1) := by decide +kernel
theorem dX1_wouldSurprise_7 : decode cX1_wouldSurprise 7 = .ok (.invokevirtual 83, 3) := by decide +kernel
theorem dX1_wouldSurprise_10 : decode cX1_wouldSurprise 10 = .ok (.ifCond .eq 24, 3) := by decide +kernel
theorem dX1_wouldSurprise_13 : decode cX1_wouldSurprise 13 = .ok (.aload_n 0, 1) := by decide +kernel
theorem dX1_wouldSurprise_14 : decode cX1_wouldSurprise 14 = .ok (.iload_n 1, 1) := by decide +kernel
theorem dX1_wouldSurprise_15 : decode cX1_wouldSurprise 15 = .ok (.aload_n 0, 1) := by decide +kernel
theorem dX1_wouldSurprise_16 : decode cX1_wouldSurprise 16 = .ok (.invokevirtual 69, 3) := by decide +kernel
theorem dX1_wouldSurprise_19 : decode cX1_wouldSurprise 19 = .ok (.aload_n 0, 1) := by decide +kernel
theorem dX1_wouldSurprise_20 : decode cX1_wouldSurprise 20 = .ok (.getfield 33, 3) := by decide +kernel
theorem dX1_wouldSurprise_23 : decode cX1_wouldSurprise 23 = .ok (.aload_n 0, 1) := by decide +kernel
theorem dX1_wouldSurprise_24 : decode cX1_wouldSurprise 24 = .ok (.invokevirtual 69, 3) := by decide +kernel
theorem dX1_wouldSurprise_27 : decode cX1_wouldSurprise 27 = .ok (.isub, 1) := by decide +kernel
theorem dX1_wouldSurprise_28 : decode cX1_wouldSurprise 28 = .ok (.invokevirtual 87, 3) := by decide +kernel
theorem dX1_wouldSurprise_31 : decode cX1_wouldSurprise 31 = .ok (.goto 8, 3) := by decide +kernel
theorem dX1_wouldSurprise_34 : decode cX1_wouldSurprise 34 = .ok (.aload_n 0, 1) := by decide +kernel
theorem dX1_wouldSurprise_35 : decode cX1_wouldSurprise 35 = .ok (.iconst 1, 1) := by decide +kernel
theorem dX1_wouldSurprise_36 : decode cX1_wouldSurprise 36 = .ok (.invokevirtual 73, 3) := by decide +kernel
theorem dX1_wouldSurprise_39 : decode cX1_wouldSurprise 39 = .ok (.ireturn, 1) := by decide +kernel
theorem dX1_leaderBehind_0 : decode cX1_leaderBehind 0 = .ok (.aload_n 0, 1) := by decide +kernel
theorem dX1_leaderBehind_1 : decode cX1_leaderBehind 1 = .ok (.iconst 0, 1) := by decide +kernel
theorem dX1_leaderBehind_2 : decode cX1_leaderBehind 2 = .ok (.putfield 19, 3) := by decide +kernel
theorem dX1_leaderBehind_5 : decode cX1_leaderBehind 5 = .ok (.aload_n 0, 1) := by decide +kernel
theorem dX1_leaderBehind_6 : decode cX1_leaderBehind 6 = .ok (.iload_n 1, 1) := by decide +kernel
theorem dX1_leaderBehind_7 : decode cX1_leaderBehind 7 = .ok (.invokevirtual 83, 3) := by decide +kernel
theorem dX1_leaderBehind_10 : decode cX1_leaderBehind 10 = .ok (.ifCond .ne 9, 3) := by decide +kernel
theorem dX1_leaderBehind_13 : decode cX1_leaderBehind 13 = .ok (.aload_n 0, 1) := by decide +kernel
theorem dX1_leaderBehind_14 : decode cX1_leaderBehind 14 = .ok (.iconst 1, 1) := by decide +kernel
theorem dX1_leaderBehind_15 : decode cX1_leaderBehind 15 = .ok (.invokevirtual 73, 3) := by decide +kernel
theorem dX1_leaderBehind_18 : decode cX1_leaderBehind 18 = .ok (.ireturn, 1) := by decide +kernel
theorem dX1_leaderBehind_19 : decode cX1_leaderBehind 19 = .ok (.aload_n 0, 1) := by decide +kernel
theorem dX1_leaderBehind_20 : decode cX1_leaderBehind 20 = .ok (.invokevirtual 69, 3) := by decide +kernel
theorem dX1_leaderBehind_23 : decode cX1_leaderBehind 23 = .ok (.iload_n 1, 1) := by decide +kernel
theorem dX1_leaderBehind_24 : decode cX1_leaderBehind 24 = .ok (.ifCond .eq 7, 3) := by decide +kernel
theorem dX1_leaderBehind_27 : decode cX1_leaderBehind 27 = .ok (.iconst 1, 1) := by decide +kernel
theorem dX1_leaderBehind_28 : decode cX1_leaderBehind 28 = .ok (.goto 4, 3) := by decide +kernel
theorem dX1_leaderBehind_31 : decode cX1_leaderBehind 31 = .ok (.iconst 0, 1) := by decide +kernel
theorem dX1_leaderBehind_32 : decode cX1_leaderBehind 32 = .ok (.iadd, 1) := by decide +kernel
theorem dX1_leaderBehind_33 : decode cX1_leaderBehind 33 = .ok (.istore_n 2, 1) := by decide +kernel
theorem dX1_leaderBehind_34 : decode cX1_leaderBehind 34 = .ok (.aload_n 0, 1) := by decide +kernel
theorem dX1_leaderBehind_35 : decode cX1_leaderBehind 35 = .ok (.iload_n 2, 1) := by decide +kernel
theorem dX1_leaderBehind_36 : decode cX1_leaderBehind 36 = .ok (.aload_n 0, 1) := by decide +kernel
theorem dX1_leaderBehind_37 : decode cX1_leaderBehind 37 = .ok (.getfield 33, 3) := by decide +kernel
theorem dX1_leaderBehind_40 : decode cX1_leaderBehind 40 = .ok (.iconst 1, 1) := by decide +kernel
theorem dX1_leaderBehind_41 : decode cX1_leaderBehind 41 = .ok (.iadd, 1) := by decide +kernel
theorem dX1_leaderBehind_42 : decode cX1_leaderBehind 42 = .ok (.iload_n 2, 1) := by decide +kernel
theorem dX1_leaderBehind_43 : decode cX1_leaderBehind 43 = .ok (.isub, 1) := by decide +kernel
theorem dX1_leaderBehind_44 : decode cX1_leaderBehind 44 = .ok (.invokevirtual 122, 3) := by decide +kernel
theorem dX1_leaderBehind_47 : decode cX1_leaderBehind 47 = .ok (.ireturn, 1) := by decide +kernel
theorem dX1_isFirst_0 : decode cX1_isFirst 0 = .ok (.aload_n 0, 1) := by decide +kernel
theorem dX1_isFirst_1 : decode cX1_isFirst 1 = .ok (.iload_n 1, 1) := by decide +kernel
theorem dX1_isFirst_2 : decode cX1_isFirst 2 = .ok (.iload_n 2, 1) := by decide +kernel
theorem dX1_isFirst_3 : decode cX1_isFirst 3 = .ok (.iload_n 3, 1) := by decide +kernel
theorem dX1_isFirst_4 : decode cX1_isFirst 4 = .ok (.invokevirtual 55, 3) := by decide +kernel
theorem dX1_isFirst_7 : decode cX1_isFirst 7 = .ok (.lconst 0, 1) := by decide +kernel
theorem dX1_isFirst_8 : decode cX1_isFirst 8 = .ok (.lcmp, 1) := by decide +kernel
theorem dX1_isFirst_9 : decode cX1_isFirst 9 = .ok (.ifCond .le 17, 3) := by decide +kernel
theorem dX1_isFirst_12 : decode cX1_isFirst 12 = .ok (.aload_n 0, 1) := by decide +kernel
theorem dX1_isFirst_13 : decode cX1_isFirst 13 = .ok (.iload_n 2, 1) := by decide +kernel
theorem dX1_isFirst_14 : decode cX1_isFirst 14 = .ok (.iload_n 3, 1) := by decide +kernel
theorem dX1_isFirst_15 : decode cX1_isFirst 15 = .ok (.invokevirtual 122, 3) := by decide +kernel
theorem dX1_isFirst_18 : decode cX1_isFirst 18 = .ok (.iload_n 1, 1) := by decide +kernel
theorem dX1_isFirst_19 : decode cX1_isFirst 19 = .ok (.if_icmp .ne 7, 3) := by decide +kernel
theorem dX1_isFirst_22 : decode cX1_isFirst 22 = .ok (.iconst 1, 1) := by decide +kernel
theorem dX1_isFirst_23 : decode cX1_isFirst 23 = .ok (.goto 4, 3) := by decide +kernel
theorem dX1_isFirst_26 : decode cX1_isFirst 26 = .ok (.iconst 0, 1) := by decide +kernel
theorem dX1_isFirst_27 : decode cX1_isFirst 27 = .ok (.ireturn, 1) := by decide +kernel
theorem dX1_toLead_0 : decode cX1_toLead 0 = .ok (.aload_n 0, 1) := by decide +kernel
theorem dX1_toLead_1 : decode cX1_toLead 1 = .ok (.invokevirtual 69, 3) := by decide +kernel
theorem dX1_toLead_4 : decode cX1_toLead 4 = .ok (.istore_n 2, 1) := by decide +kernel
theorem dX1_toLead_5 : decode cX1_toLead 5 = .ok (.aload_n 0, 1) := by decide +kernel
theorem dX1_toLead_6 : decode cX1_toLead 6 = .ok (.getfield 33, 3) := by decide +kernel
theorem dX1_toLead_9 : decode cX1_toLead 9 = .ok (.iload_n 2, 1) := by decide +kernel
theorem dX1_toLead_10 : decode cX1_toLead 10 = .ok (.isub, 1) := by decide +kernel
theorem dX1_toLead_11 : decode cX1_toLead 11 = .ok (.istore_n 3, 1) := by decide +kernel
theorem dX1_toLead_12 : decode cX1_toLead 12 = .ok (.iconst 0, 1) := by decide +kernel
theorem dX1_toLead_13 : decode cX1_toLead 13 = .ok (.istore 4, 2) := by decide +kernel
theorem dX1_toLead_15 : decode cX1_toLead 15 = .ok (.aload_n 0, 1) := by decide +kernel
theorem dX1_toLead_16 : decode cX1_toLead 16 = .ok (.getfield 33, 3) := by decide +kernel
theorem dX1_toLead_19 : decode cX1_toLead 19 = .ok (.iload 4, 2) := by decide +kernel
theorem dX1_toLead_21 : decode cX1_toLead 21 = .ok (.iadd, 1) := by decide +kernel
theorem dX1_toLead_22 : decode cX1_toLead 22 = .ok (.bipush 12, 2) := by decide +kernel
theorem dX1_toLead_24 : decode cX1_toLead 24 = .ok (.if_icmp .gt 38, 3) := by decide +kernel
theorem dX1_toLead_27 : decode cX1_toLead 27 = .ok (.aload_n 0, 1) := by decide +kernel
theorem dX1_toLead_28 : decode cX1_toLead 28 = .ok (.iload_n 1, 1) := by decide +kernel
theorem dX1_toLead_29 : decode cX1_toLead 29 = .ok (.iload_n 2, 1) := by decide +kernel
theorem dX1_toLead_30 : decode cX1_toLead 30 = .ok (.iload 4, 2) := by decide +kernel
theorem dX1_toLead_32 : decode cX1_toLead 32 = .ok (.iadd, 1) := by decide +kernel
theorem dX1_toLead_33 : decode cX1_toLead 33 = .ok (.iload_n 3, 1) := by decide +kernel
theorem dX1_toLead_34 : decode cX1_toLead 34 = .ok (.invokevirtual 133, 3) := by decide +kernel
theorem dX1_toLead_37 : decode cX1_toLead 37 = .ok (.ifCond .ne 16, 3) := by decide +kernel
theorem dX1_toLead_40 : decode cX1_toLead 40 = .ok (.aload_n 0, 1) := by decide +kernel
theorem dX1_toLead_41 : decode cX1_toLead 41 = .ok (.iload_n 1, 1) := by decide +kernel
theorem dX1_toLead_42 : decode cX1_toLead 42 = .ok (.iload_n 2, 1) := by decide +kernel
theorem dX1_toLead_43 : decode cX1_toLead 43 = .ok (.iload_n 3, 1) := by decide +kernel
theorem dX1_toLead_44 : decode cX1_toLead 44 = .ok (.iload 4, 2) := by decide +kernel
theorem dX1_toLead_46 : decode cX1_toLead 46 = .ok (.iadd, 1) := by decide +kernel
theorem dX1_toLead_47 : decode cX1_toLead 47 = .ok (.invokevirtual 133, 3) := by decide +kernel
theorem dX1_toLead_50 : decode cX1_toLead 50 = .ok (.ifCond .eq 6, 3) := by decide +kernel
theorem dX1_toLead_53 : decode cX1_toLead 53 = .ok (.iload 4, 2) := by decide +kernel
theorem dX1_toLead_55 : decode cX1_toLead 55 = .ok (.ireturn, 1) := by decide +kernel
theorem dX1_toLead_56 : decode cX1_toLead 56 = .ok (.iinc 4 1, 3) := by decide +kernel
theorem dX1_toLead_59 : decode cX1_toLead 59 = .ok (.goto (-44), 3) := by decide +kernel
theorem dX1_toLead_62 : decode cX1_toLead 62 = .ok (.iconst (-1), 1) := by decide +kernel
theorem dX1_toLead_63 : decode cX1_toLead 63 = .ok (.ireturn, 1) := by decide +kernel
theorem dX1_tossesToLead_0 : decode cX1_tossesToLead 0 = .ok (.aload_n 0, 1) := by decide +kernel
theorem dX1_tossesToLead_1 : decode cX1_tossesToLead 1 = .ok (.iconst 0, 1) := by decide +kernel
theorem dX1_tossesToLead_2 : decode cX1_tossesToLead 2 = .ok (.putfield 19, 3) := by decide +kernel
theorem dX1_tossesToLead_5 : decode cX1_tossesToLead 5 = .ok (.aload_n 0, 1) := by decide +kernel
theorem dX1_tossesToLead_6 : decode cX1_tossesToLead 6 = .ok (.iload_n 1, 1) := by decide +kernel
theorem dX1_tossesToLead_7 : decode cX1_tossesToLead 7 = .ok (.invokevirtual 80, 3) := by decide +kernel
theorem dX1_tossesToLead_10 : decode cX1_tossesToLead 10 = .ok (.ifCond .eq 11, 3) := by decide +kernel
theorem dX1_tossesToLead_13 : decode cX1_tossesToLead 13 = .ok (.aload_n 0, 1) := by decide +kernel
theorem dX1_tossesToLead_14 : decode cX1_tossesToLead 14 = .ok (.iload_n 1, 1) := by decide +kernel
theorem dX1_tossesToLead_15 : decode cX1_tossesToLead 15 = .ok (.invokevirtual 136, 3) := by decide +kernel
theorem dX1_tossesToLead_18 : decode cX1_tossesToLead 18 = .ok (.goto 8, 3) := by decide +kernel
theorem dX1_tossesToLead_21 : decode cX1_tossesToLead 21 = .ok (.aload_n 0, 1) := by decide +kernel
theorem dX1_tossesToLead_22 : decode cX1_tossesToLead 22 = .ok (.iconst 1, 1) := by decide +kernel
theorem dX1_tossesToLead_23 : decode cX1_tossesToLead 23 = .ok (.invokevirtual 73, 3) := by decide +kernel
theorem dX1_tossesToLead_26 : decode cX1_tossesToLead 26 = .ok (.ireturn, 1) := by decide +kernel
theorem dX1_decisive_0 : decode cX1_decisive 0 = .ok (.aload_n 0, 1) := by decide +kernel
theorem dX1_decisive_1 : decode cX1_decisive 1 = .ok (.invokevirtual 69, 3) := by decide +kernel
theorem dX1_decisive_4 : decode cX1_decisive 4 = .ok (.istore_n 1, 1) := by decide +kernel
theorem dX1_decisive_5 : decode cX1_decisive 5 = .ok (.aload_n 0, 1) := by decide +kernel
theorem dX1_decisive_6 : decode cX1_decisive 6 = .ok (.getfield 33, 3) := by decide +kernel
theorem dX1_decisive_9 : decode cX1_decisive 9 = .ok (.iload_n 1, 1) := by decide +kernel
theorem dX1_decisive_10 : decode cX1_decisive 10 = .ok (.isub, 1) := by decide +kernel
theorem dX1_decisive_11 : decode cX1_decisive 11 = .ok (.istore_n 2, 1) := by decide +kernel
theorem dX1_decisive_12 : decode cX1_decisive 12 = .ok (.aload_n 0, 1) := by decide +kernel
theorem dX1_decisive_13 : decode cX1_decisive 13 = .ok (.invokevirtual 125, 3) := by decide +kernel
theorem dX1_decisive_16 : decode cX1_decisive 16 = .ok (.istore_n 3, 1) := by decide +kernel
theorem dX1_decisive_17 : decode cX1_decisive 17 = .ok (.iconst 0, 1) := by decide +kernel
theorem dX1_decisive_18 : decode cX1_decisive 18 = .ok (.istore 4, 2) := by decide +kernel
theorem dX1_decisive_20 : decode cX1_decisive 20 = .ok (.iconst 0, 1) := by decide +kernel
theorem dX1_decisive_21 : decode cX1_decisive 21 = .ok (.istore 5, 2) := by decide +kernel
theorem dX1_decisive_23 : decode cX1_decisive 23 = .ok (.iload 5, 2) := by decide +kernel
theorem dX1_decisive_25 : decode cX1_decisive 25 = .ok (.aload_n 0, 1) := by decide +kernel
theorem dX1_decisive_26 : decode cX1_decisive 26 = .ok (.getfield 33, 3) := by decide +kernel
theorem dX1_decisive_29 : decode cX1_decisive 29 = .ok (.if_icmp .ge 51, 3) := by decide +kernel
theorem dX1_decisive_32 : decode cX1_decisive 32 = .ok (.iload 4, 2) := by decide +kernel
theorem dX1_decisive_34 : decode cX1_decisive 34 = .ok (.aload_n 0, 1) := by decide +kernel
theorem dX1_decisive_35 : decode cX1_decisive 35 = .ok (.iload 5, 2) := by decide +kernel
theorem dX1_decisive_37 : decode cX1_decisive 37 = .ok (.invokevirtual 100, 3) := by decide +kernel
theorem dX1_decisive_40 : decode cX1_decisive 40 = .ok (.ifCond .eq 14, 3) := by decide +kernel
theorem dX1_decisive_43 : decode cX1_decisive 43 = .ok (.aload_n 0, 1) := by decide +kernel
theorem dX1_decisive_44 : decode cX1_decisive 44 = .ok (.iload_n 1, 1) := by decide +kernel
theorem dX1_decisive_45 : decode cX1_decisive 45 = .ok (.iconst 1, 1) := by decide +kernel
theorem dX1_decisive_46 : decode cX1_decisive 46 = .ok (.isub, 1) := by decide +kernel
theorem dX1_decisive_47 : decode cX1_decisive 47 = .ok (.iload_n 2, 1) := by decide +kernel
theorem dX1_decisive_48 : decode cX1_decisive 48 = .ok (.invokevirtual 122, 3) := by decide +kernel
theorem dX1_decisive_51 : decode cX1_decisive 51 = .ok (.goto 11, 3) := by decide +kernel
theorem dX1_decisive_54 : decode cX1_decisive 54 = .ok (.aload_n 0, 1) := by decide +kernel
theorem dX1_decisive_55 : decode cX1_decisive 55 = .ok (.iload_n 1, 1) := by decide +kernel
theorem dX1_decisive_56 : decode cX1_decisive 56 = .ok (.iload_n 2, 1) := by decide +kernel
theorem dX1_decisive_57 : decode cX1_decisive 57 = .ok (.iconst 1, 1) := by decide +kernel
theorem dX1_decisive_58 : decode cX1_decisive 58 = .ok (.isub, 1) := by decide +kernel
theorem dX1_decisive_59 : decode cX1_decisive 59 = .ok (.invokevirtual 122, 3) := by decide +kernel
theorem dX1_decisive_62 : decode cX1_decisive 62 = .ok (.iload_n 3, 1) := by decide +kernel
theorem dX1_decisive_63 : decode cX1_decisive 63 = .ok (.if_icmp .eq 7, 3) := by decide +kernel
theorem dX1_decisive_66 : decode cX1_decisive 66 = .ok (.iconst 1, 1) := by decide +kernel
theorem dX1_decisive_67 : decode cX1_decisive 67 = .ok (.goto 4, 3) := by decide +kernel
theorem dX1_decisive_70 : decode cX1_decisive 70 = .ok (.iconst 0, 1) := by decide +kernel
theorem dX1_decisive_71 : decode cX1_decisive 71 = .ok (.iadd, 1) := by decide +kernel
theorem dX1_decisive_72 : decode cX1_decisive 72 = .ok (.istore 4, 2) := by decide +kernel
theorem dX1_decisive_74 : decode cX1_decisive 74 = .ok (.iinc 5 1, 3) := by decide +kernel
theorem dX1_decisive_77 : decode cX1_decisive 77 = .ok (.goto (-54), 3) := by decide +kernel
theorem dX1_decisive_80 : decode cX1_decisive 80 = .ok (.iload 4, 2) := by decide +kernel
theorem dX1_decisive_82 : decode cX1_decisive 82 = .ok (.ireturn, 1) := by decide +kernel
theorem dX1_decisiveTosses_0 : decode cX1_decisiveTosses 0 = .ok (.aload_n 0, 1) := by decide +kernel
theorem dX1_decisiveTosses_1 : decode cX1_decisiveTosses 1 = .ok (.aload_n 0, 1) := by decide +kernel
theorem dX1_decisiveTosses_2 : decode cX1_decisiveTosses 2 = .ok (.invokevirtual 139, 3) := by decide +kernel
theorem dX1_decisiveTosses_5 : decode cX1_decisiveTosses 5 = .ok (.invokevirtual 97, 3) := by decide +kernel
theorem dX1_decisiveTosses_8 : decode cX1_decisiveTosses 8 = .ok (.ireturn, 1) := by decide +kernel
theorem dX1_meanTenths_0 : decode cX1_meanTenths 0 = .ok (.aload_n 0, 1) := by decide +kernel
theorem dX1_meanTenths_1 : decode cX1_meanTenths 1 = .ok (.iconst 0, 1) := by decide +kernel
theorem dX1_meanTenths_2 : decode cX1_meanTenths 2 = .ok (.putfield 19, 3) := by decide +kernel
theorem dX1_meanTenths_5 : decode cX1_meanTenths 5 = .ok (.aload_n 0, 1) := by decide +kernel
theorem dX1_meanTenths_6 : decode cX1_meanTenths 6 = .ok (.invokevirtual 113, 3) := by decide +kernel
theorem dX1_meanTenths_9 : decode cX1_meanTenths 9 = .ok (.lstore_n 1, 1) := by decide +kernel
theorem dX1_meanTenths_10 : decode cX1_meanTenths 10 = .ok (.lload_n 1, 1) := by decide +kernel
theorem dX1_meanTenths_11 : decode cX1_meanTenths 11 = .ok (.lconst 0, 1) := by decide +kernel
theorem dX1_meanTenths_12 : decode cX1_meanTenths 12 = .ok (.lcmp, 1) := by decide +kernel
theorem dX1_meanTenths_13 : decode cX1_meanTenths 13 = .ok (.ifCond .ne 10, 3) := by decide +kernel
theorem dX1_meanTenths_16 : decode cX1_meanTenths 16 = .ok (.aload_n 0, 1) := by decide +kernel
theorem dX1_meanTenths_17 : decode cX1_meanTenths 17 = .ok (.iconst 1, 1) := by decide +kernel
theorem dX1_meanTenths_18 : decode cX1_meanTenths 18 = .ok (.invokevirtual 73, 3) := by decide +kernel
theorem dX1_meanTenths_21 : decode cX1_meanTenths 21 = .ok (.i2d, 1) := by decide +kernel
theorem dX1_meanTenths_22 : decode cX1_meanTenths 22 = .ok (.dreturn, 1) := by decide +kernel
theorem dX1_meanTenths_23 : decode cX1_meanTenths 23 = .ok (.aload_n 0, 1) := by decide +kernel
theorem dX1_meanTenths_24 : decode cX1_meanTenths 24 = .ok (.iconst 1, 1) := by decide +kernel
theorem dX1_meanTenths_25 : decode cX1_meanTenths 25 = .ok (.aload_n 0, 1) := by decide +kernel
theorem dX1_meanTenths_26 : decode cX1_meanTenths 26 = .ok (.invokevirtual 69, 3) := by decide +kernel
theorem dX1_meanTenths_29 : decode cX1_meanTenths 29 = .ok (.aload_n 0, 1) := by decide +kernel
theorem dX1_meanTenths_30 : decode cX1_meanTenths 30 = .ok (.getfield 33, 3) := by decide +kernel
theorem dX1_meanTenths_33 : decode cX1_meanTenths 33 = .ok (.aload_n 0, 1) := by decide +kernel
theorem dX1_meanTenths_34 : decode cX1_meanTenths 34 = .ok (.invokevirtual 69, 3) := by decide +kernel
theorem dX1_meanTenths_37 : decode cX1_meanTenths 37 = .ok (.isub, 1) := by decide +kernel
theorem dX1_meanTenths_38 : decode cX1_meanTenths 38 = .ok (.invokevirtual 65, 3) := by decide +kernel
theorem dX1_meanTenths_41 : decode cX1_meanTenths 41 = .ok (.l2d, 1) := by decide +kernel
theorem dX1_meanTenths_42 : decode cX1_meanTenths 42 = .ok (.lload_n 1, 1) := by decide +kernel
theorem dX1_meanTenths_43 : decode cX1_meanTenths 43 = .ok (.l2d, 1) := by decide +kernel
theorem dX1_meanTenths_44 : decode cX1_meanTenths 44 = .ok (.ddiv, 1) := by decide +kernel
theorem dX1_meanTenths_45 : decode cX1_meanTenths 45 = .ok (.dreturn, 1) := by decide +kernel
theorem dX1_digest_0 : decode cX1_digest 0 = .ok (.aload_n 0, 1) := by decide +kernel
theorem dX1_digest_1 : decode cX1_digest 1 = .ok (.iconst 0, 1) := by decide +kernel
theorem dX1_digest_2 : decode cX1_digest 2 = .ok (.putfield 19, 3) := by decide +kernel
theorem dX1_digest_5 : decode cX1_digest 5 = .ok (.ldc2_w 142, 3) := by decide +kernel
theorem dX1_digest_8 : decode cX1_digest 8 = .ok (.lstore_n 1, 1) := by decide +kernel
theorem dX1_digest_9 : decode cX1_digest 9 = .ok (.lload_n 1, 1) := by decide +kernel
theorem dX1_digest_10 : decode cX1_digest 10 = .ok (.ldc2_w 144, 3) := by decide +kernel
theorem dX1_digest_13 : decode cX1_digest 13 = .ok (.lmul, 1) := by decide +kernel
theorem dX1_digest_14 : decode cX1_digest 14 = .ok (.aload_n 0, 1) := by decide +kernel
theorem dX1_digest_15 : decode cX1_digest 15 = .ok (.getfield 23, 3) := by decide +kernel
theorem dX1_digest_18 : decode cX1_digest 18 = .ok (.i2l, 1) := by decide +kernel
theorem dX1_digest_19 : decode cX1_digest 19 = .ok (.ladd, 1) := by decide +kernel
theorem dX1_digest_20 : decode cX1_digest 20 = .ok (.lstore_n 1, 1) := by decide +kernel
theorem dX1_digest_21 : decode cX1_digest 21 = .ok (.lload_n 1, 1) := by decide +kernel
theorem dX1_digest_22 : decode cX1_digest 22 = .ok (.ldc2_w 144, 3) := by decide +kernel
theorem dX1_digest_25 : decode cX1_digest 25 = .ok (.lmul, 1) := by decide +kernel
theorem dX1_digest_26 : decode cX1_digest 26 = .ok (.aload_n 0, 1) := by decide +kernel
theorem dX1_digest_27 : decode cX1_digest 27 = .ok (.getfield 30, 3) := by decide +kernel
theorem dX1_digest_30 : decode cX1_digest 30 = .ok (.i2l, 1) := by decide +kernel
theorem dX1_digest_31 : decode cX1_digest 31 = .ok (.ladd, 1) := by decide +kernel
theorem dX1_digest_32 : decode cX1_digest 32 = .ok (.lstore_n 1, 1) := by decide +kernel
theorem dX1_digest_33 : decode cX1_digest 33 = .ok (.lload_n 1, 1) := by decide +kernel
theorem dX1_digest_34 : decode cX1_digest 34 = .ok (.ldc2_w 144, 3) := by decide +kernel
theorem dX1_digest_37 : decode cX1_digest 37 = .ok (.lmul, 1) := by decide +kernel
theorem dX1_digest_38 : decode cX1_digest 38 = .ok (.aload_n 0, 1) := by decide +kernel
theorem dX1_digest_39 : decode cX1_digest 39 = .ok (.getfield 33, 3) := by decide +kernel
theorem dX1_digest_42 : decode cX1_digest 42 = .ok (.i2l, 1) := by decide +kernel
theorem dX1_digest_43 : decode cX1_digest 43 = .ok (.ladd, 1) := by decide +kernel
theorem dX1_digest_44 : decode cX1_digest 44 = .ok (.lstore_n 1, 1) := by decide +kernel
theorem dX1_digest_45 : decode cX1_digest 45 = .ok (.lload_n 1, 1) := by decide +kernel
theorem dX1_digest_46 : decode cX1_digest 46 = .ok (.ldc2_w 144, 3) := by decide +kernel
theorem dX1_digest_49 : decode cX1_digest 49 = .ok (.lmul, 1) := by decide +kernel
theorem dX1_digest_50 : decode cX1_digest 50 = .ok (.aload_n 0, 1) := by decide +kernel
theorem dX1_digest_51 : decode cX1_digest 51 = .ok (.invokevirtual 69, 3) := by decide +kernel
theorem dX1_digest_54 : decode cX1_digest 54 = .ok (.i2l, 1) := by decide +kernel
theorem dX1_digest_55 : decode cX1_digest 55 = .ok (.ladd, 1) := by decide +kernel
theorem dX1_digest_56 : decode cX1_digest 56 = .ok (.lstore_n 1, 1) := by decide +kernel
theorem dX1_digest_57 : decode cX1_digest 57 = .ok (.lload_n 1, 1) := by decide +kernel
theorem dX1_digest_58 : decode cX1_digest 58 = .ok (.ldc2_w 144, 3) := by decide +kernel
theorem dX1_digest_61 : decode cX1_digest 61 = .ok (.lmul, 1) := by decide +kernel
theorem dX1_digest_62 : decode cX1_digest 62 = .ok (.aload_n 0, 1) := by decide +kernel
theorem dX1_digest_63 : decode cX1_digest 63 = .ok (.invokevirtual 113, 3) := by decide +kernel
theorem dX1_digest_66 : decode cX1_digest 66 = .ok (.ladd, 1) := by decide +kernel
theorem dX1_digest_67 : decode cX1_digest 67 = .ok (.lstore_n 1, 1) := by decide +kernel
theorem dX1_digest_68 : decode cX1_digest 68 = .ok (.lload_n 1, 1) := by decide +kernel
theorem dX1_digest_69 : decode cX1_digest 69 = .ok (.ldc2_w 144, 3) := by decide +kernel
theorem dX1_digest_72 : decode cX1_digest 72 = .ok (.lmul, 1) := by decide +kernel
theorem dX1_digest_73 : decode cX1_digest 73 = .ok (.aload_n 0, 1) := by decide +kernel
theorem dX1_digest_74 : decode cX1_digest 74 = .ok (.invokevirtual 117, 3) := by decide +kernel
theorem dX1_digest_77 : decode cX1_digest 77 = .ok (.i2l, 1) := by decide +kernel
theorem dX1_digest_78 : decode cX1_digest 78 = .ok (.ladd, 1) := by decide +kernel
theorem dX1_digest_79 : decode cX1_digest 79 = .ok (.lstore_n 1, 1) := by decide +kernel
theorem dX1_digest_80 : decode cX1_digest 80 = .ok (.lload_n 1, 1) := by decide +kernel
theorem dX1_digest_81 : decode cX1_digest 81 = .ok (.ldc2_w 144, 3) := by decide +kernel
theorem dX1_digest_84 : decode cX1_digest 84 = .ok (.lmul, 1) := by decide +kernel
theorem dX1_digest_85 : decode cX1_digest 85 = .ok (.aload_n 0, 1) := by decide +kernel
theorem dX1_digest_86 : decode cX1_digest 86 = .ok (.invokevirtual 130, 3) := by decide +kernel
theorem dX1_digest_89 : decode cX1_digest 89 = .ok (.i2l, 1) := by decide +kernel
theorem dX1_digest_90 : decode cX1_digest 90 = .ok (.ladd, 1) := by decide +kernel
theorem dX1_digest_91 : decode cX1_digest 91 = .ok (.lstore_n 1, 1) := by decide +kernel
theorem dX1_digest_92 : decode cX1_digest 92 = .ok (.lload_n 1, 1) := by decide +kernel
theorem dX1_digest_93 : decode cX1_digest 93 = .ok (.ldc2_w 144, 3) := by decide +kernel
theorem dX1_digest_96 : decode cX1_digest 96 = .ok (.lmul, 1) := by decide +kernel
theorem dX1_digest_97 : decode cX1_digest 97 = .ok (.aload_n 0, 1) := by decide +kernel
theorem dX1_digest_98 : decode cX1_digest 98 = .ok (.invokevirtual 139, 3) := by decide +kernel
theorem dX1_digest_101 : decode cX1_digest 101 = .ok (.i2l, 1) := by decide +kernel
theorem dX1_digest_102 : decode cX1_digest 102 = .ok (.ladd, 1) := by decide +kernel
theorem dX1_digest_103 : decode cX1_digest 103 = .ok (.lstore_n 1, 1) := by decide +kernel
theorem dX1_digest_104 : decode cX1_digest 104 = .ok (.iconst 0, 1) := by decide +kernel
theorem dX1_digest_105 : decode cX1_digest 105 = .ok (.istore_n 3, 1) := by decide +kernel
theorem dX1_digest_106 : decode cX1_digest 106 = .ok (.iload_n 3, 1) := by decide +kernel
theorem dX1_digest_107 : decode cX1_digest 107 = .ok (.aload_n 0, 1) := by decide +kernel
theorem dX1_digest_108 : decode cX1_digest 108 = .ok (.getfield 23, 3) := by decide +kernel
theorem dX1_digest_111 : decode cX1_digest 111 = .ok (.if_icmp .ge 48, 3) := by decide +kernel
theorem dX1_digest_114 : decode cX1_digest 114 = .ok (.lload_n 1, 1) := by decide +kernel
theorem dX1_digest_115 : decode cX1_digest 115 = .ok (.ldc2_w 144, 3) := by decide +kernel
theorem dX1_digest_118 : decode cX1_digest 118 = .ok (.lmul, 1) := by decide +kernel
theorem dX1_digest_119 : decode cX1_digest 119 = .ok (.aload_n 0, 1) := by decide +kernel
theorem dX1_digest_120 : decode cX1_digest 120 = .ok (.getfield 9, 3) := by decide +kernel
theorem dX1_digest_123 : decode cX1_digest 123 = .ok (.iload_n 3, 1) := by decide +kernel
theorem dX1_digest_124 : decode cX1_digest 124 = .ok (.iaload, 1) := by decide +kernel
theorem dX1_digest_125 : decode cX1_digest 125 = .ok (.i2l, 1) := by decide +kernel
theorem dX1_digest_126 : decode cX1_digest 126 = .ok (.ladd, 1) := by decide +kernel
theorem dX1_digest_127 : decode cX1_digest 127 = .ok (.lstore_n 1, 1) := by decide +kernel
theorem dX1_digest_128 : decode cX1_digest 128 = .ok (.lload_n 1, 1) := by decide +kernel
theorem dX1_digest_129 : decode cX1_digest 129 = .ok (.ldc2_w 144, 3) := by decide +kernel
theorem dX1_digest_132 : decode cX1_digest 132 = .ok (.lmul, 1) := by decide +kernel
theorem dX1_digest_133 : decode cX1_digest 133 = .ok (.aload_n 0, 1) := by decide +kernel
theorem dX1_digest_134 : decode cX1_digest 134 = .ok (.iload_n 3, 1) := by decide +kernel
theorem dX1_digest_135 : decode cX1_digest 135 = .ok (.invokevirtual 106, 3) := by decide +kernel
theorem dX1_digest_138 : decode cX1_digest 138 = .ok (.ladd, 1) := by decide +kernel
theorem dX1_digest_139 : decode cX1_digest 139 = .ok (.lstore_n 1, 1) := by decide +kernel
theorem dX1_digest_140 : decode cX1_digest 140 = .ok (.lload_n 1, 1) := by decide +kernel
theorem dX1_digest_141 : decode cX1_digest 141 = .ok (.ldc2_w 144, 3) := by decide +kernel
theorem dX1_digest_144 : decode cX1_digest 144 = .ok (.lmul, 1) := by decide +kernel
theorem dX1_digest_145 : decode cX1_digest 145 = .ok (.aload_n 0, 1) := by decide +kernel
theorem dX1_digest_146 : decode cX1_digest 146 = .ok (.iload_n 3, 1) := by decide +kernel
theorem dX1_digest_147 : decode cX1_digest 147 = .ok (.invokevirtual 136, 3) := by decide +kernel
theorem dX1_digest_150 : decode cX1_digest 150 = .ok (.i2l, 1) := by decide +kernel
theorem dX1_digest_151 : decode cX1_digest 151 = .ok (.ladd, 1) := by decide +kernel
theorem dX1_digest_152 : decode cX1_digest 152 = .ok (.lstore_n 1, 1) := by decide +kernel
theorem dX1_digest_153 : decode cX1_digest 153 = .ok (.iinc 3 1, 3) := by decide +kernel
theorem dX1_digest_156 : decode cX1_digest 156 = .ok (.goto (-50), 3) := by decide +kernel
theorem dX1_digest_159 : decode cX1_digest 159 = .ok (.iconst 0, 1) := by decide +kernel
theorem dX1_digest_160 : decode cX1_digest 160 = .ok (.istore_n 3, 1) := by decide +kernel
theorem dX1_digest_161 : decode cX1_digest 161 = .ok (.iload_n 3, 1) := by decide +kernel
theorem dX1_digest_162 : decode cX1_digest 162 = .ok (.aload_n 0, 1) := by decide +kernel
theorem dX1_digest_163 : decode cX1_digest 163 = .ok (.getfield 30, 3) := by decide +kernel
theorem dX1_digest_166 : decode cX1_digest 166 = .ok (.if_icmp .ge 72, 3) := by decide +kernel
theorem dX1_digest_169 : decode cX1_digest 169 = .ok (.lload_n 1, 1) := by decide +kernel
theorem dX1_digest_170 : decode cX1_digest 170 = .ok (.ldc2_w 144, 3) := by decide +kernel
theorem dX1_digest_173 : decode cX1_digest 173 = .ok (.lmul, 1) := by decide +kernel
theorem dX1_digest_174 : decode cX1_digest 174 = .ok (.aload_n 0, 1) := by decide +kernel
theorem dX1_digest_175 : decode cX1_digest 175 = .ok (.getfield 13, 3) := by decide +kernel
theorem dX1_digest_178 : decode cX1_digest 178 = .ok (.iload_n 3, 1) := by decide +kernel
theorem dX1_digest_179 : decode cX1_digest 179 = .ok (.iaload, 1) := by decide +kernel
theorem dX1_digest_180 : decode cX1_digest 180 = .ok (.i2l, 1) := by decide +kernel
theorem dX1_digest_181 : decode cX1_digest 181 = .ok (.ladd, 1) := by decide +kernel
theorem dX1_digest_182 : decode cX1_digest 182 = .ok (.lstore_n 1, 1) := by decide +kernel
theorem dX1_digest_183 : decode cX1_digest 183 = .ok (.lload_n 1, 1) := by decide +kernel
theorem dX1_digest_184 : decode cX1_digest 184 = .ok (.ldc2_w 144, 3) := by decide +kernel
theorem dX1_digest_187 : decode cX1_digest 187 = .ok (.lmul, 1) := by decide +kernel
theorem dX1_digest_188 : decode cX1_digest 188 = .ok (.aload_n 0, 1) := by decide +kernel
theorem dX1_digest_189 : decode cX1_digest 189 = .ok (.iload_n 3, 1) := by decide +kernel
theorem dX1_digest_190 : decode cX1_digest 190 = .ok (.invokevirtual 110, 3) := by decide +kernel
theorem dX1_digest_193 : decode cX1_digest 193 = .ok (.ladd, 1) := by decide +kernel
theorem dX1_digest_194 : decode cX1_digest 194 = .ok (.lstore_n 1, 1) := by decide +kernel
theorem dX1_digest_195 : decode cX1_digest 195 = .ok (.iconst 0, 1) := by decide +kernel
theorem dX1_digest_196 : decode cX1_digest 196 = .ok (.istore 4, 2) := by decide +kernel
theorem dX1_digest_198 : decode cX1_digest 198 = .ok (.iload 4, 2) := by decide +kernel
theorem dX1_digest_200 : decode cX1_digest 200 = .ok (.aload_n 0, 1) := by decide +kernel
theorem dX1_digest_201 : decode cX1_digest 201 = .ok (.getfield 23, 3) := by decide +kernel
theorem dX1_digest_204 : decode cX1_digest 204 = .ok (.if_icmp .ge 28, 3) := by decide +kernel
theorem dX1_digest_207 : decode cX1_digest 207 = .ok (.lload_n 1, 1) := by decide +kernel
theorem dX1_digest_208 : decode cX1_digest 208 = .ok (.ldc2_w 144, 3) := by decide +kernel
theorem dX1_digest_211 : decode cX1_digest 211 = .ok (.lmul, 1) := by decide +kernel
theorem dX1_digest_212 : decode cX1_digest 212 = .ok (.aload_n 0, 1) := by decide +kernel
theorem dX1_digest_213 : decode cX1_digest 213 = .ok (.getfield 16, 3) := by decide +kernel
theorem dX1_digest_216 : decode cX1_digest 216 = .ok (.iconst 4, 1) := by decide +kernel
theorem dX1_digest_217 : decode cX1_digest 217 = .ok (.iload 4, 2) := by decide +kernel
theorem dX1_digest_219 : decode cX1_digest 219 = .ok (.imul, 1) := by decide +kernel
theorem dX1_digest_220 : decode cX1_digest 220 = .ok (.iload_n 3, 1) := by decide +kernel
theorem dX1_digest_221 : decode cX1_digest 221 = .ok (.iadd, 1) := by decide +kernel
theorem dX1_digest_222 : decode cX1_digest 222 = .ok (.iaload, 1) := by decide +kernel
theorem dX1_digest_223 : decode cX1_digest 223 = .ok (.i2l, 1) := by decide +kernel
theorem dX1_digest_224 : decode cX1_digest 224 = .ok (.ladd, 1) := by decide +kernel
theorem dX1_digest_225 : decode cX1_digest 225 = .ok (.lstore_n 1, 1) := by decide +kernel
theorem dX1_digest_226 : decode cX1_digest 226 = .ok (.iinc 4 1, 3) := by decide +kernel
theorem dX1_digest_229 : decode cX1_digest 229 = .ok (.goto (-31), 3) := by decide +kernel
theorem dX1_digest_232 : decode cX1_digest 232 = .ok (.iinc 3 1, 3) := by decide +kernel
theorem dX1_digest_235 : decode cX1_digest 235 = .ok (.goto (-74), 3) := by decide +kernel
theorem dX1_digest_238 : decode cX1_digest 238 = .ok (.iconst 0, 1) := by decide +kernel
theorem dX1_digest_239 : decode cX1_digest 239 = .ok (.istore_n 3, 1) := by decide +kernel
theorem dX1_digest_240 : decode cX1_digest 240 = .ok (.iload_n 3, 1) := by decide +kernel
theorem dX1_digest_241 : decode cX1_digest 241 = .ok (.aload_n 0, 1) := by decide +kernel
theorem dX1_digest_242 : decode cX1_digest 242 = .ok (.getfield 33, 3) := by decide +kernel
theorem dX1_digest_245 : decode cX1_digest 245 = .ok (.if_icmp .ge 43, 3) := by decide +kernel
theorem dX1_digest_248 : decode cX1_digest 248 = .ok (.lload_n 1, 1) := by decide +kernel
theorem dX1_digest_249 : decode cX1_digest 249 = .ok (.ldc2_w 144, 3) := by decide +kernel
theorem dX1_digest_252 : decode cX1_digest 252 = .ok (.lmul, 1) := by decide +kernel
theorem dX1_digest_253 : decode cX1_digest 253 = .ok (.aload_n 0, 1) := by decide +kernel
theorem dX1_digest_254 : decode cX1_digest 254 = .ok (.iload_n 3, 1) := by decide +kernel
theorem dX1_digest_255 : decode cX1_digest 255 = .ok (.invokevirtual 100, 3) := by decide +kernel
theorem dX1_digest_258 : decode cX1_digest 258 = .ok (.ifCond .eq 7, 3) := by decide +kernel
theorem dX1_digest_261 : decode cX1_digest 261 = .ok (.iconst 1, 1) := by decide +kernel
theorem dX1_digest_262 : decode cX1_digest 262 = .ok (.goto 4, 3) := by decide +kernel
theorem dX1_digest_265 : decode cX1_digest 265 = .ok (.iconst 0, 1) := by decide +kernel
theorem dX1_digest_266 : decode cX1_digest 266 = .ok (.i2l, 1) := by decide +kernel
theorem dX1_digest_267 : decode cX1_digest 267 = .ok (.ladd, 1) := by decide +kernel
theorem dX1_digest_268 : decode cX1_digest 268 = .ok (.lstore_n 1, 1) := by decide +kernel
theorem dX1_digest_269 : decode cX1_digest 269 = .ok (.lload_n 1, 1) := by decide +kernel
theorem dX1_digest_270 : decode cX1_digest 270 = .ok (.ldc2_w 144, 3) := by decide +kernel
theorem dX1_digest_273 : decode cX1_digest 273 = .ok (.lmul, 1) := by decide +kernel
theorem dX1_digest_274 : decode cX1_digest 274 = .ok (.aload_n 0, 1) := by decide +kernel
theorem dX1_digest_275 : decode cX1_digest 275 = .ok (.iload_n 3, 1) := by decide +kernel
theorem dX1_digest_276 : decode cX1_digest 276 = .ok (.invokevirtual 128, 3) := by decide +kernel
theorem dX1_digest_279 : decode cX1_digest 279 = .ok (.i2l, 1) := by decide +kernel
theorem dX1_digest_280 : decode cX1_digest 280 = .ok (.ladd, 1) := by decide +kernel
theorem dX1_digest_281 : decode cX1_digest 281 = .ok (.lstore_n 1, 1) := by decide +kernel
theorem dX1_digest_282 : decode cX1_digest 282 = .ok (.iinc 3 1, 3) := by decide +kernel
theorem dX1_digest_285 : decode cX1_digest 285 = .ok (.goto (-45), 3) := by decide +kernel
theorem dX1_digest_288 : decode cX1_digest 288 = .ok (.lload_n 1, 1) := by decide +kernel
theorem dX1_digest_289 : decode cX1_digest 289 = .ok (.lreturn, 1) := by decide +kernel
abbrev vwCl : List vw_C := [(RX0, TX0, 7), (RX1, TX1, 8)]
