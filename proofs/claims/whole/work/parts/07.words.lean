theorem q_in_X0 : Cond.initialized RX0 ∈ lw_all := lw_in 49 (by decide +kernel) (by decide +kernel)
theorem q_in_X1 : Cond.initialized RX1 ∈ lw_all := lw_in 50 (by decide +kernel) (by decide +kernel)
theorem q_in_L : Cond.initialized RL ∈ lw_all := lw_in 48 (by decide +kernel) (by decide +kernel)
theorem q_c_X0_init : Cond.code yX0_init cX0_init 3 none ∈ lw_all := lw_in 61 (by decide +kernel) (by decide +kernel)
theorem q_im_X0_init : Cond.instanceMethod yX0_init ∈ lw_all := lw_in 60 (by decide +kernel) (by decide +kernel)
theorem n_X0_init : yX0_init.cls = RX0 ∧ yX0_init.cls ≠ "java/lang/invoke/MethodHandle" ∧ yX0_init.cls ≠ "java/lang/invoke/VarHandle" ∧ (parseMethodDescriptor yX0_init.desc).map (fun d => d.parameters.length) = some 0 := by decide +kernel
theorem q_c_X0_addCoin : Cond.code yX0_addCoin cX0_addCoin 2 (some .int) ∈ lw_all := lw_in 294 (by decide +kernel) (by decide +kernel)
theorem q_im_X0_addCoin : Cond.instanceMethod yX0_addCoin ∈ lw_all := lw_in 292 (by decide +kernel) (by decide +kernel)
theorem q_se_X0_addCoin : Cond.selects RX0 yX0_addCoin yX0_addCoin ∈ lw_all := lw_in 293 (by decide +kernel) (by decide +kernel)
theorem n_X0_addCoin : yX0_addCoin.cls = RX0 ∧ yX0_addCoin.cls ≠ "java/lang/invoke/MethodHandle" ∧ yX0_addCoin.cls ≠ "java/lang/invoke/VarHandle" ∧ (parseMethodDescriptor yX0_addCoin.desc).map (fun d => d.parameters.length) = some 1 := by decide +kernel
theorem q_c_X0_addSchool : Cond.code yX0_addSchool cX0_addSchool 2 (some .int) ∈ lw_all := lw_in 338 (by decide +kernel) (by decide +kernel)
theorem q_im_X0_addSchool : Cond.instanceMethod yX0_addSchool ∈ lw_all := lw_in 336 (by decide +kernel) (by decide +kernel)
theorem q_se_X0_addSchool : Cond.selects RX0 yX0_addSchool yX0_addSchool ∈ lw_all := lw_in 337 (by decide +kernel) (by decide +kernel)
theorem n_X0_addSchool : yX0_addSchool.cls = RX0 ∧ yX0_addSchool.cls ≠ "java/lang/invoke/MethodHandle" ∧ yX0_addSchool.cls ≠ "java/lang/invoke/VarHandle" ∧ (parseMethodDescriptor yX0_addSchool.desc).map (fun d => d.parameters.length) = some 1 := by decide +kernel
theorem q_c_X0_setShare : Cond.code yX0_setShare cX0_setShare 5 (some .int) ∈ lw_all := lw_in 348 (by decide +kernel) (by decide +kernel)
theorem q_im_X0_setShare : Cond.instanceMethod yX0_setShare ∈ lw_all := lw_in 346 (by decide +kernel) (by decide +kernel)
theorem q_se_X0_setShare : Cond.selects RX0 yX0_setShare yX0_setShare ∈ lw_all := lw_in 347 (by decide +kernel) (by decide +kernel)
theorem n_X0_setShare : yX0_setShare.cls = RX0 ∧ yX0_setShare.cls ≠ "java/lang/invoke/MethodHandle" ∧ yX0_setShare.cls ≠ "java/lang/invoke/VarHandle" ∧ (parseMethodDescriptor yX0_setShare.desc).map (fun d => d.parameters.length) = some 3 := by decide +kernel
theorem q_c_X0_toss : Cond.code yX0_toss cX0_toss 3 (some .int) ∈ lw_all := lw_in 361 (by decide +kernel) (by decide +kernel)
theorem q_im_X0_toss : Cond.instanceMethod yX0_toss ∈ lw_all := lw_in 359 (by decide +kernel) (by decide +kernel)
theorem q_se_X0_toss : Cond.selects RX0 yX0_toss yX0_toss ∈ lw_all := lw_in 360 (by decide +kernel) (by decide +kernel)
theorem n_X0_toss : yX0_toss.cls = RX0 ∧ yX0_toss.cls ≠ "java/lang/invoke/MethodHandle" ∧ yX0_toss.cls ≠ "java/lang/invoke/VarHandle" ∧ (parseMethodDescriptor yX0_toss.desc).map (fun d => d.parameters.length) = some 1 := by decide +kernel
theorem q_c_X0_undo : Cond.code yX0_undo cX0_undo 1 (some .boolean) ∈ lw_all := lw_in 374 (by decide +kernel) (by decide +kernel)
theorem q_im_X0_undo : Cond.instanceMethod yX0_undo ∈ lw_all := lw_in 372 (by decide +kernel) (by decide +kernel)
theorem q_se_X0_undo : Cond.selects RX0 yX0_undo yX0_undo ∈ lw_all := lw_in 373 (by decide +kernel) (by decide +kernel)
theorem n_X0_undo : yX0_undo.cls = RX0 ∧ yX0_undo.cls ≠ "java/lang/invoke/MethodHandle" ∧ yX0_undo.cls ≠ "java/lang/invoke/VarHandle" ∧ (parseMethodDescriptor yX0_undo.desc).map (fun d => d.parameters.length) = some 0 := by decide +kernel
theorem q_c_X0_strike : Cond.code yX0_strike cX0_strike 3 (some .int) ∈ lw_all := lw_in 382 (by decide +kernel) (by decide +kernel)
theorem q_im_X0_strike : Cond.instanceMethod yX0_strike ∈ lw_all := lw_in 380 (by decide +kernel) (by decide +kernel)
theorem q_se_X0_strike : Cond.selects RX0 yX0_strike yX0_strike ∈ lw_all := lw_in 381 (by decide +kernel) (by decide +kernel)
theorem n_X0_strike : yX0_strike.cls = RX0 ∧ yX0_strike.cls ≠ "java/lang/invoke/MethodHandle" ∧ yX0_strike.cls ≠ "java/lang/invoke/VarHandle" ∧ (parseMethodDescriptor yX0_strike.desc).map (fun d => d.parameters.length) = some 1 := by decide +kernel
theorem q_c_X0_coins : Cond.code yX0_coins cX0_coins 1 (some .int) ∈ lw_all := lw_in 94 (by decide +kernel) (by decide +kernel)
theorem q_im_X0_coins : Cond.instanceMethod yX0_coins ∈ lw_all := lw_in 92 (by decide +kernel) (by decide +kernel)
theorem q_se_X0_coins : Cond.selects RX0 yX0_coins yX0_coins ∈ lw_all := lw_in 93 (by decide +kernel) (by decide +kernel)
theorem n_X0_coins : yX0_coins.cls = RX0 ∧ yX0_coins.cls ≠ "java/lang/invoke/MethodHandle" ∧ yX0_coins.cls ≠ "java/lang/invoke/VarHandle" ∧ (parseMethodDescriptor yX0_coins.desc).map (fun d => d.parameters.length) = some 0 := by decide +kernel
theorem q_c_X0_schools : Cond.code yX0_schools cX0_schools 1 (some .int) ∈ lw_all := lw_in 98 (by decide +kernel) (by decide +kernel)
theorem q_im_X0_schools : Cond.instanceMethod yX0_schools ∈ lw_all := lw_in 96 (by decide +kernel) (by decide +kernel)
theorem q_se_X0_schools : Cond.selects RX0 yX0_schools yX0_schools ∈ lw_all := lw_in 97 (by decide +kernel) (by decide +kernel)
theorem n_X0_schools : yX0_schools.cls = RX0 ∧ yX0_schools.cls ≠ "java/lang/invoke/MethodHandle" ∧ yX0_schools.cls ≠ "java/lang/invoke/VarHandle" ∧ (parseMethodDescriptor yX0_schools.desc).map (fun d => d.parameters.length) = some 0 := by decide +kernel
theorem q_c_X0_tosses : Cond.code yX0_tosses cX0_tosses 1 (some .int) ∈ lw_all := lw_in 102 (by decide +kernel) (by decide +kernel)
theorem q_im_X0_tosses : Cond.instanceMethod yX0_tosses ∈ lw_all := lw_in 100 (by decide +kernel) (by decide +kernel)
theorem q_se_X0_tosses : Cond.selects RX0 yX0_tosses yX0_tosses ∈ lw_all := lw_in 101 (by decide +kernel) (by decide +kernel)
theorem n_X0_tosses : yX0_tosses.cls = RX0 ∧ yX0_tosses.cls ≠ "java/lang/invoke/MethodHandle" ∧ yX0_tosses.cls ≠ "java/lang/invoke/VarHandle" ∧ (parseMethodDescriptor yX0_tosses.desc).map (fun d => d.parameters.length) = some 0 := by decide +kernel
theorem q_c_X0_heads : Cond.code yX0_heads cX0_heads 1 (some .int) ∈ lw_all := lw_in 106 (by decide +kernel) (by decide +kernel)
theorem q_im_X0_heads : Cond.instanceMethod yX0_heads ∈ lw_all := lw_in 104 (by decide +kernel) (by decide +kernel)
theorem q_se_X0_heads : Cond.selects RX0 yX0_heads yX0_heads ∈ lw_all := lw_in 105 (by decide +kernel) (by decide +kernel)
theorem n_X0_heads : yX0_heads.cls = RX0 ∧ yX0_heads.cls ≠ "java/lang/invoke/MethodHandle" ∧ yX0_heads.cls ≠ "java/lang/invoke/VarHandle" ∧ (parseMethodDescriptor yX0_heads.desc).map (fun d => d.parameters.length) = some 0 := by decide +kernel
theorem q_c_X0_isHeads : Cond.code yX0_isHeads cX0_isHeads 2 (some .boolean) ∈ lw_all := lw_in 394 (by decide +kernel) (by decide +kernel)
theorem q_im_X0_isHeads : Cond.instanceMethod yX0_isHeads ∈ lw_all := lw_in 392 (by decide +kernel) (by decide +kernel)
theorem q_se_X0_isHeads : Cond.selects RX0 yX0_isHeads yX0_isHeads ∈ lw_all := lw_in 393 (by decide +kernel) (by decide +kernel)
theorem n_X0_isHeads : yX0_isHeads.cls = RX0 ∧ yX0_isHeads.cls ≠ "java/lang/invoke/MethodHandle" ∧ yX0_isHeads.cls ≠ "java/lang/invoke/VarHandle" ∧ (parseMethodDescriptor yX0_isHeads.desc).map (fun d => d.parameters.length) = some 1 := by decide +kernel
theorem q_c_X0_tenthsOf : Cond.code yX0_tenthsOf cX0_tenthsOf 2 (some .int) ∈ lw_all := lw_in 401 (by decide +kernel) (by decide +kernel)
theorem q_im_X0_tenthsOf : Cond.instanceMethod yX0_tenthsOf ∈ lw_all := lw_in 399 (by decide +kernel) (by decide +kernel)
theorem q_se_X0_tenthsOf : Cond.selects RX0 yX0_tenthsOf yX0_tenthsOf ∈ lw_all := lw_in 400 (by decide +kernel) (by decide +kernel)
theorem n_X0_tenthsOf : yX0_tenthsOf.cls = RX0 ∧ yX0_tenthsOf.cls ≠ "java/lang/invoke/MethodHandle" ∧ yX0_tenthsOf.cls ≠ "java/lang/invoke/VarHandle" ∧ (parseMethodDescriptor yX0_tenthsOf.desc).map (fun d => d.parameters.length) = some 1 := by decide +kernel
theorem q_c_X0_oddsOf : Cond.code yX0_oddsOf cX0_oddsOf 2 (some .int) ∈ lw_all := lw_in 408 (by decide +kernel) (by decide +kernel)
theorem q_im_X0_oddsOf : Cond.instanceMethod yX0_oddsOf ∈ lw_all := lw_in 406 (by decide +kernel) (by decide +kernel)
theorem q_se_X0_oddsOf : Cond.selects RX0 yX0_oddsOf yX0_oddsOf ∈ lw_all := lw_in 407 (by decide +kernel) (by decide +kernel)
theorem n_X0_oddsOf : yX0_oddsOf.cls = RX0 ∧ yX0_oddsOf.cls ≠ "java/lang/invoke/MethodHandle" ∧ yX0_oddsOf.cls ≠ "java/lang/invoke/VarHandle" ∧ (parseMethodDescriptor yX0_oddsOf.desc).map (fun d => d.parameters.length) = some 1 := by decide +kernel
theorem q_c_X0_shareOf : Cond.code yX0_shareOf cX0_shareOf 3 (some .int) ∈ lw_all := lw_in 415 (by decide +kernel) (by decide +kernel)
theorem q_im_X0_shareOf : Cond.instanceMethod yX0_shareOf ∈ lw_all := lw_in 413 (by decide +kernel) (by decide +kernel)
theorem q_se_X0_shareOf : Cond.selects RX0 yX0_shareOf yX0_shareOf ∈ lw_all := lw_in 414 (by decide +kernel) (by decide +kernel)
theorem n_X0_shareOf : yX0_shareOf.cls = RX0 ∧ yX0_shareOf.cls ≠ "java/lang/invoke/MethodHandle" ∧ yX0_shareOf.cls ≠ "java/lang/invoke/VarHandle" ∧ (parseMethodDescriptor yX0_shareOf.desc).map (fun d => d.parameters.length) = some 2 := by decide +kernel
theorem q_c_X0_weightOf : Cond.code yX0_weightOf cX0_weightOf 3 (some .long) ∈ lw_all := lw_in 422 (by decide +kernel) (by decide +kernel)
theorem q_im_X0_weightOf : Cond.instanceMethod yX0_weightOf ∈ lw_all := lw_in 420 (by decide +kernel) (by decide +kernel)
theorem q_se_X0_weightOf : Cond.selects RX0 yX0_weightOf yX0_weightOf ∈ lw_all := lw_in 421 (by decide +kernel) (by decide +kernel)
theorem n_X0_weightOf : yX0_weightOf.cls = RX0 ∧ yX0_weightOf.cls ≠ "java/lang/invoke/MethodHandle" ∧ yX0_weightOf.cls ≠ "java/lang/invoke/VarHandle" ∧ (parseMethodDescriptor yX0_weightOf.desc).map (fun d => d.parameters.length) = some 2 := by decide +kernel
theorem q_c_X0_coinWeight : Cond.code yX0_coinWeight cX0_coinWeight 2 (some .long) ∈ lw_all := lw_in 429 (by decide +kernel) (by decide +kernel)
theorem q_im_X0_coinWeight : Cond.instanceMethod yX0_coinWeight ∈ lw_all := lw_in 427 (by decide +kernel) (by decide +kernel)
theorem q_se_X0_coinWeight : Cond.selects RX0 yX0_coinWeight yX0_coinWeight ∈ lw_all := lw_in 428 (by decide +kernel) (by decide +kernel)
theorem n_X0_coinWeight : yX0_coinWeight.cls = RX0 ∧ yX0_coinWeight.cls ≠ "java/lang/invoke/MethodHandle" ∧ yX0_coinWeight.cls ≠ "java/lang/invoke/VarHandle" ∧ (parseMethodDescriptor yX0_coinWeight.desc).map (fun d => d.parameters.length) = some 1 := by decide +kernel
theorem q_c_X0_schoolWeight : Cond.code yX0_schoolWeight cX0_schoolWeight 2 (some .long) ∈ lw_all := lw_in 436 (by decide +kernel) (by decide +kernel)
theorem q_im_X0_schoolWeight : Cond.instanceMethod yX0_schoolWeight ∈ lw_all := lw_in 434 (by decide +kernel) (by decide +kernel)
theorem q_se_X0_schoolWeight : Cond.selects RX0 yX0_schoolWeight yX0_schoolWeight ∈ lw_all := lw_in 435 (by decide +kernel) (by decide +kernel)
theorem n_X0_schoolWeight : yX0_schoolWeight.cls = RX0 ∧ yX0_schoolWeight.cls ≠ "java/lang/invoke/MethodHandle" ∧ yX0_schoolWeight.cls ≠ "java/lang/invoke/VarHandle" ∧ (parseMethodDescriptor yX0_schoolWeight.desc).map (fun d => d.parameters.length) = some 1 := by decide +kernel
theorem q_c_X0_wholeWeight : Cond.code yX0_wholeWeight cX0_wholeWeight 1 (some .long) ∈ lw_all := lw_in 118 (by decide +kernel) (by decide +kernel)
theorem q_im_X0_wholeWeight : Cond.instanceMethod yX0_wholeWeight ∈ lw_all := lw_in 116 (by decide +kernel) (by decide +kernel)
theorem q_se_X0_wholeWeight : Cond.selects RX0 yX0_wholeWeight yX0_wholeWeight ∈ lw_all := lw_in 117 (by decide +kernel) (by decide +kernel)
theorem n_X0_wholeWeight : yX0_wholeWeight.cls = RX0 ∧ yX0_wholeWeight.cls ≠ "java/lang/invoke/MethodHandle" ∧ yX0_wholeWeight.cls ≠ "java/lang/invoke/VarHandle" ∧ (parseMethodDescriptor yX0_wholeWeight.desc).map (fun d => d.parameters.length) = some 0 := by decide +kernel
theorem q_c_X0_isRuledOut : Cond.code yX0_isRuledOut cX0_isRuledOut 2 (some .boolean) ∈ lw_all := lw_in 443 (by decide +kernel) (by decide +kernel)
theorem q_im_X0_isRuledOut : Cond.instanceMethod yX0_isRuledOut ∈ lw_all := lw_in 441 (by decide +kernel) (by decide +kernel)
theorem q_se_X0_isRuledOut : Cond.selects RX0 yX0_isRuledOut yX0_isRuledOut ∈ lw_all := lw_in 442 (by decide +kernel) (by decide +kernel)
theorem n_X0_isRuledOut : yX0_isRuledOut.cls = RX0 ∧ yX0_isRuledOut.cls ≠ "java/lang/invoke/MethodHandle" ∧ yX0_isRuledOut.cls ≠ "java/lang/invoke/VarHandle" ∧ (parseMethodDescriptor yX0_isRuledOut.desc).map (fun d => d.parameters.length) = some 1 := by decide +kernel
theorem q_c_X0_ruledOut : Cond.code yX0_ruledOut cX0_ruledOut 5 (some .int) ∈ lw_all := lw_in 146 (by decide +kernel) (by decide +kernel)
theorem q_im_X0_ruledOut : Cond.instanceMethod yX0_ruledOut ∈ lw_all := lw_in 144 (by decide +kernel) (by decide +kernel)
theorem q_se_X0_ruledOut : Cond.selects RX0 yX0_ruledOut yX0_ruledOut ∈ lw_all := lw_in 145 (by decide +kernel) (by decide +kernel)
theorem n_X0_ruledOut : yX0_ruledOut.cls = RX0 ∧ yX0_ruledOut.cls ≠ "java/lang/invoke/MethodHandle" ∧ yX0_ruledOut.cls ≠ "java/lang/invoke/VarHandle" ∧ (parseMethodDescriptor yX0_ruledOut.desc).map (fun d => d.parameters.length) = some 0 := by decide +kernel
theorem q_c_X0_coinPercent : Cond.code yX0_coinPercent cX0_coinPercent 2 (some .int) ∈ lw_all := lw_in 450 (by decide +kernel) (by decide +kernel)
theorem q_im_X0_coinPercent : Cond.instanceMethod yX0_coinPercent ∈ lw_all := lw_in 448 (by decide +kernel) (by decide +kernel)
theorem q_se_X0_coinPercent : Cond.selects RX0 yX0_coinPercent yX0_coinPercent ∈ lw_all := lw_in 449 (by decide +kernel) (by decide +kernel)
theorem n_X0_coinPercent : yX0_coinPercent.cls = RX0 ∧ yX0_coinPercent.cls ≠ "java/lang/invoke/MethodHandle" ∧ yX0_coinPercent.cls ≠ "java/lang/invoke/VarHandle" ∧ (parseMethodDescriptor yX0_coinPercent.desc).map (fun d => d.parameters.length) = some 1 := by decide +kernel
theorem q_c_X0_schoolPercent : Cond.code yX0_schoolPercent cX0_schoolPercent 2 (some .int) ∈ lw_all := lw_in 462 (by decide +kernel) (by decide +kernel)
theorem q_im_X0_schoolPercent : Cond.instanceMethod yX0_schoolPercent ∈ lw_all := lw_in 460 (by decide +kernel) (by decide +kernel)
theorem q_se_X0_schoolPercent : Cond.selects RX0 yX0_schoolPercent yX0_schoolPercent ∈ lw_all := lw_in 461 (by decide +kernel) (by decide +kernel)
theorem n_X0_schoolPercent : yX0_schoolPercent.cls = RX0 ∧ yX0_schoolPercent.cls ≠ "java/lang/invoke/MethodHandle" ∧ yX0_schoolPercent.cls ≠ "java/lang/invoke/VarHandle" ∧ (parseMethodDescriptor yX0_schoolPercent.desc).map (fun d => d.parameters.length) = some 1 := by decide +kernel
theorem q_c_X0_leadingCoin : Cond.code yX0_leadingCoin cX0_leadingCoin 2 (some .int) ∈ lw_all := lw_in 469 (by decide +kernel) (by decide +kernel)
theorem q_im_X0_leadingCoin : Cond.instanceMethod yX0_leadingCoin ∈ lw_all := lw_in 467 (by decide +kernel) (by decide +kernel)
theorem q_se_X0_leadingCoin : Cond.selects RX0 yX0_leadingCoin yX0_leadingCoin ∈ lw_all := lw_in 468 (by decide +kernel) (by decide +kernel)
theorem n_X0_leadingCoin : yX0_leadingCoin.cls = RX0 ∧ yX0_leadingCoin.cls ≠ "java/lang/invoke/MethodHandle" ∧ yX0_leadingCoin.cls ≠ "java/lang/invoke/VarHandle" ∧ (parseMethodDescriptor yX0_leadingCoin.desc).map (fun d => d.parameters.length) = some 0 := by decide +kernel
theorem q_c_X0_leadingSchool : Cond.code yX0_leadingSchool cX0_leadingSchool 7 (some .int) ∈ lw_all := lw_in 476 (by decide +kernel) (by decide +kernel)
theorem q_im_X0_leadingSchool : Cond.instanceMethod yX0_leadingSchool ∈ lw_all := lw_in 474 (by decide +kernel) (by decide +kernel)
theorem q_se_X0_leadingSchool : Cond.selects RX0 yX0_leadingSchool yX0_leadingSchool ∈ lw_all := lw_in 475 (by decide +kernel) (by decide +kernel)
theorem n_X0_leadingSchool : yX0_leadingSchool.cls = RX0 ∧ yX0_leadingSchool.cls ≠ "java/lang/invoke/MethodHandle" ∧ yX0_leadingSchool.cls ≠ "java/lang/invoke/VarHandle" ∧ (parseMethodDescriptor yX0_leadingSchool.desc).map (fun d => d.parameters.length) = some 0 := by decide +kernel
theorem q_c_X0_oddsAgainst : Cond.code yX0_oddsAgainst cX0_oddsAgainst 7 (some .long) ∈ lw_all := lw_in 483 (by decide +kernel) (by decide +kernel)
theorem q_im_X0_oddsAgainst : Cond.instanceMethod yX0_oddsAgainst ∈ lw_all := lw_in 481 (by decide +kernel) (by decide +kernel)
theorem q_se_X0_oddsAgainst : Cond.selects RX0 yX0_oddsAgainst yX0_oddsAgainst ∈ lw_all := lw_in 482 (by decide +kernel) (by decide +kernel)
theorem n_X0_oddsAgainst : yX0_oddsAgainst.cls = RX0 ∧ yX0_oddsAgainst.cls ≠ "java/lang/invoke/MethodHandle" ∧ yX0_oddsAgainst.cls ≠ "java/lang/invoke/VarHandle" ∧ (parseMethodDescriptor yX0_oddsAgainst.desc).map (fun d => d.parameters.length) = some 2 := by decide +kernel
theorem q_c_X0_surpriseOf : Cond.code yX0_surpriseOf cX0_surpriseOf 2 (some .int) ∈ lw_all := lw_in 491 (by decide +kernel) (by decide +kernel)
theorem q_im_X0_surpriseOf : Cond.instanceMethod yX0_surpriseOf ∈ lw_all := lw_in 489 (by decide +kernel) (by decide +kernel)
theorem q_se_X0_surpriseOf : Cond.selects RX0 yX0_surpriseOf yX0_surpriseOf ∈ lw_all := lw_in 490 (by decide +kernel) (by decide +kernel)
theorem n_X0_surpriseOf : yX0_surpriseOf.cls = RX0 ∧ yX0_surpriseOf.cls ≠ "java/lang/invoke/MethodHandle" ∧ yX0_surpriseOf.cls ≠ "java/lang/invoke/VarHandle" ∧ (parseMethodDescriptor yX0_surpriseOf.desc).map (fun d => d.parameters.length) = some 1 := by decide +kernel
theorem q_c_X0_allSurprise : Cond.code yX0_allSurprise cX0_allSurprise 3 (some .int) ∈ lw_all := lw_in 150 (by decide +kernel) (by decide +kernel)
theorem q_im_X0_allSurprise : Cond.instanceMethod yX0_allSurprise ∈ lw_all := lw_in 148 (by decide +kernel) (by decide +kernel)
theorem q_se_X0_allSurprise : Cond.selects RX0 yX0_allSurprise yX0_allSurprise ∈ lw_all := lw_in 149 (by decide +kernel) (by decide +kernel)
theorem n_X0_allSurprise : yX0_allSurprise.cls = RX0 ∧ yX0_allSurprise.cls ≠ "java/lang/invoke/MethodHandle" ∧ yX0_allSurprise.cls ≠ "java/lang/invoke/VarHandle" ∧ (parseMethodDescriptor yX0_allSurprise.desc).map (fun d => d.parameters.length) = some 0 := by decide +kernel
theorem q_c_X0_greatestSurprise : Cond.code yX0_greatestSurprise cX0_greatestSurprise 5 (some .int) ∈ lw_all := lw_in 168 (by decide +kernel) (by decide +kernel)
theorem q_im_X0_greatestSurprise : Cond.instanceMethod yX0_greatestSurprise ∈ lw_all := lw_in 166 (by decide +kernel) (by decide +kernel)
theorem q_se_X0_greatestSurprise : Cond.selects RX0 yX0_greatestSurprise yX0_greatestSurprise ∈ lw_all := lw_in 167 (by decide +kernel) (by decide +kernel)
theorem n_X0_greatestSurprise : yX0_greatestSurprise.cls = RX0 ∧ yX0_greatestSurprise.cls ≠ "java/lang/invoke/MethodHandle" ∧ yX0_greatestSurprise.cls ≠ "java/lang/invoke/VarHandle" ∧ (parseMethodDescriptor yX0_greatestSurprise.desc).map (fun d => d.parameters.length) = some 0 := by decide +kernel
theorem q_c_X0_headsPercent : Cond.code yX0_headsPercent cX0_headsPercent 5 (some .int) ∈ lw_all := lw_in 498 (by decide +kernel) (by decide +kernel)
theorem q_im_X0_headsPercent : Cond.instanceMethod yX0_headsPercent ∈ lw_all := lw_in 496 (by decide +kernel) (by decide +kernel)
theorem q_se_X0_headsPercent : Cond.selects RX0 yX0_headsPercent yX0_headsPercent ∈ lw_all := lw_in 497 (by decide +kernel) (by decide +kernel)
theorem n_X0_headsPercent : yX0_headsPercent.cls = RX0 ∧ yX0_headsPercent.cls ≠ "java/lang/invoke/MethodHandle" ∧ yX0_headsPercent.cls ≠ "java/lang/invoke/VarHandle" ∧ (parseMethodDescriptor yX0_headsPercent.desc).map (fun d => d.parameters.length) = some 0 := by decide +kernel
theorem q_c_X0_wouldSurprise : Cond.code yX0_wouldSurprise cX0_wouldSurprise 2 (some .int) ∈ lw_all := lw_in 505 (by decide +kernel) (by decide +kernel)
theorem q_im_X0_wouldSurprise : Cond.instanceMethod yX0_wouldSurprise ∈ lw_all := lw_in 503 (by decide +kernel) (by decide +kernel)
theorem q_se_X0_wouldSurprise : Cond.selects RX0 yX0_wouldSurprise yX0_wouldSurprise ∈ lw_all := lw_in 504 (by decide +kernel) (by decide +kernel)
theorem n_X0_wouldSurprise : yX0_wouldSurprise.cls = RX0 ∧ yX0_wouldSurprise.cls ≠ "java/lang/invoke/MethodHandle" ∧ yX0_wouldSurprise.cls ≠ "java/lang/invoke/VarHandle" ∧ (parseMethodDescriptor yX0_wouldSurprise.desc).map (fun d => d.parameters.length) = some 1 := by decide +kernel
theorem q_c_X0_leaderBehind : Cond.code yX0_leaderBehind cX0_leaderBehind 2 (some .int) ∈ lw_all := lw_in 512 (by decide +kernel) (by decide +kernel)
theorem q_im_X0_leaderBehind : Cond.instanceMethod yX0_leaderBehind ∈ lw_all := lw_in 510 (by decide +kernel) (by decide +kernel)
theorem q_se_X0_leaderBehind : Cond.selects RX0 yX0_leaderBehind yX0_leaderBehind ∈ lw_all := lw_in 511 (by decide +kernel) (by decide +kernel)
theorem n_X0_leaderBehind : yX0_leaderBehind.cls = RX0 ∧ yX0_leaderBehind.cls ≠ "java/lang/invoke/MethodHandle" ∧ yX0_leaderBehind.cls ≠ "java/lang/invoke/VarHandle" ∧ (parseMethodDescriptor yX0_leaderBehind.desc).map (fun d => d.parameters.length) = some 1 := by decide +kernel
theorem q_c_X0_tossesToLead : Cond.code yX0_tossesToLead cX0_tossesToLead 5 (some .int) ∈ lw_all := lw_in 201 (by decide +kernel) (by decide +kernel)
theorem q_im_X0_tossesToLead : Cond.instanceMethod yX0_tossesToLead ∈ lw_all := lw_in 199 (by decide +kernel) (by decide +kernel)
theorem q_se_X0_tossesToLead : Cond.selects RX0 yX0_tossesToLead yX0_tossesToLead ∈ lw_all := lw_in 200 (by decide +kernel) (by decide +kernel)
theorem n_X0_tossesToLead : yX0_tossesToLead.cls = RX0 ∧ yX0_tossesToLead.cls ≠ "java/lang/invoke/MethodHandle" ∧ yX0_tossesToLead.cls ≠ "java/lang/invoke/VarHandle" ∧ (parseMethodDescriptor yX0_tossesToLead.desc).map (fun d => d.parameters.length) = some 1 := by decide +kernel
theorem q_c_X0_decisiveTosses : Cond.code yX0_decisiveTosses cX0_decisiveTosses 7 (some .int) ∈ lw_all := lw_in 172 (by decide +kernel) (by decide +kernel)
theorem q_im_X0_decisiveTosses : Cond.instanceMethod yX0_decisiveTosses ∈ lw_all := lw_in 170 (by decide +kernel) (by decide +kernel)
theorem q_se_X0_decisiveTosses : Cond.selects RX0 yX0_decisiveTosses yX0_decisiveTosses ∈ lw_all := lw_in 171 (by decide +kernel) (by decide +kernel)
theorem n_X0_decisiveTosses : yX0_decisiveTosses.cls = RX0 ∧ yX0_decisiveTosses.cls ≠ "java/lang/invoke/MethodHandle" ∧ yX0_decisiveTosses.cls ≠ "java/lang/invoke/VarHandle" ∧ (parseMethodDescriptor yX0_decisiveTosses.desc).map (fun d => d.parameters.length) = some 0 := by decide +kernel
theorem q_c_X0_meanTenths : Cond.code yX0_meanTenths cX0_meanTenths 3 (some .double) ∈ lw_all := lw_in 523 (by decide +kernel) (by decide +kernel)
theorem q_im_X0_meanTenths : Cond.instanceMethod yX0_meanTenths ∈ lw_all := lw_in 521 (by decide +kernel) (by decide +kernel)
theorem q_se_X0_meanTenths : Cond.selects RX0 yX0_meanTenths yX0_meanTenths ∈ lw_all := lw_in 522 (by decide +kernel) (by decide +kernel)
theorem n_X0_meanTenths : yX0_meanTenths.cls = RX0 ∧ yX0_meanTenths.cls ≠ "java/lang/invoke/MethodHandle" ∧ yX0_meanTenths.cls ≠ "java/lang/invoke/VarHandle" ∧ (parseMethodDescriptor yX0_meanTenths.desc).map (fun d => d.parameters.length) = some 0 := by decide +kernel
theorem q_c_X0_digest : Cond.code yX0_digest cX0_digest 3 (some .long) ∈ lw_all := lw_in 180 (by decide +kernel) (by decide +kernel)
theorem q_im_X0_digest : Cond.instanceMethod yX0_digest ∈ lw_all := lw_in 178 (by decide +kernel) (by decide +kernel)
theorem q_se_X0_digest : Cond.selects RX0 yX0_digest yX0_digest ∈ lw_all := lw_in 179 (by decide +kernel) (by decide +kernel)
theorem n_X0_digest : yX0_digest.cls = RX0 ∧ yX0_digest.cls ≠ "java/lang/invoke/MethodHandle" ∧ yX0_digest.cls ≠ "java/lang/invoke/VarHandle" ∧ (parseMethodDescriptor yX0_digest.desc).map (fun d => d.parameters.length) = some 0 := by decide +kernel
theorem q_c_X0_needCoin : Cond.code yX0_needCoin cX0_needCoin 2 none ∈ lw_all := lw_in 205 (by decide +kernel) (by decide +kernel)
theorem q_im_X0_needCoin : Cond.instanceMethod yX0_needCoin ∈ lw_all := lw_in 204 (by decide +kernel) (by decide +kernel)
theorem q_se_X0_needCoin : Cond.selects RX0 yX0_needCoin yX0_needCoin ∈ lw_all := lw_in 13 (by decide +kernel) (by decide +kernel)
theorem n_X0_needCoin : yX0_needCoin.cls = RX0 ∧ yX0_needCoin.cls ≠ "java/lang/invoke/MethodHandle" ∧ yX0_needCoin.cls ≠ "java/lang/invoke/VarHandle" ∧ (parseMethodDescriptor yX0_needCoin.desc).map (fun d => d.parameters.length) = some 1 := by decide +kernel
theorem q_c_X0_needSchool : Cond.code yX0_needSchool cX0_needSchool 2 none ∈ lw_all := lw_in 352 (by decide +kernel) (by decide +kernel)
theorem q_im_X0_needSchool : Cond.instanceMethod yX0_needSchool ∈ lw_all := lw_in 351 (by decide +kernel) (by decide +kernel)
theorem q_se_X0_needSchool : Cond.selects RX0 yX0_needSchool yX0_needSchool ∈ lw_all := lw_in 19 (by decide +kernel) (by decide +kernel)
theorem n_X0_needSchool : yX0_needSchool.cls = RX0 ∧ yX0_needSchool.cls ≠ "java/lang/invoke/MethodHandle" ∧ yX0_needSchool.cls ≠ "java/lang/invoke/VarHandle" ∧ (parseMethodDescriptor yX0_needSchool.desc).map (fun d => d.parameters.length) = some 1 := by decide +kernel
theorem q_c_X0_needToss : Cond.code yX0_needToss cX0_needToss 2 none ∈ lw_all := lw_in 386 (by decide +kernel) (by decide +kernel)
theorem q_im_X0_needToss : Cond.instanceMethod yX0_needToss ∈ lw_all := lw_in 385 (by decide +kernel) (by decide +kernel)
theorem q_se_X0_needToss : Cond.selects RX0 yX0_needToss yX0_needToss ∈ lw_all := lw_in 21 (by decide +kernel) (by decide +kernel)
theorem n_X0_needToss : yX0_needToss.cls = RX0 ∧ yX0_needToss.cls ≠ "java/lang/invoke/MethodHandle" ∧ yX0_needToss.cls ≠ "java/lang/invoke/VarHandle" ∧ (parseMethodDescriptor yX0_needToss.desc).map (fun d => d.parameters.length) = some 1 := by decide +kernel
theorem q_c_X0_needNoTosses : Cond.code yX0_needNoTosses cX0_needNoTosses 1 none ∈ lw_all := lw_in 330 (by decide +kernel) (by decide +kernel)
theorem q_im_X0_needNoTosses : Cond.instanceMethod yX0_needNoTosses ∈ lw_all := lw_in 329 (by decide +kernel) (by decide +kernel)
theorem q_se_X0_needNoTosses : Cond.selects RX0 yX0_needNoTosses yX0_needNoTosses ∈ lw_all := lw_in 18 (by decide +kernel) (by decide +kernel)
theorem n_X0_needNoTosses : yX0_needNoTosses.cls = RX0 ∧ yX0_needNoTosses.cls ≠ "java/lang/invoke/MethodHandle" ∧ yX0_needNoTosses.cls ≠ "java/lang/invoke/VarHandle" ∧ (parseMethodDescriptor yX0_needNoTosses.desc).map (fun d => d.parameters.length) = some 0 := by decide +kernel
theorem q_c_X0_needPossible : Cond.code yX0_needPossible cX0_needPossible 2 none ∈ lw_all := lw_in 366 (by decide +kernel) (by decide +kernel)
theorem q_im_X0_needPossible : Cond.instanceMethod yX0_needPossible ∈ lw_all := lw_in 365 (by decide +kernel) (by decide +kernel)
theorem q_se_X0_needPossible : Cond.selects RX0 yX0_needPossible yX0_needPossible ∈ lw_all := lw_in 20 (by decide +kernel) (by decide +kernel)
theorem n_X0_needPossible : yX0_needPossible.cls = RX0 ∧ yX0_needPossible.cls ≠ "java/lang/invoke/MethodHandle" ∧ yX0_needPossible.cls ≠ "java/lang/invoke/VarHandle" ∧ (parseMethodDescriptor yX0_needPossible.desc).map (fun d => d.parameters.length) = some 1 := by decide +kernel
theorem q_c_X0_headsAhead : Cond.code yX0_headsAhead cX0_headsAhead 4 (some .int) ∈ lw_all := lw_in 114 (by decide +kernel) (by decide +kernel)
theorem q_im_X0_headsAhead : Cond.instanceMethod yX0_headsAhead ∈ lw_all := lw_in 113 (by decide +kernel) (by decide +kernel)
theorem q_se_X0_headsAhead : Cond.selects RX0 yX0_headsAhead yX0_headsAhead ∈ lw_all := lw_in 1 (by decide +kernel) (by decide +kernel)
theorem n_X0_headsAhead : yX0_headsAhead.cls = RX0 ∧ yX0_headsAhead.cls ≠ "java/lang/invoke/MethodHandle" ∧ yX0_headsAhead.cls ≠ "java/lang/invoke/VarHandle" ∧ (parseMethodDescriptor yX0_headsAhead.desc).map (fun d => d.parameters.length) = some 1 := by decide +kernel
theorem q_c_X0_headsNow : Cond.code yX0_headsNow cX0_headsNow 1 (some .int) ∈ lw_all := lw_in 110 (by decide +kernel) (by decide +kernel)
theorem q_im_X0_headsNow : Cond.instanceMethod yX0_headsNow ∈ lw_all := lw_in 109 (by decide +kernel) (by decide +kernel)
theorem q_se_X0_headsNow : Cond.selects RX0 yX0_headsNow yX0_headsNow ∈ lw_all := lw_in 0 (by decide +kernel) (by decide +kernel)
theorem n_X0_headsNow : yX0_headsNow.cls = RX0 ∧ yX0_headsNow.cls ≠ "java/lang/invoke/MethodHandle" ∧ yX0_headsNow.cls ≠ "java/lang/invoke/VarHandle" ∧ (parseMethodDescriptor yX0_headsNow.desc).map (fun d => d.parameters.length) = some 0 := by decide +kernel
theorem q_c_X0_tailsNow : Cond.code yX0_tailsNow cX0_tailsNow 1 (some .int) ∈ lw_all := lw_in 126 (by decide +kernel) (by decide +kernel)
theorem q_im_X0_tailsNow : Cond.instanceMethod yX0_tailsNow ∈ lw_all := lw_in 125 (by decide +kernel) (by decide +kernel)
theorem q_se_X0_tailsNow : Cond.selects RX0 yX0_tailsNow yX0_tailsNow ∈ lw_all := lw_in 3 (by decide +kernel) (by decide +kernel)
theorem n_X0_tailsNow : yX0_tailsNow.cls = RX0 ∧ yX0_tailsNow.cls ≠ "java/lang/invoke/MethodHandle" ∧ yX0_tailsNow.cls ≠ "java/lang/invoke/VarHandle" ∧ (parseMethodDescriptor yX0_tailsNow.desc).map (fun d => d.parameters.length) = some 0 := by decide +kernel
theorem q_c_X0_startWeight : Cond.code yX0_startWeight cX0_startWeight 3 (some .long) ∈ lw_all := lw_in 138 (by decide +kernel) (by decide +kernel)
theorem q_im_X0_startWeight : Cond.instanceMethod yX0_startWeight ∈ lw_all := lw_in 137 (by decide +kernel) (by decide +kernel)
theorem q_se_X0_startWeight : Cond.selects RX0 yX0_startWeight yX0_startWeight ∈ lw_all := lw_in 6 (by decide +kernel) (by decide +kernel)
theorem n_X0_startWeight : yX0_startWeight.cls = RX0 ∧ yX0_startWeight.cls ≠ "java/lang/invoke/MethodHandle" ∧ yX0_startWeight.cls ≠ "java/lang/invoke/VarHandle" ∧ (parseMethodDescriptor yX0_startWeight.desc).map (fun d => d.parameters.length) = some 2 := by decide +kernel
theorem q_c_X0_likelihood : Cond.code yX0_likelihood cX0_likelihood 8 (some .long) ∈ lw_all := lw_in 142 (by decide +kernel) (by decide +kernel)
theorem q_im_X0_likelihood : Cond.instanceMethod yX0_likelihood ∈ lw_all := lw_in 141 (by decide +kernel) (by decide +kernel)
theorem q_se_X0_likelihood : Cond.selects RX0 yX0_likelihood yX0_likelihood ∈ lw_all := lw_in 7 (by decide +kernel) (by decide +kernel)
theorem n_X0_likelihood : yX0_likelihood.cls = RX0 ∧ yX0_likelihood.cls ≠ "java/lang/invoke/MethodHandle" ∧ yX0_likelihood.cls ≠ "java/lang/invoke/VarHandle" ∧ (parseMethodDescriptor yX0_likelihood.desc).map (fun d => d.parameters.length) = some 3 := by decide +kernel
theorem q_c_X0_coinWeightAt : Cond.code yX0_coinWeightAt cX0_coinWeightAt 7 (some .long) ∈ lw_all := lw_in 134 (by decide +kernel) (by decide +kernel)
theorem q_im_X0_coinWeightAt : Cond.instanceMethod yX0_coinWeightAt ∈ lw_all := lw_in 133 (by decide +kernel) (by decide +kernel)
theorem q_se_X0_coinWeightAt : Cond.selects RX0 yX0_coinWeightAt yX0_coinWeightAt ∈ lw_all := lw_in 5 (by decide +kernel) (by decide +kernel)
theorem n_X0_coinWeightAt : yX0_coinWeightAt.cls = RX0 ∧ yX0_coinWeightAt.cls ≠ "java/lang/invoke/MethodHandle" ∧ yX0_coinWeightAt.cls ≠ "java/lang/invoke/VarHandle" ∧ (parseMethodDescriptor yX0_coinWeightAt.desc).map (fun d => d.parameters.length) = some 3 := by decide +kernel
theorem q_c_X0_schoolWeightNow : Cond.code yX0_schoolWeightNow cX0_schoolWeightNow 7 (some .long) ∈ lw_all := lw_in 281 (by decide +kernel) (by decide +kernel)
theorem q_im_X0_schoolWeightNow : Cond.instanceMethod yX0_schoolWeightNow ∈ lw_all := lw_in 280 (by decide +kernel) (by decide +kernel)
theorem q_se_X0_schoolWeightNow : Cond.selects RX0 yX0_schoolWeightNow yX0_schoolWeightNow ∈ lw_all := lw_in 16 (by decide +kernel) (by decide +kernel)
theorem n_X0_schoolWeightNow : yX0_schoolWeightNow.cls = RX0 ∧ yX0_schoolWeightNow.cls ≠ "java/lang/invoke/MethodHandle" ∧ yX0_schoolWeightNow.cls ≠ "java/lang/invoke/VarHandle" ∧ (parseMethodDescriptor yX0_schoolWeightNow.desc).map (fun d => d.parameters.length) = some 1 := by decide +kernel
theorem q_c_X0_wholeAt : Cond.code yX0_wholeAt cX0_wholeAt 6 (some .long) ∈ lw_all := lw_in 130 (by decide +kernel) (by decide +kernel)
theorem q_im_X0_wholeAt : Cond.instanceMethod yX0_wholeAt ∈ lw_all := lw_in 129 (by decide +kernel) (by decide +kernel)
theorem q_se_X0_wholeAt : Cond.selects RX0 yX0_wholeAt yX0_wholeAt ∈ lw_all := lw_in 4 (by decide +kernel) (by decide +kernel)
theorem n_X0_wholeAt : yX0_wholeAt.cls = RX0 ∧ yX0_wholeAt.cls ≠ "java/lang/invoke/MethodHandle" ∧ yX0_wholeAt.cls ≠ "java/lang/invoke/VarHandle" ∧ (parseMethodDescriptor yX0_wholeAt.desc).map (fun d => d.parameters.length) = some 2 := by decide +kernel
theorem q_c_X0_wholeNow : Cond.code yX0_wholeNow cX0_wholeNow 1 (some .long) ∈ lw_all := lw_in 122 (by decide +kernel) (by decide +kernel)
theorem q_im_X0_wholeNow : Cond.instanceMethod yX0_wholeNow ∈ lw_all := lw_in 121 (by decide +kernel) (by decide +kernel)
theorem q_se_X0_wholeNow : Cond.selects RX0 yX0_wholeNow yX0_wholeNow ∈ lw_all := lw_in 2 (by decide +kernel) (by decide +kernel)
theorem n_X0_wholeNow : yX0_wholeNow.cls = RX0 ∧ yX0_wholeNow.cls ≠ "java/lang/invoke/MethodHandle" ∧ yX0_wholeNow.cls ≠ "java/lang/invoke/VarHandle" ∧ (parseMethodDescriptor yX0_wholeNow.desc).map (fun d => d.parameters.length) = some 0 := by decide +kernel
theorem q_c_X0_leaderAt : Cond.code yX0_leaderAt cX0_leaderAt 9 (some .int) ∈ lw_all := lw_in 176 (by decide +kernel) (by decide +kernel)
theorem q_im_X0_leaderAt : Cond.instanceMethod yX0_leaderAt ∈ lw_all := lw_in 175 (by decide +kernel) (by decide +kernel)
theorem q_se_X0_leaderAt : Cond.selects RX0 yX0_leaderAt yX0_leaderAt ∈ lw_all := lw_in 11 (by decide +kernel) (by decide +kernel)
theorem n_X0_leaderAt : yX0_leaderAt.cls = RX0 ∧ yX0_leaderAt.cls ≠ "java/lang/invoke/MethodHandle" ∧ yX0_leaderAt.cls ≠ "java/lang/invoke/VarHandle" ∧ (parseMethodDescriptor yX0_leaderAt.desc).map (fun d => d.parameters.length) = some 2 := by decide +kernel
theorem q_c_X0_percent : Cond.code yX0_percent cX0_percent 4 (some .int) ∈ lw_all := lw_in 453 (by decide +kernel) (by decide +kernel)
theorem q_st_X0_percent : Cond.static yX0_percent ∈ lw_all := lw_in 452 (by decide +kernel) (by decide +kernel)
theorem n_X0_percent : yX0_percent.cls ≠ "java/lang/invoke/MethodHandle" ∧ yX0_percent.cls ≠ "java/lang/invoke/VarHandle" ∧ (parseMethodDescriptor yX0_percent.desc).map (fun d => d.parameters.length) = some 2 := by decide +kernel
theorem q_c_X0_chance : Cond.code yX0_chance cX0_chance 8 (some .long) ∈ lw_all := lw_in 163 (by decide +kernel) (by decide +kernel)
theorem q_im_X0_chance : Cond.instanceMethod yX0_chance ∈ lw_all := lw_in 162 (by decide +kernel) (by decide +kernel)
theorem q_se_X0_chance : Cond.selects RX0 yX0_chance yX0_chance ∈ lw_all := lw_in 10 (by decide +kernel) (by decide +kernel)
theorem n_X0_chance : yX0_chance.cls = RX0 ∧ yX0_chance.cls ≠ "java/lang/invoke/MethodHandle" ∧ yX0_chance.cls ≠ "java/lang/invoke/VarHandle" ∧ (parseMethodDescriptor yX0_chance.desc).map (fun d => d.parameters.length) = some 3 := by decide +kernel
theorem q_c_X0_surpriseAt : Cond.code yX0_surpriseAt cX0_surpriseAt 3 (some .int) ∈ lw_all := lw_in 154 (by decide +kernel) (by decide +kernel)
theorem q_im_X0_surpriseAt : Cond.instanceMethod yX0_surpriseAt ∈ lw_all := lw_in 153 (by decide +kernel) (by decide +kernel)
theorem q_se_X0_surpriseAt : Cond.selects RX0 yX0_surpriseAt yX0_surpriseAt ∈ lw_all := lw_in 8 (by decide +kernel) (by decide +kernel)
theorem n_X0_surpriseAt : yX0_surpriseAt.cls = RX0 ∧ yX0_surpriseAt.cls ≠ "java/lang/invoke/MethodHandle" ∧ yX0_surpriseAt.cls ≠ "java/lang/invoke/VarHandle" ∧ (parseMethodDescriptor yX0_surpriseAt.desc).map (fun d => d.parameters.length) = some 1 := by decide +kernel
theorem q_c_X0_surpriseBehind : Cond.code yX0_surpriseBehind cX0_surpriseBehind 9 (some .int) ∈ lw_all := lw_in 158 (by decide +kernel) (by decide +kernel)
theorem q_im_X0_surpriseBehind : Cond.instanceMethod yX0_surpriseBehind ∈ lw_all := lw_in 157 (by decide +kernel) (by decide +kernel)
theorem q_se_X0_surpriseBehind : Cond.selects RX0 yX0_surpriseBehind yX0_surpriseBehind ∈ lw_all := lw_in 9 (by decide +kernel) (by decide +kernel)
theorem n_X0_surpriseBehind : yX0_surpriseBehind.cls = RX0 ∧ yX0_surpriseBehind.cls ≠ "java/lang/invoke/MethodHandle" ∧ yX0_surpriseBehind.cls ≠ "java/lang/invoke/VarHandle" ∧ (parseMethodDescriptor yX0_surpriseBehind.desc).map (fun d => d.parameters.length) = some 3 := by decide +kernel
theorem q_c_X0_digestWith : Cond.code yX0_digestWith cX0_digestWith 4 (some .long) ∈ lw_all := lw_in 185 (by decide +kernel) (by decide +kernel)
theorem q_st_X0_digestWith : Cond.static yX0_digestWith ∈ lw_all := lw_in 184 (by decide +kernel) (by decide +kernel)
theorem n_X0_digestWith : yX0_digestWith.cls ≠ "java/lang/invoke/MethodHandle" ∧ yX0_digestWith.cls ≠ "java/lang/invoke/VarHandle" ∧ (parseMethodDescriptor yX0_digestWith.desc).map (fun d => d.parameters.length) = some 2 := by decide +kernel
theorem q_c_X0_digestWithCoins : Cond.code yX0_digestWithCoins cX0_digestWithCoins 8 (some .long) ∈ lw_all := lw_in 197 (by decide +kernel) (by decide +kernel)
theorem q_im_X0_digestWithCoins : Cond.instanceMethod yX0_digestWithCoins ∈ lw_all := lw_in 196 (by decide +kernel) (by decide +kernel)
theorem q_se_X0_digestWithCoins : Cond.selects RX0 yX0_digestWithCoins yX0_digestWithCoins ∈ lw_all := lw_in 12 (by decide +kernel) (by decide +kernel)
theorem n_X0_digestWithCoins : yX0_digestWithCoins.cls = RX0 ∧ yX0_digestWithCoins.cls ≠ "java/lang/invoke/MethodHandle" ∧ yX0_digestWithCoins.cls ≠ "java/lang/invoke/VarHandle" ∧ (parseMethodDescriptor yX0_digestWithCoins.desc).map (fun d => d.parameters.length) = some 1 := by decide +kernel
theorem q_c_X0_digestWithSchools : Cond.code yX0_digestWithSchools cX0_digestWithSchools 7 (some .long) ∈ lw_all := lw_in 277 (by decide +kernel) (by decide +kernel)
theorem q_im_X0_digestWithSchools : Cond.instanceMethod yX0_digestWithSchools ∈ lw_all := lw_in 276 (by decide +kernel) (by decide +kernel)
theorem q_se_X0_digestWithSchools : Cond.selects RX0 yX0_digestWithSchools yX0_digestWithSchools ∈ lw_all := lw_in 15 (by decide +kernel) (by decide +kernel)
theorem n_X0_digestWithSchools : yX0_digestWithSchools.cls = RX0 ∧ yX0_digestWithSchools.cls ≠ "java/lang/invoke/MethodHandle" ∧ yX0_digestWithSchools.cls ≠ "java/lang/invoke/VarHandle" ∧ (parseMethodDescriptor yX0_digestWithSchools.desc).map (fun d => d.parameters.length) = some 1 := by decide +kernel
theorem q_c_X0_digestWithTosses : Cond.code yX0_digestWithTosses cX0_digestWithTosses 6 (some .long) ∈ lw_all := lw_in 285 (by decide +kernel) (by decide +kernel)
theorem q_im_X0_digestWithTosses : Cond.instanceMethod yX0_digestWithTosses ∈ lw_all := lw_in 284 (by decide +kernel) (by decide +kernel)
theorem q_se_X0_digestWithTosses : Cond.selects RX0 yX0_digestWithTosses yX0_digestWithTosses ∈ lw_all := lw_in 17 (by decide +kernel) (by decide +kernel)
theorem n_X0_digestWithTosses : yX0_digestWithTosses.cls = RX0 ∧ yX0_digestWithTosses.cls ≠ "java/lang/invoke/MethodHandle" ∧ yX0_digestWithTosses.cls ≠ "java/lang/invoke/VarHandle" ∧ (parseMethodDescriptor yX0_digestWithTosses.desc).map (fun d => d.parameters.length) = some 1 := by decide +kernel
theorem q_c_X1_init : Cond.code yX1_init cX1_init 1 none ∈ lw_all := lw_in 528 (by decide +kernel) (by decide +kernel)
theorem q_im_X1_init : Cond.instanceMethod yX1_init ∈ lw_all := lw_in 527 (by decide +kernel) (by decide +kernel)
theorem n_X1_init : yX1_init.cls = RX1 ∧ yX1_init.cls ≠ "java/lang/invoke/MethodHandle" ∧ yX1_init.cls ≠ "java/lang/invoke/VarHandle" ∧ (parseMethodDescriptor yX1_init.desc).map (fun d => d.parameters.length) = some 0 := by decide +kernel
theorem q_c_X1_thrown : Cond.code yX1_thrown cX1_thrown 1 (some .int) ∈ lw_all := lw_in 558 (by decide +kernel) (by decide +kernel)
theorem q_im_X1_thrown : Cond.instanceMethod yX1_thrown ∈ lw_all := lw_in 556 (by decide +kernel) (by decide +kernel)
theorem q_se_X1_thrown : Cond.selects RX1 yX1_thrown yX1_thrown ∈ lw_all := lw_in 557 (by decide +kernel) (by decide +kernel)
theorem n_X1_thrown : yX1_thrown.cls = RX1 ∧ yX1_thrown.cls ≠ "java/lang/invoke/MethodHandle" ∧ yX1_thrown.cls ≠ "java/lang/invoke/VarHandle" ∧ (parseMethodDescriptor yX1_thrown.desc).map (fun d => d.parameters.length) = some 0 := by decide +kernel
theorem q_c_X1_fail : Cond.code yX1_fail cX1_fail 2 (some .int) ∈ lw_all := lw_in 569 (by decide +kernel) (by decide +kernel)
theorem q_im_X1_fail : Cond.instanceMethod yX1_fail ∈ lw_all := lw_in 568 (by decide +kernel) (by decide +kernel)
theorem q_se_X1_fail : Cond.selects RX1 yX1_fail yX1_fail ∈ lw_all := lw_in 22 (by decide +kernel) (by decide +kernel)
theorem n_X1_fail : yX1_fail.cls = RX1 ∧ yX1_fail.cls ≠ "java/lang/invoke/MethodHandle" ∧ yX1_fail.cls ≠ "java/lang/invoke/VarHandle" ∧ (parseMethodDescriptor yX1_fail.desc).map (fun d => d.parameters.length) = some 1 := by decide +kernel
theorem q_c_X1_told : Cond.code yX1_told cX1_told 2 (some .int) ∈ lw_all := lw_in 652 (by decide +kernel) (by decide +kernel)
theorem q_im_X1_told : Cond.instanceMethod yX1_told ∈ lw_all := lw_in 651 (by decide +kernel) (by decide +kernel)
theorem q_se_X1_told : Cond.selects RX1 yX1_told yX1_told ∈ lw_all := lw_in 34 (by decide +kernel) (by decide +kernel)
theorem n_X1_told : yX1_told.cls = RX1 ∧ yX1_told.cls ≠ "java/lang/invoke/MethodHandle" ∧ yX1_told.cls ≠ "java/lang/invoke/VarHandle" ∧ (parseMethodDescriptor yX1_told.desc).map (fun d => d.parameters.length) = some 1 := by decide +kernel
theorem q_c_X1_isIn : Cond.code yX1_isIn cX1_isIn 3 (some .boolean) ∈ lw_all := lw_in 565 (by decide +kernel) (by decide +kernel)
theorem q_st_X1_isIn : Cond.static yX1_isIn ∈ lw_all := lw_in 564 (by decide +kernel) (by decide +kernel)
theorem n_X1_isIn : yX1_isIn.cls ≠ "java/lang/invoke/MethodHandle" ∧ yX1_isIn.cls ≠ "java/lang/invoke/VarHandle" ∧ (parseMethodDescriptor yX1_isIn.desc).map (fun d => d.parameters.length) = some 3 := by decide +kernel
theorem q_c_X1_isCoin : Cond.code yX1_isCoin cX1_isCoin 2 (some .boolean) ∈ lw_all := lw_in 585 (by decide +kernel) (by decide +kernel)
theorem q_im_X1_isCoin : Cond.instanceMethod yX1_isCoin ∈ lw_all := lw_in 584 (by decide +kernel) (by decide +kernel)
theorem q_se_X1_isCoin : Cond.selects RX1 yX1_isCoin yX1_isCoin ∈ lw_all := lw_in 24 (by decide +kernel) (by decide +kernel)
theorem n_X1_isCoin : yX1_isCoin.cls = RX1 ∧ yX1_isCoin.cls ≠ "java/lang/invoke/MethodHandle" ∧ yX1_isCoin.cls ≠ "java/lang/invoke/VarHandle" ∧ (parseMethodDescriptor yX1_isCoin.desc).map (fun d => d.parameters.length) = some 1 := by decide +kernel
theorem q_c_X1_isSchool : Cond.code yX1_isSchool cX1_isSchool 2 (some .boolean) ∈ lw_all := lw_in 581 (by decide +kernel) (by decide +kernel)
theorem q_im_X1_isSchool : Cond.instanceMethod yX1_isSchool ∈ lw_all := lw_in 580 (by decide +kernel) (by decide +kernel)
theorem q_se_X1_isSchool : Cond.selects RX1 yX1_isSchool yX1_isSchool ∈ lw_all := lw_in 23 (by decide +kernel) (by decide +kernel)
theorem n_X1_isSchool : yX1_isSchool.cls = RX1 ∧ yX1_isSchool.cls ≠ "java/lang/invoke/MethodHandle" ∧ yX1_isSchool.cls ≠ "java/lang/invoke/VarHandle" ∧ (parseMethodDescriptor yX1_isSchool.desc).map (fun d => d.parameters.length) = some 1 := by decide +kernel
theorem q_c_X1_isToss : Cond.code yX1_isToss cX1_isToss 2 (some .boolean) ∈ lw_all := lw_in 644 (by decide +kernel) (by decide +kernel)
theorem q_im_X1_isToss : Cond.instanceMethod yX1_isToss ∈ lw_all := lw_in 643 (by decide +kernel) (by decide +kernel)
theorem q_se_X1_isToss : Cond.selects RX1 yX1_isToss yX1_isToss ∈ lw_all := lw_in 33 (by decide +kernel) (by decide +kernel)
theorem n_X1_isToss : yX1_isToss.cls = RX1 ∧ yX1_isToss.cls ≠ "java/lang/invoke/MethodHandle" ∧ yX1_isToss.cls ≠ "java/lang/invoke/VarHandle" ∧ (parseMethodDescriptor yX1_isToss.desc).map (fun d => d.parameters.length) = some 1 := by decide +kernel
theorem q_c_X1_headsIn : Cond.code yX1_headsIn cX1_headsIn 4 (some .int) ∈ lw_all := lw_in 600 (by decide +kernel) (by decide +kernel)
theorem q_st_X1_headsIn : Cond.static yX1_headsIn ∈ lw_all := lw_in 599 (by decide +kernel) (by decide +kernel)
theorem n_X1_headsIn : yX1_headsIn.cls ≠ "java/lang/invoke/MethodHandle" ∧ yX1_headsIn.cls ≠ "java/lang/invoke/VarHandle" ∧ (parseMethodDescriptor yX1_headsIn.desc).map (fun d => d.parameters.length) = some 2 := by decide +kernel
theorem q_c_X1_headsNow : Cond.code yX1_headsNow cX1_headsNow 1 (some .int) ∈ lw_all := lw_in 597 (by decide +kernel) (by decide +kernel)
theorem q_im_X1_headsNow : Cond.instanceMethod yX1_headsNow ∈ lw_all := lw_in 596 (by decide +kernel) (by decide +kernel)
theorem q_se_X1_headsNow : Cond.selects RX1 yX1_headsNow yX1_headsNow ∈ lw_all := lw_in 26 (by decide +kernel) (by decide +kernel)
theorem n_X1_headsNow : yX1_headsNow.cls = RX1 ∧ yX1_headsNow.cls ≠ "java/lang/invoke/MethodHandle" ∧ yX1_headsNow.cls ≠ "java/lang/invoke/VarHandle" ∧ (parseMethodDescriptor yX1_headsNow.desc).map (fun d => d.parameters.length) = some 0 := by decide +kernel
theorem q_c_X1_power : Cond.code yX1_power cX1_power 5 (some .long) ∈ lw_all := lw_in 623 (by decide +kernel) (by decide +kernel)
theorem q_st_X1_power : Cond.static yX1_power ∈ lw_all := lw_in 622 (by decide +kernel) (by decide +kernel)
theorem n_X1_power : yX1_power.cls ≠ "java/lang/invoke/MethodHandle" ∧ yX1_power.cls ≠ "java/lang/invoke/VarHandle" ∧ (parseMethodDescriptor yX1_power.desc).map (fun d => d.parameters.length) = some 2 := by decide +kernel
theorem q_c_X1_falls : Cond.code yX1_falls cX1_falls 4 (some .long) ∈ lw_all := lw_in 620 (by decide +kernel) (by decide +kernel)
theorem q_im_X1_falls : Cond.instanceMethod yX1_falls ∈ lw_all := lw_in 619 (by decide +kernel) (by decide +kernel)
theorem q_se_X1_falls : Cond.selects RX1 yX1_falls yX1_falls ∈ lw_all := lw_in 31 (by decide +kernel) (by decide +kernel)
theorem n_X1_falls : yX1_falls.cls = RX1 ∧ yX1_falls.cls ≠ "java/lang/invoke/MethodHandle" ∧ yX1_falls.cls ≠ "java/lang/invoke/VarHandle" ∧ (parseMethodDescriptor yX1_falls.desc).map (fun d => d.parameters.length) = some 3 := by decide +kernel
theorem q_c_X1_given : Cond.code yX1_given cX1_given 4 (some .int) ∈ lw_all := lw_in 616 (by decide +kernel) (by decide +kernel)
theorem q_im_X1_given : Cond.instanceMethod yX1_given ∈ lw_all := lw_in 615 (by decide +kernel) (by decide +kernel)
theorem q_se_X1_given : Cond.selects RX1 yX1_given yX1_given ∈ lw_all := lw_in 30 (by decide +kernel) (by decide +kernel)
theorem n_X1_given : yX1_given.cls = RX1 ∧ yX1_given.cls ≠ "java/lang/invoke/MethodHandle" ∧ yX1_given.cls ≠ "java/lang/invoke/VarHandle" ∧ (parseMethodDescriptor yX1_given.desc).map (fun d => d.parameters.length) = some 1 := by decide +kernel
theorem q_c_X1_weight : Cond.code yX1_weight cX1_weight 4 (some .long) ∈ lw_all := lw_in 612 (by decide +kernel) (by decide +kernel)
theorem q_im_X1_weight : Cond.instanceMethod yX1_weight ∈ lw_all := lw_in 611 (by decide +kernel) (by decide +kernel)
theorem q_se_X1_weight : Cond.selects RX1 yX1_weight yX1_weight ∈ lw_all := lw_in 29 (by decide +kernel) (by decide +kernel)
theorem n_X1_weight : yX1_weight.cls = RX1 ∧ yX1_weight.cls ≠ "java/lang/invoke/MethodHandle" ∧ yX1_weight.cls ≠ "java/lang/invoke/VarHandle" ∧ (parseMethodDescriptor yX1_weight.desc).map (fun d => d.parameters.length) = some 3 := by decide +kernel
theorem q_c_X1_whole : Cond.code yX1_whole cX1_whole 6 (some .long) ∈ lw_all := lw_in 608 (by decide +kernel) (by decide +kernel)
theorem q_im_X1_whole : Cond.instanceMethod yX1_whole ∈ lw_all := lw_in 607 (by decide +kernel) (by decide +kernel)
theorem q_se_X1_whole : Cond.selects RX1 yX1_whole yX1_whole ∈ lw_all := lw_in 28 (by decide +kernel) (by decide +kernel)
theorem n_X1_whole : yX1_whole.cls = RX1 ∧ yX1_whole.cls ≠ "java/lang/invoke/MethodHandle" ∧ yX1_whole.cls ≠ "java/lang/invoke/VarHandle" ∧ (parseMethodDescriptor yX1_whole.desc).map (fun d => d.parameters.length) = some 2 := by decide +kernel
theorem q_c_X1_chance : Cond.code yX1_chance cX1_chance 4 (some .long) ∈ lw_all := lw_in 604 (by decide +kernel) (by decide +kernel)
theorem q_im_X1_chance : Cond.instanceMethod yX1_chance ∈ lw_all := lw_in 603 (by decide +kernel) (by decide +kernel)
theorem q_se_X1_chance : Cond.selects RX1 yX1_chance yX1_chance ∈ lw_all := lw_in 27 (by decide +kernel) (by decide +kernel)
theorem n_X1_chance : yX1_chance.cls = RX1 ∧ yX1_chance.cls ≠ "java/lang/invoke/MethodHandle" ∧ yX1_chance.cls ≠ "java/lang/invoke/VarHandle" ∧ (parseMethodDescriptor yX1_chance.desc).map (fun d => d.parameters.length) = some 3 := by decide +kernel
theorem q_c_X1_surprise : Cond.code yX1_surprise cX1_surprise 9 (some .int) ∈ lw_all := lw_in 627 (by decide +kernel) (by decide +kernel)
theorem q_im_X1_surprise : Cond.instanceMethod yX1_surprise ∈ lw_all := lw_in 626 (by decide +kernel) (by decide +kernel)
theorem q_se_X1_surprise : Cond.selects RX1 yX1_surprise yX1_surprise ∈ lw_all := lw_in 32 (by decide +kernel) (by decide +kernel)
theorem n_X1_surprise : yX1_surprise.cls = RX1 ∧ yX1_surprise.cls ≠ "java/lang/invoke/MethodHandle" ∧ yX1_surprise.cls ≠ "java/lang/invoke/VarHandle" ∧ (parseMethodDescriptor yX1_surprise.desc).map (fun d => d.parameters.length) = some 3 := by decide +kernel
theorem q_c_X1_leader : Cond.code yX1_leader cX1_leader 5 (some .int) ∈ lw_all := lw_in 749 (by decide +kernel) (by decide +kernel)
theorem q_im_X1_leader : Cond.instanceMethod yX1_leader ∈ lw_all := lw_in 748 (by decide +kernel) (by decide +kernel)
theorem q_se_X1_leader : Cond.selects RX1 yX1_leader yX1_leader ∈ lw_all := lw_in 42 (by decide +kernel) (by decide +kernel)
theorem n_X1_leader : yX1_leader.cls = RX1 ∧ yX1_leader.cls ≠ "java/lang/invoke/MethodHandle" ∧ yX1_leader.cls ≠ "java/lang/invoke/VarHandle" ∧ (parseMethodDescriptor yX1_leader.desc).map (fun d => d.parameters.length) = some 2 := by decide +kernel
theorem q_c_X1_here : Cond.code yX1_here cX1_here 2 (some .long) ∈ lw_all := lw_in 700 (by decide +kernel) (by decide +kernel)
theorem q_im_X1_here : Cond.instanceMethod yX1_here ∈ lw_all := lw_in 699 (by decide +kernel) (by decide +kernel)
theorem q_se_X1_here : Cond.selects RX1 yX1_here yX1_here ∈ lw_all := lw_in 37 (by decide +kernel) (by decide +kernel)
theorem n_X1_here : yX1_here.cls = RX1 ∧ yX1_here.cls ≠ "java/lang/invoke/MethodHandle" ∧ yX1_here.cls ≠ "java/lang/invoke/VarHandle" ∧ (parseMethodDescriptor yX1_here.desc).map (fun d => d.parameters.length) = some 1 := by decide +kernel
theorem q_c_X1_all : Cond.code yX1_all cX1_all 1 (some .long) ∈ lw_all := lw_in 716 (by decide +kernel) (by decide +kernel)
theorem q_im_X1_all : Cond.instanceMethod yX1_all ∈ lw_all := lw_in 715 (by decide +kernel) (by decide +kernel)
theorem q_se_X1_all : Cond.selects RX1 yX1_all yX1_all ∈ lw_all := lw_in 39 (by decide +kernel) (by decide +kernel)
theorem n_X1_all : yX1_all.cls = RX1 ∧ yX1_all.cls ≠ "java/lang/invoke/MethodHandle" ∧ yX1_all.cls ≠ "java/lang/invoke/VarHandle" ∧ (parseMethodDescriptor yX1_all.desc).map (fun d => d.parameters.length) = some 0 := by decide +kernel
theorem q_c_X1_addCoin : Cond.code yX1_addCoin cX1_addCoin 3 (some .int) ∈ lw_all := lw_in 562 (by decide +kernel) (by decide +kernel)
theorem q_im_X1_addCoin : Cond.instanceMethod yX1_addCoin ∈ lw_all := lw_in 560 (by decide +kernel) (by decide +kernel)
theorem q_se_X1_addCoin : Cond.selects RX1 yX1_addCoin yX1_addCoin ∈ lw_all := lw_in 561 (by decide +kernel) (by decide +kernel)
theorem n_X1_addCoin : yX1_addCoin.cls = RX1 ∧ yX1_addCoin.cls ≠ "java/lang/invoke/MethodHandle" ∧ yX1_addCoin.cls ≠ "java/lang/invoke/VarHandle" ∧ (parseMethodDescriptor yX1_addCoin.desc).map (fun d => d.parameters.length) = some 1 := by decide +kernel
theorem q_c_X1_addSchool : Cond.code yX1_addSchool cX1_addSchool 3 (some .int) ∈ lw_all := lw_in 573 (by decide +kernel) (by decide +kernel)
theorem q_im_X1_addSchool : Cond.instanceMethod yX1_addSchool ∈ lw_all := lw_in 571 (by decide +kernel) (by decide +kernel)
theorem q_se_X1_addSchool : Cond.selects RX1 yX1_addSchool yX1_addSchool ∈ lw_all := lw_in 572 (by decide +kernel) (by decide +kernel)
theorem n_X1_addSchool : yX1_addSchool.cls = RX1 ∧ yX1_addSchool.cls ≠ "java/lang/invoke/MethodHandle" ∧ yX1_addSchool.cls ≠ "java/lang/invoke/VarHandle" ∧ (parseMethodDescriptor yX1_addSchool.desc).map (fun d => d.parameters.length) = some 1 := by decide +kernel
theorem q_c_X1_setShare : Cond.code yX1_setShare cX1_setShare 5 (some .int) ∈ lw_all := lw_in 577 (by decide +kernel) (by decide +kernel)
theorem q_im_X1_setShare : Cond.instanceMethod yX1_setShare ∈ lw_all := lw_in 575 (by decide +kernel) (by decide +kernel)
theorem q_se_X1_setShare : Cond.selects RX1 yX1_setShare yX1_setShare ∈ lw_all := lw_in 576 (by decide +kernel) (by decide +kernel)
theorem n_X1_setShare : yX1_setShare.cls = RX1 ∧ yX1_setShare.cls ≠ "java/lang/invoke/MethodHandle" ∧ yX1_setShare.cls ≠ "java/lang/invoke/VarHandle" ∧ (parseMethodDescriptor yX1_setShare.desc).map (fun d => d.parameters.length) = some 3 := by decide +kernel
theorem q_c_X1_canBe : Cond.code yX1_canBe cX1_canBe 2 (some .boolean) ∈ lw_all := lw_in 593 (by decide +kernel) (by decide +kernel)
theorem q_im_X1_canBe : Cond.instanceMethod yX1_canBe ∈ lw_all := lw_in 592 (by decide +kernel) (by decide +kernel)
theorem q_se_X1_canBe : Cond.selects RX1 yX1_canBe yX1_canBe ∈ lw_all := lw_in 25 (by decide +kernel) (by decide +kernel)
theorem n_X1_canBe : yX1_canBe.cls = RX1 ∧ yX1_canBe.cls ≠ "java/lang/invoke/MethodHandle" ∧ yX1_canBe.cls ≠ "java/lang/invoke/VarHandle" ∧ (parseMethodDescriptor yX1_canBe.desc).map (fun d => d.parameters.length) = some 1 := by decide +kernel
theorem q_c_X1_toss : Cond.code yX1_toss cX1_toss 3 (some .int) ∈ lw_all := lw_in 589 (by decide +kernel) (by decide +kernel)
theorem q_im_X1_toss : Cond.instanceMethod yX1_toss ∈ lw_all := lw_in 587 (by decide +kernel) (by decide +kernel)
theorem q_se_X1_toss : Cond.selects RX1 yX1_toss yX1_toss ∈ lw_all := lw_in 588 (by decide +kernel) (by decide +kernel)
theorem n_X1_toss : yX1_toss.cls = RX1 ∧ yX1_toss.cls ≠ "java/lang/invoke/MethodHandle" ∧ yX1_toss.cls ≠ "java/lang/invoke/VarHandle" ∧ (parseMethodDescriptor yX1_toss.desc).map (fun d => d.parameters.length) = some 1 := by decide +kernel
theorem q_c_X1_without : Cond.code yX1_without cX1_without 2 (some .int) ∈ lw_all := lw_in 636 (by decide +kernel) (by decide +kernel)
theorem q_st_X1_without : Cond.static yX1_without ∈ lw_all := lw_in 635 (by decide +kernel) (by decide +kernel)
theorem n_X1_without : yX1_without.cls ≠ "java/lang/invoke/MethodHandle" ∧ yX1_without.cls ≠ "java/lang/invoke/VarHandle" ∧ (parseMethodDescriptor yX1_without.desc).map (fun d => d.parameters.length) = some 2 := by decide +kernel
theorem q_c_X1_undo : Cond.code yX1_undo cX1_undo 2 (some .boolean) ∈ lw_all := lw_in 633 (by decide +kernel) (by decide +kernel)
theorem q_im_X1_undo : Cond.instanceMethod yX1_undo ∈ lw_all := lw_in 631 (by decide +kernel) (by decide +kernel)
theorem q_se_X1_undo : Cond.selects RX1 yX1_undo yX1_undo ∈ lw_all := lw_in 632 (by decide +kernel) (by decide +kernel)
theorem n_X1_undo : yX1_undo.cls = RX1 ∧ yX1_undo.cls ≠ "java/lang/invoke/MethodHandle" ∧ yX1_undo.cls ≠ "java/lang/invoke/VarHandle" ∧ (parseMethodDescriptor yX1_undo.desc).map (fun d => d.parameters.length) = some 0 := by decide +kernel
theorem q_c_X1_strike : Cond.code yX1_strike cX1_strike 2 (some .int) ∈ lw_all := lw_in 640 (by decide +kernel) (by decide +kernel)
theorem q_im_X1_strike : Cond.instanceMethod yX1_strike ∈ lw_all := lw_in 638 (by decide +kernel) (by decide +kernel)
theorem q_se_X1_strike : Cond.selects RX1 yX1_strike yX1_strike ∈ lw_all := lw_in 639 (by decide +kernel) (by decide +kernel)
theorem n_X1_strike : yX1_strike.cls = RX1 ∧ yX1_strike.cls ≠ "java/lang/invoke/MethodHandle" ∧ yX1_strike.cls ≠ "java/lang/invoke/VarHandle" ∧ (parseMethodDescriptor yX1_strike.desc).map (fun d => d.parameters.length) = some 1 := by decide +kernel
theorem q_c_X1_coins : Cond.code yX1_coins cX1_coins 1 (some .int) ∈ lw_all := lw_in 648 (by decide +kernel) (by decide +kernel)
theorem q_im_X1_coins : Cond.instanceMethod yX1_coins ∈ lw_all := lw_in 646 (by decide +kernel) (by decide +kernel)
theorem q_se_X1_coins : Cond.selects RX1 yX1_coins yX1_coins ∈ lw_all := lw_in 647 (by decide +kernel) (by decide +kernel)
theorem n_X1_coins : yX1_coins.cls = RX1 ∧ yX1_coins.cls ≠ "java/lang/invoke/MethodHandle" ∧ yX1_coins.cls ≠ "java/lang/invoke/VarHandle" ∧ (parseMethodDescriptor yX1_coins.desc).map (fun d => d.parameters.length) = some 0 := by decide +kernel
theorem q_c_X1_schools : Cond.code yX1_schools cX1_schools 1 (some .int) ∈ lw_all := lw_in 656 (by decide +kernel) (by decide +kernel)
theorem q_im_X1_schools : Cond.instanceMethod yX1_schools ∈ lw_all := lw_in 654 (by decide +kernel) (by decide +kernel)
theorem q_se_X1_schools : Cond.selects RX1 yX1_schools yX1_schools ∈ lw_all := lw_in 655 (by decide +kernel) (by decide +kernel)
theorem n_X1_schools : yX1_schools.cls = RX1 ∧ yX1_schools.cls ≠ "java/lang/invoke/MethodHandle" ∧ yX1_schools.cls ≠ "java/lang/invoke/VarHandle" ∧ (parseMethodDescriptor yX1_schools.desc).map (fun d => d.parameters.length) = some 0 := by decide +kernel
theorem q_c_X1_tosses : Cond.code yX1_tosses cX1_tosses 1 (some .int) ∈ lw_all := lw_in 660 (by decide +kernel) (by decide +kernel)
theorem q_im_X1_tosses : Cond.instanceMethod yX1_tosses ∈ lw_all := lw_in 658 (by decide +kernel) (by decide +kernel)
theorem q_se_X1_tosses : Cond.selects RX1 yX1_tosses yX1_tosses ∈ lw_all := lw_in 659 (by decide +kernel) (by decide +kernel)
theorem n_X1_tosses : yX1_tosses.cls = RX1 ∧ yX1_tosses.cls ≠ "java/lang/invoke/MethodHandle" ∧ yX1_tosses.cls ≠ "java/lang/invoke/VarHandle" ∧ (parseMethodDescriptor yX1_tosses.desc).map (fun d => d.parameters.length) = some 0 := by decide +kernel
theorem q_c_X1_heads : Cond.code yX1_heads cX1_heads 1 (some .int) ∈ lw_all := lw_in 664 (by decide +kernel) (by decide +kernel)
theorem q_im_X1_heads : Cond.instanceMethod yX1_heads ∈ lw_all := lw_in 662 (by decide +kernel) (by decide +kernel)
theorem q_se_X1_heads : Cond.selects RX1 yX1_heads yX1_heads ∈ lw_all := lw_in 663 (by decide +kernel) (by decide +kernel)
theorem n_X1_heads : yX1_heads.cls = RX1 ∧ yX1_heads.cls ≠ "java/lang/invoke/MethodHandle" ∧ yX1_heads.cls ≠ "java/lang/invoke/VarHandle" ∧ (parseMethodDescriptor yX1_heads.desc).map (fun d => d.parameters.length) = some 0 := by decide +kernel
theorem q_c_X1_isUp : Cond.code yX1_isUp cX1_isUp 2 (some .boolean) ∈ lw_all := lw_in 672 (by decide +kernel) (by decide +kernel)
theorem q_im_X1_isUp : Cond.instanceMethod yX1_isUp ∈ lw_all := lw_in 671 (by decide +kernel) (by decide +kernel)
theorem q_se_X1_isUp : Cond.selects RX1 yX1_isUp yX1_isUp ∈ lw_all := lw_in 35 (by decide +kernel) (by decide +kernel)
theorem n_X1_isUp : yX1_isUp.cls = RX1 ∧ yX1_isUp.cls ≠ "java/lang/invoke/MethodHandle" ∧ yX1_isUp.cls ≠ "java/lang/invoke/VarHandle" ∧ (parseMethodDescriptor yX1_isUp.desc).map (fun d => d.parameters.length) = some 1 := by decide +kernel
theorem q_c_X1_isHeads : Cond.code yX1_isHeads cX1_isHeads 2 (some .boolean) ∈ lw_all := lw_in 668 (by decide +kernel) (by decide +kernel)
theorem q_im_X1_isHeads : Cond.instanceMethod yX1_isHeads ∈ lw_all := lw_in 666 (by decide +kernel) (by decide +kernel)
theorem q_se_X1_isHeads : Cond.selects RX1 yX1_isHeads yX1_isHeads ∈ lw_all := lw_in 667 (by decide +kernel) (by decide +kernel)
theorem n_X1_isHeads : yX1_isHeads.cls = RX1 ∧ yX1_isHeads.cls ≠ "java/lang/invoke/MethodHandle" ∧ yX1_isHeads.cls ≠ "java/lang/invoke/VarHandle" ∧ (parseMethodDescriptor yX1_isHeads.desc).map (fun d => d.parameters.length) = some 1 := by decide +kernel
theorem q_c_X1_tenthsOf : Cond.code yX1_tenthsOf cX1_tenthsOf 2 (some .int) ∈ lw_all := lw_in 676 (by decide +kernel) (by decide +kernel)
theorem q_im_X1_tenthsOf : Cond.instanceMethod yX1_tenthsOf ∈ lw_all := lw_in 674 (by decide +kernel) (by decide +kernel)
theorem q_se_X1_tenthsOf : Cond.selects RX1 yX1_tenthsOf yX1_tenthsOf ∈ lw_all := lw_in 675 (by decide +kernel) (by decide +kernel)
theorem n_X1_tenthsOf : yX1_tenthsOf.cls = RX1 ∧ yX1_tenthsOf.cls ≠ "java/lang/invoke/MethodHandle" ∧ yX1_tenthsOf.cls ≠ "java/lang/invoke/VarHandle" ∧ (parseMethodDescriptor yX1_tenthsOf.desc).map (fun d => d.parameters.length) = some 1 := by decide +kernel
theorem q_c_X1_oddsOf : Cond.code yX1_oddsOf cX1_oddsOf 2 (some .int) ∈ lw_all := lw_in 680 (by decide +kernel) (by decide +kernel)
theorem q_im_X1_oddsOf : Cond.instanceMethod yX1_oddsOf ∈ lw_all := lw_in 678 (by decide +kernel) (by decide +kernel)
theorem q_se_X1_oddsOf : Cond.selects RX1 yX1_oddsOf yX1_oddsOf ∈ lw_all := lw_in 679 (by decide +kernel) (by decide +kernel)
theorem n_X1_oddsOf : yX1_oddsOf.cls = RX1 ∧ yX1_oddsOf.cls ≠ "java/lang/invoke/MethodHandle" ∧ yX1_oddsOf.cls ≠ "java/lang/invoke/VarHandle" ∧ (parseMethodDescriptor yX1_oddsOf.desc).map (fun d => d.parameters.length) = some 1 := by decide +kernel
theorem q_c_X1_shareOf : Cond.code yX1_shareOf cX1_shareOf 3 (some .int) ∈ lw_all := lw_in 684 (by decide +kernel) (by decide +kernel)
theorem q_im_X1_shareOf : Cond.instanceMethod yX1_shareOf ∈ lw_all := lw_in 682 (by decide +kernel) (by decide +kernel)
theorem q_se_X1_shareOf : Cond.selects RX1 yX1_shareOf yX1_shareOf ∈ lw_all := lw_in 683 (by decide +kernel) (by decide +kernel)
theorem n_X1_shareOf : yX1_shareOf.cls = RX1 ∧ yX1_shareOf.cls ≠ "java/lang/invoke/MethodHandle" ∧ yX1_shareOf.cls ≠ "java/lang/invoke/VarHandle" ∧ (parseMethodDescriptor yX1_shareOf.desc).map (fun d => d.parameters.length) = some 2 := by decide +kernel
theorem q_c_X1_pair : Cond.code yX1_pair cX1_pair 3 (some .long) ∈ lw_all := lw_in 692 (by decide +kernel) (by decide +kernel)
theorem q_im_X1_pair : Cond.instanceMethod yX1_pair ∈ lw_all := lw_in 691 (by decide +kernel) (by decide +kernel)
theorem q_se_X1_pair : Cond.selects RX1 yX1_pair yX1_pair ∈ lw_all := lw_in 36 (by decide +kernel) (by decide +kernel)
theorem n_X1_pair : yX1_pair.cls = RX1 ∧ yX1_pair.cls ≠ "java/lang/invoke/MethodHandle" ∧ yX1_pair.cls ≠ "java/lang/invoke/VarHandle" ∧ (parseMethodDescriptor yX1_pair.desc).map (fun d => d.parameters.length) = some 2 := by decide +kernel
theorem q_c_X1_schoolHere : Cond.code yX1_schoolHere cX1_schoolHere 5 (some .long) ∈ lw_all := lw_in 708 (by decide +kernel) (by decide +kernel)
theorem q_im_X1_schoolHere : Cond.instanceMethod yX1_schoolHere ∈ lw_all := lw_in 707 (by decide +kernel) (by decide +kernel)
theorem q_se_X1_schoolHere : Cond.selects RX1 yX1_schoolHere yX1_schoolHere ∈ lw_all := lw_in 38 (by decide +kernel) (by decide +kernel)
theorem n_X1_schoolHere : yX1_schoolHere.cls = RX1 ∧ yX1_schoolHere.cls ≠ "java/lang/invoke/MethodHandle" ∧ yX1_schoolHere.cls ≠ "java/lang/invoke/VarHandle" ∧ (parseMethodDescriptor yX1_schoolHere.desc).map (fun d => d.parameters.length) = some 1 := by decide +kernel
theorem q_c_X1_weightOf : Cond.code yX1_weightOf cX1_weightOf 3 (some .long) ∈ lw_all := lw_in 688 (by decide +kernel) (by decide +kernel)
theorem q_im_X1_weightOf : Cond.instanceMethod yX1_weightOf ∈ lw_all := lw_in 686 (by decide +kernel) (by decide +kernel)
theorem q_se_X1_weightOf : Cond.selects RX1 yX1_weightOf yX1_weightOf ∈ lw_all := lw_in 687 (by decide +kernel) (by decide +kernel)
theorem n_X1_weightOf : yX1_weightOf.cls = RX1 ∧ yX1_weightOf.cls ≠ "java/lang/invoke/MethodHandle" ∧ yX1_weightOf.cls ≠ "java/lang/invoke/VarHandle" ∧ (parseMethodDescriptor yX1_weightOf.desc).map (fun d => d.parameters.length) = some 2 := by decide +kernel
theorem q_c_X1_coinWeight : Cond.code yX1_coinWeight cX1_coinWeight 2 (some .long) ∈ lw_all := lw_in 696 (by decide +kernel) (by decide +kernel)
theorem q_im_X1_coinWeight : Cond.instanceMethod yX1_coinWeight ∈ lw_all := lw_in 694 (by decide +kernel) (by decide +kernel)
theorem q_se_X1_coinWeight : Cond.selects RX1 yX1_coinWeight yX1_coinWeight ∈ lw_all := lw_in 695 (by decide +kernel) (by decide +kernel)
theorem n_X1_coinWeight : yX1_coinWeight.cls = RX1 ∧ yX1_coinWeight.cls ≠ "java/lang/invoke/MethodHandle" ∧ yX1_coinWeight.cls ≠ "java/lang/invoke/VarHandle" ∧ (parseMethodDescriptor yX1_coinWeight.desc).map (fun d => d.parameters.length) = some 1 := by decide +kernel
theorem q_c_X1_schoolWeight : Cond.code yX1_schoolWeight cX1_schoolWeight 2 (some .long) ∈ lw_all := lw_in 704 (by decide +kernel) (by decide +kernel)
theorem q_im_X1_schoolWeight : Cond.instanceMethod yX1_schoolWeight ∈ lw_all := lw_in 702 (by decide +kernel) (by decide +kernel)
theorem q_se_X1_schoolWeight : Cond.selects RX1 yX1_schoolWeight yX1_schoolWeight ∈ lw_all := lw_in 703 (by decide +kernel) (by decide +kernel)
theorem n_X1_schoolWeight : yX1_schoolWeight.cls = RX1 ∧ yX1_schoolWeight.cls ≠ "java/lang/invoke/MethodHandle" ∧ yX1_schoolWeight.cls ≠ "java/lang/invoke/VarHandle" ∧ (parseMethodDescriptor yX1_schoolWeight.desc).map (fun d => d.parameters.length) = some 1 := by decide +kernel
theorem q_c_X1_wholeWeight : Cond.code yX1_wholeWeight cX1_wholeWeight 1 (some .long) ∈ lw_all := lw_in 712 (by decide +kernel) (by decide +kernel)
theorem q_im_X1_wholeWeight : Cond.instanceMethod yX1_wholeWeight ∈ lw_all := lw_in 710 (by decide +kernel) (by decide +kernel)
theorem q_se_X1_wholeWeight : Cond.selects RX1 yX1_wholeWeight yX1_wholeWeight ∈ lw_all := lw_in 711 (by decide +kernel) (by decide +kernel)
theorem n_X1_wholeWeight : yX1_wholeWeight.cls = RX1 ∧ yX1_wholeWeight.cls ≠ "java/lang/invoke/MethodHandle" ∧ yX1_wholeWeight.cls ≠ "java/lang/invoke/VarHandle" ∧ (parseMethodDescriptor yX1_wholeWeight.desc).map (fun d => d.parameters.length) = some 0 := by decide +kernel
theorem q_c_X1_isRuledOut : Cond.code yX1_isRuledOut cX1_isRuledOut 2 (some .boolean) ∈ lw_all := lw_in 720 (by decide +kernel) (by decide +kernel)
theorem q_im_X1_isRuledOut : Cond.instanceMethod yX1_isRuledOut ∈ lw_all := lw_in 718 (by decide +kernel) (by decide +kernel)
theorem q_se_X1_isRuledOut : Cond.selects RX1 yX1_isRuledOut yX1_isRuledOut ∈ lw_all := lw_in 719 (by decide +kernel) (by decide +kernel)
theorem n_X1_isRuledOut : yX1_isRuledOut.cls = RX1 ∧ yX1_isRuledOut.cls ≠ "java/lang/invoke/MethodHandle" ∧ yX1_isRuledOut.cls ≠ "java/lang/invoke/VarHandle" ∧ (parseMethodDescriptor yX1_isRuledOut.desc).map (fun d => d.parameters.length) = some 1 := by decide +kernel
theorem q_c_X1_gone : Cond.code yX1_gone cX1_gone 3 (some .int) ∈ lw_all := lw_in 728 (by decide +kernel) (by decide +kernel)
theorem q_im_X1_gone : Cond.instanceMethod yX1_gone ∈ lw_all := lw_in 727 (by decide +kernel) (by decide +kernel)
theorem q_se_X1_gone : Cond.selects RX1 yX1_gone yX1_gone ∈ lw_all := lw_in 40 (by decide +kernel) (by decide +kernel)
theorem n_X1_gone : yX1_gone.cls = RX1 ∧ yX1_gone.cls ≠ "java/lang/invoke/MethodHandle" ∧ yX1_gone.cls ≠ "java/lang/invoke/VarHandle" ∧ (parseMethodDescriptor yX1_gone.desc).map (fun d => d.parameters.length) = some 0 := by decide +kernel
theorem q_c_X1_ruledOut : Cond.code yX1_ruledOut cX1_ruledOut 1 (some .int) ∈ lw_all := lw_in 724 (by decide +kernel) (by decide +kernel)
theorem q_im_X1_ruledOut : Cond.instanceMethod yX1_ruledOut ∈ lw_all := lw_in 722 (by decide +kernel) (by decide +kernel)
theorem q_se_X1_ruledOut : Cond.selects RX1 yX1_ruledOut yX1_ruledOut ∈ lw_all := lw_in 723 (by decide +kernel) (by decide +kernel)
theorem n_X1_ruledOut : yX1_ruledOut.cls = RX1 ∧ yX1_ruledOut.cls ≠ "java/lang/invoke/MethodHandle" ∧ yX1_ruledOut.cls ≠ "java/lang/invoke/VarHandle" ∧ (parseMethodDescriptor yX1_ruledOut.desc).map (fun d => d.parameters.length) = some 0 := by decide +kernel
theorem q_c_X1_coinPercent : Cond.code yX1_coinPercent cX1_coinPercent 2 (some .int) ∈ lw_all := lw_in 732 (by decide +kernel) (by decide +kernel)
theorem q_im_X1_coinPercent : Cond.instanceMethod yX1_coinPercent ∈ lw_all := lw_in 730 (by decide +kernel) (by decide +kernel)
theorem q_se_X1_coinPercent : Cond.selects RX1 yX1_coinPercent yX1_coinPercent ∈ lw_all := lw_in 731 (by decide +kernel) (by decide +kernel)
theorem n_X1_coinPercent : yX1_coinPercent.cls = RX1 ∧ yX1_coinPercent.cls ≠ "java/lang/invoke/MethodHandle" ∧ yX1_coinPercent.cls ≠ "java/lang/invoke/VarHandle" ∧ (parseMethodDescriptor yX1_coinPercent.desc).map (fun d => d.parameters.length) = some 1 := by decide +kernel
theorem q_c_X1_schoolPercent : Cond.code yX1_schoolPercent cX1_schoolPercent 2 (some .int) ∈ lw_all := lw_in 737 (by decide +kernel) (by decide +kernel)
theorem q_im_X1_schoolPercent : Cond.instanceMethod yX1_schoolPercent ∈ lw_all := lw_in 735 (by decide +kernel) (by decide +kernel)
theorem q_se_X1_schoolPercent : Cond.selects RX1 yX1_schoolPercent yX1_schoolPercent ∈ lw_all := lw_in 736 (by decide +kernel) (by decide +kernel)
theorem n_X1_schoolPercent : yX1_schoolPercent.cls = RX1 ∧ yX1_schoolPercent.cls ≠ "java/lang/invoke/MethodHandle" ∧ yX1_schoolPercent.cls ≠ "java/lang/invoke/VarHandle" ∧ (parseMethodDescriptor yX1_schoolPercent.desc).map (fun d => d.parameters.length) = some 1 := by decide +kernel
theorem q_c_X1_leads : Cond.code yX1_leads cX1_leads 1 (some .int) ∈ lw_all := lw_in 745 (by decide +kernel) (by decide +kernel)
theorem q_im_X1_leads : Cond.instanceMethod yX1_leads ∈ lw_all := lw_in 744 (by decide +kernel) (by decide +kernel)
theorem q_se_X1_leads : Cond.selects RX1 yX1_leads yX1_leads ∈ lw_all := lw_in 41 (by decide +kernel) (by decide +kernel)
theorem n_X1_leads : yX1_leads.cls = RX1 ∧ yX1_leads.cls ≠ "java/lang/invoke/MethodHandle" ∧ yX1_leads.cls ≠ "java/lang/invoke/VarHandle" ∧ (parseMethodDescriptor yX1_leads.desc).map (fun d => d.parameters.length) = some 0 := by decide +kernel
theorem q_c_X1_leadingCoin : Cond.code yX1_leadingCoin cX1_leadingCoin 1 (some .int) ∈ lw_all := lw_in 741 (by decide +kernel) (by decide +kernel)
theorem q_im_X1_leadingCoin : Cond.instanceMethod yX1_leadingCoin ∈ lw_all := lw_in 739 (by decide +kernel) (by decide +kernel)
theorem q_se_X1_leadingCoin : Cond.selects RX1 yX1_leadingCoin yX1_leadingCoin ∈ lw_all := lw_in 740 (by decide +kernel) (by decide +kernel)
theorem n_X1_leadingCoin : yX1_leadingCoin.cls = RX1 ∧ yX1_leadingCoin.cls ≠ "java/lang/invoke/MethodHandle" ∧ yX1_leadingCoin.cls ≠ "java/lang/invoke/VarHandle" ∧ (parseMethodDescriptor yX1_leadingCoin.desc).map (fun d => d.parameters.length) = some 0 := by decide +kernel
theorem q_c_X1_leadingSchool : Cond.code yX1_leadingSchool cX1_leadingSchool 3 (some .int) ∈ lw_all := lw_in 753 (by decide +kernel) (by decide +kernel)
theorem q_im_X1_leadingSchool : Cond.instanceMethod yX1_leadingSchool ∈ lw_all := lw_in 751 (by decide +kernel) (by decide +kernel)
theorem q_se_X1_leadingSchool : Cond.selects RX1 yX1_leadingSchool yX1_leadingSchool ∈ lw_all := lw_in 752 (by decide +kernel) (by decide +kernel)
theorem n_X1_leadingSchool : yX1_leadingSchool.cls = RX1 ∧ yX1_leadingSchool.cls ≠ "java/lang/invoke/MethodHandle" ∧ yX1_leadingSchool.cls ≠ "java/lang/invoke/VarHandle" ∧ (parseMethodDescriptor yX1_leadingSchool.desc).map (fun d => d.parameters.length) = some 0 := by decide +kernel
theorem q_c_X1_oddsAgainst : Cond.code yX1_oddsAgainst cX1_oddsAgainst 3 (some .long) ∈ lw_all := lw_in 757 (by decide +kernel) (by decide +kernel)
theorem q_im_X1_oddsAgainst : Cond.instanceMethod yX1_oddsAgainst ∈ lw_all := lw_in 755 (by decide +kernel) (by decide +kernel)
theorem q_se_X1_oddsAgainst : Cond.selects RX1 yX1_oddsAgainst yX1_oddsAgainst ∈ lw_all := lw_in 756 (by decide +kernel) (by decide +kernel)
theorem n_X1_oddsAgainst : yX1_oddsAgainst.cls = RX1 ∧ yX1_oddsAgainst.cls ≠ "java/lang/invoke/MethodHandle" ∧ yX1_oddsAgainst.cls ≠ "java/lang/invoke/VarHandle" ∧ (parseMethodDescriptor yX1_oddsAgainst.desc).map (fun d => d.parameters.length) = some 2 := by decide +kernel
theorem q_c_X1_surprise_ : Cond.code yX1_surprise_ cX1_surprise_ 3 (some .int) ∈ lw_all := lw_in 765 (by decide +kernel) (by decide +kernel)
theorem q_im_X1_surprise_ : Cond.instanceMethod yX1_surprise_ ∈ lw_all := lw_in 764 (by decide +kernel) (by decide +kernel)
theorem q_se_X1_surprise_ : Cond.selects RX1 yX1_surprise_ yX1_surprise_ ∈ lw_all := lw_in 43 (by decide +kernel) (by decide +kernel)
theorem n_X1_surprise_ : yX1_surprise_.cls = RX1 ∧ yX1_surprise_.cls ≠ "java/lang/invoke/MethodHandle" ∧ yX1_surprise_.cls ≠ "java/lang/invoke/VarHandle" ∧ (parseMethodDescriptor yX1_surprise_.desc).map (fun d => d.parameters.length) = some 1 := by decide +kernel
theorem q_c_X1_surpriseOf : Cond.code yX1_surpriseOf cX1_surpriseOf 2 (some .int) ∈ lw_all := lw_in 761 (by decide +kernel) (by decide +kernel)
theorem q_im_X1_surpriseOf : Cond.instanceMethod yX1_surpriseOf ∈ lw_all := lw_in 759 (by decide +kernel) (by decide +kernel)
theorem q_se_X1_surpriseOf : Cond.selects RX1 yX1_surpriseOf yX1_surpriseOf ∈ lw_all := lw_in 760 (by decide +kernel) (by decide +kernel)
theorem n_X1_surpriseOf : yX1_surpriseOf.cls = RX1 ∧ yX1_surpriseOf.cls ≠ "java/lang/invoke/MethodHandle" ∧ yX1_surpriseOf.cls ≠ "java/lang/invoke/VarHandle" ∧ (parseMethodDescriptor yX1_surpriseOf.desc).map (fun d => d.parameters.length) = some 1 := by decide +kernel
theorem q_c_X1_surprises : Cond.code yX1_surprises cX1_surprises 3 (some .int) ∈ lw_all := lw_in 773 (by decide +kernel) (by decide +kernel)
theorem q_im_X1_surprises : Cond.instanceMethod yX1_surprises ∈ lw_all := lw_in 772 (by decide +kernel) (by decide +kernel)
theorem q_se_X1_surprises : Cond.selects RX1 yX1_surprises yX1_surprises ∈ lw_all := lw_in 44 (by decide +kernel) (by decide +kernel)
theorem n_X1_surprises : yX1_surprises.cls = RX1 ∧ yX1_surprises.cls ≠ "java/lang/invoke/MethodHandle" ∧ yX1_surprises.cls ≠ "java/lang/invoke/VarHandle" ∧ (parseMethodDescriptor yX1_surprises.desc).map (fun d => d.parameters.length) = some 0 := by decide +kernel
theorem q_c_X1_allSurprise : Cond.code yX1_allSurprise cX1_allSurprise 1 (some .int) ∈ lw_all := lw_in 769 (by decide +kernel) (by decide +kernel)
theorem q_im_X1_allSurprise : Cond.instanceMethod yX1_allSurprise ∈ lw_all := lw_in 767 (by decide +kernel) (by decide +kernel)
theorem q_se_X1_allSurprise : Cond.selects RX1 yX1_allSurprise yX1_allSurprise ∈ lw_all := lw_in 768 (by decide +kernel) (by decide +kernel)
theorem n_X1_allSurprise : yX1_allSurprise.cls = RX1 ∧ yX1_allSurprise.cls ≠ "java/lang/invoke/MethodHandle" ∧ yX1_allSurprise.cls ≠ "java/lang/invoke/VarHandle" ∧ (parseMethodDescriptor yX1_allSurprise.desc).map (fun d => d.parameters.length) = some 0 := by decide +kernel
theorem q_c_X1_greatestSurprise : Cond.code yX1_greatestSurprise cX1_greatestSurprise 3 (some .int) ∈ lw_all := lw_in 777 (by decide +kernel) (by decide +kernel)
theorem q_im_X1_greatestSurprise : Cond.instanceMethod yX1_greatestSurprise ∈ lw_all := lw_in 775 (by decide +kernel) (by decide +kernel)
theorem q_se_X1_greatestSurprise : Cond.selects RX1 yX1_greatestSurprise yX1_greatestSurprise ∈ lw_all := lw_in 776 (by decide +kernel) (by decide +kernel)
theorem n_X1_greatestSurprise : yX1_greatestSurprise.cls = RX1 ∧ yX1_greatestSurprise.cls ≠ "java/lang/invoke/MethodHandle" ∧ yX1_greatestSurprise.cls ≠ "java/lang/invoke/VarHandle" ∧ (parseMethodDescriptor yX1_greatestSurprise.desc).map (fun d => d.parameters.length) = some 0 := by decide +kernel
theorem q_c_X1_headsPercent : Cond.code yX1_headsPercent cX1_headsPercent 3 (some .int) ∈ lw_all := lw_in 781 (by decide +kernel) (by decide +kernel)
theorem q_im_X1_headsPercent : Cond.instanceMethod yX1_headsPercent ∈ lw_all := lw_in 779 (by decide +kernel) (by decide +kernel)
theorem q_se_X1_headsPercent : Cond.selects RX1 yX1_headsPercent yX1_headsPercent ∈ lw_all := lw_in 780 (by decide +kernel) (by decide +kernel)
theorem n_X1_headsPercent : yX1_headsPercent.cls = RX1 ∧ yX1_headsPercent.cls ≠ "java/lang/invoke/MethodHandle" ∧ yX1_headsPercent.cls ≠ "java/lang/invoke/VarHandle" ∧ (parseMethodDescriptor yX1_headsPercent.desc).map (fun d => d.parameters.length) = some 0 := by decide +kernel
theorem q_c_X1_wouldSurprise : Cond.code yX1_wouldSurprise cX1_wouldSurprise 2 (some .int) ∈ lw_all := lw_in 785 (by decide +kernel) (by decide +kernel)
theorem q_im_X1_wouldSurprise : Cond.instanceMethod yX1_wouldSurprise ∈ lw_all := lw_in 783 (by decide +kernel) (by decide +kernel)
theorem q_se_X1_wouldSurprise : Cond.selects RX1 yX1_wouldSurprise yX1_wouldSurprise ∈ lw_all := lw_in 784 (by decide +kernel) (by decide +kernel)
theorem n_X1_wouldSurprise : yX1_wouldSurprise.cls = RX1 ∧ yX1_wouldSurprise.cls ≠ "java/lang/invoke/MethodHandle" ∧ yX1_wouldSurprise.cls ≠ "java/lang/invoke/VarHandle" ∧ (parseMethodDescriptor yX1_wouldSurprise.desc).map (fun d => d.parameters.length) = some 1 := by decide +kernel
theorem q_c_X1_leaderBehind : Cond.code yX1_leaderBehind cX1_leaderBehind 3 (some .int) ∈ lw_all := lw_in 789 (by decide +kernel) (by decide +kernel)
theorem q_im_X1_leaderBehind : Cond.instanceMethod yX1_leaderBehind ∈ lw_all := lw_in 787 (by decide +kernel) (by decide +kernel)
theorem q_se_X1_leaderBehind : Cond.selects RX1 yX1_leaderBehind yX1_leaderBehind ∈ lw_all := lw_in 788 (by decide +kernel) (by decide +kernel)
theorem n_X1_leaderBehind : yX1_leaderBehind.cls = RX1 ∧ yX1_leaderBehind.cls ≠ "java/lang/invoke/MethodHandle" ∧ yX1_leaderBehind.cls ≠ "java/lang/invoke/VarHandle" ∧ (parseMethodDescriptor yX1_leaderBehind.desc).map (fun d => d.parameters.length) = some 1 := by decide +kernel
theorem q_c_X1_isFirst : Cond.code yX1_isFirst cX1_isFirst 4 (some .boolean) ∈ lw_all := lw_in 801 (by decide +kernel) (by decide +kernel)
theorem q_im_X1_isFirst : Cond.instanceMethod yX1_isFirst ∈ lw_all := lw_in 800 (by decide +kernel) (by decide +kernel)
theorem q_se_X1_isFirst : Cond.selects RX1 yX1_isFirst yX1_isFirst ∈ lw_all := lw_in 46 (by decide +kernel) (by decide +kernel)
theorem n_X1_isFirst : yX1_isFirst.cls = RX1 ∧ yX1_isFirst.cls ≠ "java/lang/invoke/MethodHandle" ∧ yX1_isFirst.cls ≠ "java/lang/invoke/VarHandle" ∧ (parseMethodDescriptor yX1_isFirst.desc).map (fun d => d.parameters.length) = some 3 := by decide +kernel
theorem q_c_X1_toLead : Cond.code yX1_toLead cX1_toLead 5 (some .int) ∈ lw_all := lw_in 797 (by decide +kernel) (by decide +kernel)
theorem q_im_X1_toLead : Cond.instanceMethod yX1_toLead ∈ lw_all := lw_in 796 (by decide +kernel) (by decide +kernel)
theorem q_se_X1_toLead : Cond.selects RX1 yX1_toLead yX1_toLead ∈ lw_all := lw_in 45 (by decide +kernel) (by decide +kernel)
theorem n_X1_toLead : yX1_toLead.cls = RX1 ∧ yX1_toLead.cls ≠ "java/lang/invoke/MethodHandle" ∧ yX1_toLead.cls ≠ "java/lang/invoke/VarHandle" ∧ (parseMethodDescriptor yX1_toLead.desc).map (fun d => d.parameters.length) = some 1 := by decide +kernel
theorem q_c_X1_tossesToLead : Cond.code yX1_tossesToLead cX1_tossesToLead 2 (some .int) ∈ lw_all := lw_in 793 (by decide +kernel) (by decide +kernel)
theorem q_im_X1_tossesToLead : Cond.instanceMethod yX1_tossesToLead ∈ lw_all := lw_in 791 (by decide +kernel) (by decide +kernel)
theorem q_se_X1_tossesToLead : Cond.selects RX1 yX1_tossesToLead yX1_tossesToLead ∈ lw_all := lw_in 792 (by decide +kernel) (by decide +kernel)
theorem n_X1_tossesToLead : yX1_tossesToLead.cls = RX1 ∧ yX1_tossesToLead.cls ≠ "java/lang/invoke/MethodHandle" ∧ yX1_tossesToLead.cls ≠ "java/lang/invoke/VarHandle" ∧ (parseMethodDescriptor yX1_tossesToLead.desc).map (fun d => d.parameters.length) = some 1 := by decide +kernel
theorem q_c_X1_decisive : Cond.code yX1_decisive cX1_decisive 6 (some .int) ∈ lw_all := lw_in 809 (by decide +kernel) (by decide +kernel)
theorem q_im_X1_decisive : Cond.instanceMethod yX1_decisive ∈ lw_all := lw_in 808 (by decide +kernel) (by decide +kernel)
theorem q_se_X1_decisive : Cond.selects RX1 yX1_decisive yX1_decisive ∈ lw_all := lw_in 47 (by decide +kernel) (by decide +kernel)
theorem n_X1_decisive : yX1_decisive.cls = RX1 ∧ yX1_decisive.cls ≠ "java/lang/invoke/MethodHandle" ∧ yX1_decisive.cls ≠ "java/lang/invoke/VarHandle" ∧ (parseMethodDescriptor yX1_decisive.desc).map (fun d => d.parameters.length) = some 0 := by decide +kernel
theorem q_c_X1_decisiveTosses : Cond.code yX1_decisiveTosses cX1_decisiveTosses 1 (some .int) ∈ lw_all := lw_in 805 (by decide +kernel) (by decide +kernel)
theorem q_im_X1_decisiveTosses : Cond.instanceMethod yX1_decisiveTosses ∈ lw_all := lw_in 803 (by decide +kernel) (by decide +kernel)
theorem q_se_X1_decisiveTosses : Cond.selects RX1 yX1_decisiveTosses yX1_decisiveTosses ∈ lw_all := lw_in 804 (by decide +kernel) (by decide +kernel)
theorem n_X1_decisiveTosses : yX1_decisiveTosses.cls = RX1 ∧ yX1_decisiveTosses.cls ≠ "java/lang/invoke/MethodHandle" ∧ yX1_decisiveTosses.cls ≠ "java/lang/invoke/VarHandle" ∧ (parseMethodDescriptor yX1_decisiveTosses.desc).map (fun d => d.parameters.length) = some 0 := by decide +kernel
theorem q_c_X1_meanTenths : Cond.code yX1_meanTenths cX1_meanTenths 3 (some .double) ∈ lw_all := lw_in 813 (by decide +kernel) (by decide +kernel)
theorem q_im_X1_meanTenths : Cond.instanceMethod yX1_meanTenths ∈ lw_all := lw_in 811 (by decide +kernel) (by decide +kernel)
theorem q_se_X1_meanTenths : Cond.selects RX1 yX1_meanTenths yX1_meanTenths ∈ lw_all := lw_in 812 (by decide +kernel) (by decide +kernel)
theorem n_X1_meanTenths : yX1_meanTenths.cls = RX1 ∧ yX1_meanTenths.cls ≠ "java/lang/invoke/MethodHandle" ∧ yX1_meanTenths.cls ≠ "java/lang/invoke/VarHandle" ∧ (parseMethodDescriptor yX1_meanTenths.desc).map (fun d => d.parameters.length) = some 0 := by decide +kernel
theorem q_c_X1_digest : Cond.code yX1_digest cX1_digest 5 (some .long) ∈ lw_all := lw_in 817 (by decide +kernel) (by decide +kernel)
theorem q_im_X1_digest : Cond.instanceMethod yX1_digest ∈ lw_all := lw_in 815 (by decide +kernel) (by decide +kernel)
theorem q_se_X1_digest : Cond.selects RX1 yX1_digest yX1_digest ∈ lw_all := lw_in 816 (by decide +kernel) (by decide +kernel)
theorem n_X1_digest : yX1_digest.cls = RX1 ∧ yX1_digest.cls ≠ "java/lang/invoke/MethodHandle" ∧ yX1_digest.cls ≠ "java/lang/invoke/VarHandle" ∧ (parseMethodDescriptor yX1_digest.desc).map (fun d => d.parameters.length) = some 0 := by decide +kernel
theorem q_c_L_addCoin : Cond.codeWith yL_addCoin cL_addCoin 4 (some .int) [(0, 9, 12, 13), (0, 9, 15, 15)] ∈ lw_all := lw_in 288 (by decide +kernel) (by decide +kernel)
theorem q_st_L_addCoin : Cond.static yL_addCoin ∈ lw_all := lw_in 287 (by decide +kernel) (by decide +kernel)
theorem n_L_addCoin : yL_addCoin.cls ≠ "java/lang/invoke/MethodHandle" ∧ yL_addCoin.cls ≠ "java/lang/invoke/VarHandle" ∧ (parseMethodDescriptor yL_addCoin.desc).map (fun d => d.parameters.length) = some 3 := by decide +kernel
theorem q_c_L_addSchool : Cond.codeWith yL_addSchool cL_addSchool 4 (some .int) [(0, 9, 12, 13), (0, 9, 15, 15)] ∈ lw_all := lw_in 334 (by decide +kernel) (by decide +kernel)
theorem q_st_L_addSchool : Cond.static yL_addSchool ∈ lw_all := lw_in 333 (by decide +kernel) (by decide +kernel)
theorem n_L_addSchool : yL_addSchool.cls ≠ "java/lang/invoke/MethodHandle" ∧ yL_addSchool.cls ≠ "java/lang/invoke/VarHandle" ∧ (parseMethodDescriptor yL_addSchool.desc).map (fun d => d.parameters.length) = some 3 := by decide +kernel
theorem q_c_L_setShare : Cond.codeWith yL_setShare cL_setShare 6 (some .int) [(0, 12, 15, 24), (0, 12, 19, 13), (0, 12, 23, 15)] ∈ lw_all := lw_in 343 (by decide +kernel) (by decide +kernel)
theorem q_st_L_setShare : Cond.static yL_setShare ∈ lw_all := lw_in 342 (by decide +kernel) (by decide +kernel)
theorem n_L_setShare : yL_setShare.cls ≠ "java/lang/invoke/MethodHandle" ∧ yL_setShare.cls ≠ "java/lang/invoke/VarHandle" ∧ (parseMethodDescriptor yL_setShare.desc).map (fun d => d.parameters.length) = some 5 := by decide +kernel
theorem q_c_L_toss : Cond.codeWith yL_toss cL_toss 4 (some .int) [(0, 9, 12, 15)] ∈ lw_all := lw_in 357 (by decide +kernel) (by decide +kernel)
theorem q_st_L_toss : Cond.static yL_toss ∈ lw_all := lw_in 356 (by decide +kernel) (by decide +kernel)
theorem n_L_toss : yL_toss.cls ≠ "java/lang/invoke/MethodHandle" ∧ yL_toss.cls ≠ "java/lang/invoke/VarHandle" ∧ (parseMethodDescriptor yL_toss.desc).map (fun d => d.parameters.length) = some 3 := by decide +kernel
theorem q_c_L_undo : Cond.codeWith yL_undo cL_undo 3 (some .int) [(0, 15, 18, 15)] ∈ lw_all := lw_in 370 (by decide +kernel) (by decide +kernel)
theorem q_st_L_undo : Cond.static yL_undo ∈ lw_all := lw_in 369 (by decide +kernel) (by decide +kernel)
theorem n_L_undo : yL_undo.cls ≠ "java/lang/invoke/MethodHandle" ∧ yL_undo.cls ≠ "java/lang/invoke/VarHandle" ∧ (parseMethodDescriptor yL_undo.desc).map (fun d => d.parameters.length) = some 2 := by decide +kernel
theorem q_c_L_strike : Cond.codeWith yL_strike cL_strike 4 (some .int) [(0, 9, 12, 24)] ∈ lw_all := lw_in 378 (by decide +kernel) (by decide +kernel)
theorem q_st_L_strike : Cond.static yL_strike ∈ lw_all := lw_in 377 (by decide +kernel) (by decide +kernel)
theorem n_L_strike : yL_strike.cls ≠ "java/lang/invoke/MethodHandle" ∧ yL_strike.cls ≠ "java/lang/invoke/VarHandle" ∧ (parseMethodDescriptor yL_strike.desc).map (fun d => d.parameters.length) = some 3 := by decide +kernel
theorem q_c_L_isHeads : Cond.codeWith yL_isHeads cL_isHeads 4 (some .int) [(0, 16, 19, 24)] ∈ lw_all := lw_in 390 (by decide +kernel) (by decide +kernel)
theorem q_st_L_isHeads : Cond.static yL_isHeads ∈ lw_all := lw_in 389 (by decide +kernel) (by decide +kernel)
theorem n_L_isHeads : yL_isHeads.cls ≠ "java/lang/invoke/MethodHandle" ∧ yL_isHeads.cls ≠ "java/lang/invoke/VarHandle" ∧ (parseMethodDescriptor yL_isHeads.desc).map (fun d => d.parameters.length) = some 3 := by decide +kernel
theorem q_c_L_tenthsOf : Cond.codeWith yL_tenthsOf cL_tenthsOf 4 (some .int) [(0, 9, 12, 24)] ∈ lw_all := lw_in 397 (by decide +kernel) (by decide +kernel)
theorem q_st_L_tenthsOf : Cond.static yL_tenthsOf ∈ lw_all := lw_in 396 (by decide +kernel) (by decide +kernel)
theorem n_L_tenthsOf : yL_tenthsOf.cls ≠ "java/lang/invoke/MethodHandle" ∧ yL_tenthsOf.cls ≠ "java/lang/invoke/VarHandle" ∧ (parseMethodDescriptor yL_tenthsOf.desc).map (fun d => d.parameters.length) = some 3 := by decide +kernel
theorem q_c_L_oddsOf : Cond.codeWith yL_oddsOf cL_oddsOf 4 (some .int) [(0, 9, 12, 24)] ∈ lw_all := lw_in 404 (by decide +kernel) (by decide +kernel)
theorem q_st_L_oddsOf : Cond.static yL_oddsOf ∈ lw_all := lw_in 403 (by decide +kernel) (by decide +kernel)
theorem n_L_oddsOf : yL_oddsOf.cls ≠ "java/lang/invoke/MethodHandle" ∧ yL_oddsOf.cls ≠ "java/lang/invoke/VarHandle" ∧ (parseMethodDescriptor yL_oddsOf.desc).map (fun d => d.parameters.length) = some 3 := by decide +kernel
theorem q_c_L_shareOf : Cond.codeWith yL_shareOf cL_shareOf 5 (some .int) [(0, 10, 13, 24)] ∈ lw_all := lw_in 411 (by decide +kernel) (by decide +kernel)
theorem q_st_L_shareOf : Cond.static yL_shareOf ∈ lw_all := lw_in 410 (by decide +kernel) (by decide +kernel)
theorem n_L_shareOf : yL_shareOf.cls ≠ "java/lang/invoke/MethodHandle" ∧ yL_shareOf.cls ≠ "java/lang/invoke/VarHandle" ∧ (parseMethodDescriptor yL_shareOf.desc).map (fun d => d.parameters.length) = some 4 := by decide +kernel
theorem q_c_L_weightOf : Cond.codeWith yL_weightOf cL_weightOf 5 (some .int) [(0, 9, 12, 24)] ∈ lw_all := lw_in 418 (by decide +kernel) (by decide +kernel)
theorem q_st_L_weightOf : Cond.static yL_weightOf ∈ lw_all := lw_in 417 (by decide +kernel) (by decide +kernel)
theorem n_L_weightOf : yL_weightOf.cls ≠ "java/lang/invoke/MethodHandle" ∧ yL_weightOf.cls ≠ "java/lang/invoke/VarHandle" ∧ (parseMethodDescriptor yL_weightOf.desc).map (fun d => d.parameters.length) = some 4 := by decide +kernel
theorem q_c_L_coinWeight : Cond.codeWith yL_coinWeight cL_coinWeight 4 (some .int) [(0, 8, 11, 24)] ∈ lw_all := lw_in 425 (by decide +kernel) (by decide +kernel)
theorem q_st_L_coinWeight : Cond.static yL_coinWeight ∈ lw_all := lw_in 424 (by decide +kernel) (by decide +kernel)
theorem n_L_coinWeight : yL_coinWeight.cls ≠ "java/lang/invoke/MethodHandle" ∧ yL_coinWeight.cls ≠ "java/lang/invoke/VarHandle" ∧ (parseMethodDescriptor yL_coinWeight.desc).map (fun d => d.parameters.length) = some 3 := by decide +kernel
theorem q_c_L_schoolWeight : Cond.codeWith yL_schoolWeight cL_schoolWeight 4 (some .int) [(0, 8, 11, 24)] ∈ lw_all := lw_in 432 (by decide +kernel) (by decide +kernel)
theorem q_st_L_schoolWeight : Cond.static yL_schoolWeight ∈ lw_all := lw_in 431 (by decide +kernel) (by decide +kernel)
theorem n_L_schoolWeight : yL_schoolWeight.cls ≠ "java/lang/invoke/MethodHandle" ∧ yL_schoolWeight.cls ≠ "java/lang/invoke/VarHandle" ∧ (parseMethodDescriptor yL_schoolWeight.desc).map (fun d => d.parameters.length) = some 3 := by decide +kernel
theorem q_c_L_isRuledOut : Cond.codeWith yL_isRuledOut cL_isRuledOut 4 (some .int) [(0, 16, 19, 24)] ∈ lw_all := lw_in 439 (by decide +kernel) (by decide +kernel)
theorem q_st_L_isRuledOut : Cond.static yL_isRuledOut ∈ lw_all := lw_in 438 (by decide +kernel) (by decide +kernel)
theorem n_L_isRuledOut : yL_isRuledOut.cls ≠ "java/lang/invoke/MethodHandle" ∧ yL_isRuledOut.cls ≠ "java/lang/invoke/VarHandle" ∧ (parseMethodDescriptor yL_isRuledOut.desc).map (fun d => d.parameters.length) = some 3 := by decide +kernel
theorem q_c_L_coinPercent : Cond.codeWith yL_coinPercent cL_coinPercent 4 (some .int) [(0, 9, 12, 24), (0, 9, 15, 15)] ∈ lw_all := lw_in 446 (by decide +kernel) (by decide +kernel)
theorem q_st_L_coinPercent : Cond.static yL_coinPercent ∈ lw_all := lw_in 445 (by decide +kernel) (by decide +kernel)
theorem n_L_coinPercent : yL_coinPercent.cls ≠ "java/lang/invoke/MethodHandle" ∧ yL_coinPercent.cls ≠ "java/lang/invoke/VarHandle" ∧ (parseMethodDescriptor yL_coinPercent.desc).map (fun d => d.parameters.length) = some 3 := by decide +kernel
theorem q_c_L_schoolPercent : Cond.codeWith yL_schoolPercent cL_schoolPercent 4 (some .int) [(0, 9, 12, 24), (0, 9, 15, 15)] ∈ lw_all := lw_in 458 (by decide +kernel) (by decide +kernel)
theorem q_st_L_schoolPercent : Cond.static yL_schoolPercent ∈ lw_all := lw_in 457 (by decide +kernel) (by decide +kernel)
theorem n_L_schoolPercent : yL_schoolPercent.cls ≠ "java/lang/invoke/MethodHandle" ∧ yL_schoolPercent.cls ≠ "java/lang/invoke/VarHandle" ∧ (parseMethodDescriptor yL_schoolPercent.desc).map (fun d => d.parameters.length) = some 3 := by decide +kernel
theorem q_c_L_leadingCoin : Cond.codeWith yL_leadingCoin cL_leadingCoin 3 (some .int) [(0, 8, 11, 15)] ∈ lw_all := lw_in 465 (by decide +kernel) (by decide +kernel)
theorem q_st_L_leadingCoin : Cond.static yL_leadingCoin ∈ lw_all := lw_in 464 (by decide +kernel) (by decide +kernel)
theorem n_L_leadingCoin : yL_leadingCoin.cls ≠ "java/lang/invoke/MethodHandle" ∧ yL_leadingCoin.cls ≠ "java/lang/invoke/VarHandle" ∧ (parseMethodDescriptor yL_leadingCoin.desc).map (fun d => d.parameters.length) = some 2 := by decide +kernel
theorem q_c_L_leadingSchool : Cond.codeWith yL_leadingSchool cL_leadingSchool 3 (some .int) [(0, 8, 11, 15)] ∈ lw_all := lw_in 472 (by decide +kernel) (by decide +kernel)
theorem q_st_L_leadingSchool : Cond.static yL_leadingSchool ∈ lw_all := lw_in 471 (by decide +kernel) (by decide +kernel)
theorem n_L_leadingSchool : yL_leadingSchool.cls ≠ "java/lang/invoke/MethodHandle" ∧ yL_leadingSchool.cls ≠ "java/lang/invoke/VarHandle" ∧ (parseMethodDescriptor yL_leadingSchool.desc).map (fun d => d.parameters.length) = some 2 := by decide +kernel
theorem q_c_L_oddsAgainst : Cond.codeWith yL_oddsAgainst cL_oddsAgainst 5 (some .int) [(0, 9, 12, 24), (0, 9, 16, 15)] ∈ lw_all := lw_in 479 (by decide +kernel) (by decide +kernel)
theorem q_st_L_oddsAgainst : Cond.static yL_oddsAgainst ∈ lw_all := lw_in 478 (by decide +kernel) (by decide +kernel)
theorem n_L_oddsAgainst : yL_oddsAgainst.cls ≠ "java/lang/invoke/MethodHandle" ∧ yL_oddsAgainst.cls ≠ "java/lang/invoke/VarHandle" ∧ (parseMethodDescriptor yL_oddsAgainst.desc).map (fun d => d.parameters.length) = some 4 := by decide +kernel
theorem q_c_L_surpriseOf : Cond.codeWith yL_surpriseOf cL_surpriseOf 4 (some .int) [(0, 9, 12, 24)] ∈ lw_all := lw_in 487 (by decide +kernel) (by decide +kernel)
theorem q_st_L_surpriseOf : Cond.static yL_surpriseOf ∈ lw_all := lw_in 486 (by decide +kernel) (by decide +kernel)
theorem n_L_surpriseOf : yL_surpriseOf.cls ≠ "java/lang/invoke/MethodHandle" ∧ yL_surpriseOf.cls ≠ "java/lang/invoke/VarHandle" ∧ (parseMethodDescriptor yL_surpriseOf.desc).map (fun d => d.parameters.length) = some 3 := by decide +kernel
theorem q_c_L_headsPercent : Cond.codeWith yL_headsPercent cL_headsPercent 3 (some .int) [(0, 8, 11, 15)] ∈ lw_all := lw_in 494 (by decide +kernel) (by decide +kernel)
theorem q_st_L_headsPercent : Cond.static yL_headsPercent ∈ lw_all := lw_in 493 (by decide +kernel) (by decide +kernel)
theorem n_L_headsPercent : yL_headsPercent.cls ≠ "java/lang/invoke/MethodHandle" ∧ yL_headsPercent.cls ≠ "java/lang/invoke/VarHandle" ∧ (parseMethodDescriptor yL_headsPercent.desc).map (fun d => d.parameters.length) = some 2 := by decide +kernel
theorem q_c_L_wouldSurprise : Cond.codeWith yL_wouldSurprise cL_wouldSurprise 4 (some .int) [(0, 9, 12, 15)] ∈ lw_all := lw_in 501 (by decide +kernel) (by decide +kernel)
theorem q_st_L_wouldSurprise : Cond.static yL_wouldSurprise ∈ lw_all := lw_in 500 (by decide +kernel) (by decide +kernel)
theorem n_L_wouldSurprise : yL_wouldSurprise.cls ≠ "java/lang/invoke/MethodHandle" ∧ yL_wouldSurprise.cls ≠ "java/lang/invoke/VarHandle" ∧ (parseMethodDescriptor yL_wouldSurprise.desc).map (fun d => d.parameters.length) = some 3 := by decide +kernel
theorem q_c_L_leaderBehind : Cond.codeWith yL_leaderBehind cL_leaderBehind 4 (some .int) [(0, 9, 12, 15)] ∈ lw_all := lw_in 508 (by decide +kernel) (by decide +kernel)
theorem q_st_L_leaderBehind : Cond.static yL_leaderBehind ∈ lw_all := lw_in 507 (by decide +kernel) (by decide +kernel)
theorem n_L_leaderBehind : yL_leaderBehind.cls ≠ "java/lang/invoke/MethodHandle" ∧ yL_leaderBehind.cls ≠ "java/lang/invoke/VarHandle" ∧ (parseMethodDescriptor yL_leaderBehind.desc).map (fun d => d.parameters.length) = some 3 := by decide +kernel
theorem q_c_L_tossesToLead : Cond.codeWith yL_tossesToLead cL_tossesToLead 4 (some .int) [(0, 9, 12, 24)] ∈ lw_all := lw_in 515 (by decide +kernel) (by decide +kernel)
theorem q_st_L_tossesToLead : Cond.static yL_tossesToLead ∈ lw_all := lw_in 514 (by decide +kernel) (by decide +kernel)
theorem n_L_tossesToLead : yL_tossesToLead.cls ≠ "java/lang/invoke/MethodHandle" ∧ yL_tossesToLead.cls ≠ "java/lang/invoke/VarHandle" ∧ (parseMethodDescriptor yL_tossesToLead.desc).map (fun d => d.parameters.length) = some 3 := by decide +kernel
theorem q_c_L_meanTenths : Cond.codeWith yL_meanTenths cL_meanTenths 3 (some .int) [(0, 7, 10, 15)] ∈ lw_all := lw_in 519 (by decide +kernel) (by decide +kernel)
theorem q_st_L_meanTenths : Cond.static yL_meanTenths ∈ lw_all := lw_in 518 (by decide +kernel) (by decide +kernel)
theorem n_L_meanTenths : yL_meanTenths.cls ≠ "java/lang/invoke/MethodHandle" ∧ yL_meanTenths.cls ≠ "java/lang/invoke/VarHandle" ∧ (parseMethodDescriptor yL_meanTenths.desc).map (fun d => d.parameters.length) = some 2 := by decide +kernel
theorem q_cl_L_8 : Cond.classLink RL 8 "OddsLadder" ∈ lw_all := lw_in 57 (by decide +kernel) (by decide +kernel)
theorem q_ml_L_100 : Cond.methodLink RL 100 yX0_init ∈ lw_all := lw_in 59 (by decide +kernel) (by decide +kernel)
theorem q_cl_X0_16 : Cond.classLink RX0 16 "[[I" ∈ lw_all := lw_in 65 (by decide +kernel) (by decide +kernel)
theorem q_f_X0_9 : Cond.fieldLink RX0 9 "OddsLadder" "coinTenths" "[I" ∈ lw_all := lw_in 67 (by decide +kernel) (by decide +kernel)
theorem q_f_X0_13 : Cond.fieldLink RX0 13 "OddsLadder" "schoolOdds" "[I" ∈ lw_all := lw_in 68 (by decide +kernel) (by decide +kernel)
theorem q_f_X0_18 : Cond.fieldLink RX0 18 "OddsLadder" "shares" "[[I" ∈ lw_all := lw_in 69 (by decide +kernel) (by decide +kernel)
theorem q_f_X0_21 : Cond.fieldLink RX0 21 "OddsLadder" "tossHeads" "[Z" ∈ lw_all := lw_in 70 (by decide +kernel) (by decide +kernel)
theorem q_f_X0_25 : Cond.fieldLink RX0 25 "OddsLadder" "coinCount" "I" ∈ lw_all := lw_in 71 (by decide +kernel) (by decide +kernel)
theorem q_f_X0_29 : Cond.fieldLink RX0 29 "OddsLadder" "schoolCount" "I" ∈ lw_all := lw_in 72 (by decide +kernel) (by decide +kernel)
theorem q_f_X0_32 : Cond.fieldLink RX0 32 "OddsLadder" "tossCount" "I" ∈ lw_all := lw_in 73 (by decide +kernel) (by decide +kernel)
theorem q_ml_L_131 : Cond.methodLink RL 131 yX0_coins ∈ lw_all := lw_in 91 (by decide +kernel) (by decide +kernel)
theorem g_L_131 : GoodIn lw_all (wsV RL 131 RX0 yX0_coins (ws_ yX0_coins cX0_coins 1 (some .int))) := lw_V q_ml_L_131 q_im_X0_coins q_se_X0_coins q_in_X0 q_c_X0_coins
theorem q_ml_L_135 : Cond.methodLink RL 135 yX0_schools ∈ lw_all := lw_in 95 (by decide +kernel) (by decide +kernel)
theorem g_L_135 : GoodIn lw_all (wsV RL 135 RX0 yX0_schools (ws_ yX0_schools cX0_schools 1 (some .int))) := lw_V q_ml_L_135 q_im_X0_schools q_se_X0_schools q_in_X0 q_c_X0_schools
theorem q_ml_L_139 : Cond.methodLink RL 139 yX0_tosses ∈ lw_all := lw_in 99 (by decide +kernel) (by decide +kernel)
theorem g_L_139 : GoodIn lw_all (wsV RL 139 RX0 yX0_tosses (ws_ yX0_tosses cX0_tosses 1 (some .int))) := lw_V q_ml_L_139 q_im_X0_tosses q_se_X0_tosses q_in_X0 q_c_X0_tosses
theorem q_ml_L_143 : Cond.methodLink RL 143 yX0_heads ∈ lw_all := lw_in 103 (by decide +kernel) (by decide +kernel)
theorem g_L_143 : GoodIn lw_all (wsV RL 143 RX0 yX0_heads (ws_ yX0_heads cX0_heads 1 (some .int))) := lw_V q_ml_L_143 q_im_X0_heads q_se_X0_heads q_in_X0 q_c_X0_heads
theorem q_ml_X0_69 : Cond.methodLink RX0 69 yX0_headsNow ∈ lw_all := lw_in 107 (by decide +kernel) (by decide +kernel)
theorem g_X0_69 : GoodIn lw_all (wsV RX0 69 RX0 yX0_headsNow (ws_ yX0_headsNow cX0_headsNow 1 (some .int))) := lw_V q_ml_X0_69 q_im_X0_headsNow q_se_X0_headsNow q_in_X0 q_c_X0_headsNow
theorem q_ml_X0_177 : Cond.methodLink RX0 177 yX0_headsAhead ∈ lw_all := lw_in 111 (by decide +kernel) (by decide +kernel)
theorem g_X0_177 : GoodIn lw_all (wsV RX0 177 RX0 yX0_headsAhead (ws_ yX0_headsAhead cX0_headsAhead 4 (some .int))) := lw_V q_ml_X0_177 q_im_X0_headsAhead q_se_X0_headsAhead q_in_X0 q_c_X0_headsAhead
theorem q_ml_L_169 : Cond.methodLink RL 169 yX0_wholeWeight ∈ lw_all := lw_in 115 (by decide +kernel) (by decide +kernel)
theorem g_L_169 : GoodIn lw_all (wsV RL 169 RX0 yX0_wholeWeight (ws_ yX0_wholeWeight cX0_wholeWeight 1 (some .long))) := lw_V q_ml_L_169 q_im_X0_wholeWeight q_se_X0_wholeWeight q_in_X0 q_c_X0_wholeWeight
theorem q_ml_X0_100 : Cond.methodLink RX0 100 yX0_wholeNow ∈ lw_all := lw_in 119 (by decide +kernel) (by decide +kernel)
theorem g_X0_100 : GoodIn lw_all (wsV RX0 100 RX0 yX0_wholeNow (ws_ yX0_wholeNow cX0_wholeNow 1 (some .long))) := lw_V q_ml_X0_100 q_im_X0_wholeNow q_se_X0_wholeNow q_in_X0 q_c_X0_wholeNow
theorem q_ml_X0_73 : Cond.methodLink RX0 73 yX0_tailsNow ∈ lw_all := lw_in 123 (by decide +kernel) (by decide +kernel)
theorem g_X0_73 : GoodIn lw_all (wsV RX0 73 RX0 yX0_tailsNow (ws_ yX0_tailsNow cX0_tailsNow 1 (some .int))) := lw_V q_ml_X0_73 q_im_X0_tailsNow q_se_X0_tailsNow q_in_X0 q_c_X0_tailsNow
theorem q_ml_X0_180 : Cond.methodLink RX0 180 yX0_wholeAt ∈ lw_all := lw_in 127 (by decide +kernel) (by decide +kernel)
theorem g_X0_180 : GoodIn lw_all (wsV RX0 180 RX0 yX0_wholeAt (ws_ yX0_wholeAt cX0_wholeAt 6 (some .long))) := lw_V q_ml_X0_180 q_im_X0_wholeAt q_se_X0_wholeAt q_in_X0 q_c_X0_wholeAt
theorem q_ml_X0_93 : Cond.methodLink RX0 93 yX0_coinWeightAt ∈ lw_all := lw_in 131 (by decide +kernel) (by decide +kernel)
theorem g_X0_93 : GoodIn lw_all (wsV RX0 93 RX0 yX0_coinWeightAt (ws_ yX0_coinWeightAt cX0_coinWeightAt 7 (some .long))) := lw_V q_ml_X0_93 q_im_X0_coinWeightAt q_se_X0_coinWeightAt q_in_X0 q_c_X0_coinWeightAt
theorem q_ml_X0_85 : Cond.methodLink RX0 85 yX0_startWeight ∈ lw_all := lw_in 135 (by decide +kernel) (by decide +kernel)
theorem g_X0_85 : GoodIn lw_all (wsV RX0 85 RX0 yX0_startWeight (ws_ yX0_startWeight cX0_startWeight 3 (some .long))) := lw_V q_ml_X0_85 q_im_X0_startWeight q_se_X0_startWeight q_in_X0 q_c_X0_startWeight
theorem q_ml_X0_89 : Cond.methodLink RX0 89 yX0_likelihood ∈ lw_all := lw_in 139 (by decide +kernel) (by decide +kernel)
theorem g_X0_89 : GoodIn lw_all (wsV RX0 89 RX0 yX0_likelihood (ws_ yX0_likelihood cX0_likelihood 8 (some .long))) := lw_V q_ml_X0_89 q_im_X0_likelihood q_se_X0_likelihood q_in_X0 q_c_X0_likelihood
theorem q_ml_L_177 : Cond.methodLink RL 177 yX0_ruledOut ∈ lw_all := lw_in 143 (by decide +kernel) (by decide +kernel)
theorem g_L_177 : GoodIn lw_all (wsV RL 177 RX0 yX0_ruledOut (ws_ yX0_ruledOut cX0_ruledOut 5 (some .int))) := lw_V q_ml_L_177 q_im_X0_ruledOut q_se_X0_ruledOut q_in_X0 q_c_X0_ruledOut
theorem q_ml_L_199 : Cond.methodLink RL 199 yX0_allSurprise ∈ lw_all := lw_in 147 (by decide +kernel) (by decide +kernel)
theorem g_L_199 : GoodIn lw_all (wsV RL 199 RX0 yX0_allSurprise (ws_ yX0_allSurprise cX0_allSurprise 3 (some .int))) := lw_V q_ml_L_199 q_im_X0_allSurprise q_se_X0_allSurprise q_in_X0 q_c_X0_allSurprise
theorem q_ml_X0_116 : Cond.methodLink RX0 116 yX0_surpriseAt ∈ lw_all := lw_in 151 (by decide +kernel) (by decide +kernel)
theorem g_X0_116 : GoodIn lw_all (wsV RX0 116 RX0 yX0_surpriseAt (ws_ yX0_surpriseAt cX0_surpriseAt 3 (some .int))) := lw_V q_ml_X0_116 q_im_X0_surpriseAt q_se_X0_surpriseAt q_in_X0 q_c_X0_surpriseAt
theorem q_ml_X0_76 : Cond.methodLink RX0 76 yX0_surpriseBehind ∈ lw_all := lw_in 155 (by decide +kernel) (by decide +kernel)
theorem g_X0_76 : GoodIn lw_all (wsV RX0 76 RX0 yX0_surpriseBehind (ws_ yX0_surpriseBehind cX0_surpriseBehind 9 (some .int))) := lw_V q_ml_X0_76 q_im_X0_surpriseBehind q_se_X0_surpriseBehind q_in_X0 q_c_X0_surpriseBehind
theorem q_k_X0_185 : Cond.constantLong RX0 185 (lN 10) ∈ lw_all := lw_in 159 (by decide +kernel) (by decide +kernel)
theorem q_ml_X0_120 : Cond.methodLink RX0 120 yX0_chance ∈ lw_all := lw_in 160 (by decide +kernel) (by decide +kernel)
theorem g_X0_120 : GoodIn lw_all (wsV RX0 120 RX0 yX0_chance (ws_ yX0_chance cX0_chance 8 (some .long))) := lw_V q_ml_X0_120 q_im_X0_chance q_se_X0_chance q_in_X0 q_c_X0_chance
theorem q_k_X0_187 : Cond.constantLong RX0 187 (lN 2) ∈ lw_all := lw_in 164 (by decide +kernel) (by decide +kernel)
theorem q_ml_L_203 : Cond.methodLink RL 203 yX0_greatestSurprise ∈ lw_all := lw_in 165 (by decide +kernel) (by decide +kernel)
theorem g_L_203 : GoodIn lw_all (wsV RL 203 RX0 yX0_greatestSurprise (ws_ yX0_greatestSurprise cX0_greatestSurprise 5 (some .int))) := lw_V q_ml_L_203 q_im_X0_greatestSurprise q_se_X0_greatestSurprise q_in_X0 q_c_X0_greatestSurprise
theorem q_ml_L_219 : Cond.methodLink RL 219 yX0_decisiveTosses ∈ lw_all := lw_in 169 (by decide +kernel) (by decide +kernel)
theorem g_L_219 : GoodIn lw_all (wsV RL 219 RX0 yX0_decisiveTosses (ws_ yX0_decisiveTosses cX0_decisiveTosses 7 (some .int))) := lw_V q_ml_L_219 q_im_X0_decisiveTosses q_se_X0_decisiveTosses q_in_X0 q_c_X0_decisiveTosses
theorem q_ml_X0_108 : Cond.methodLink RX0 108 yX0_leaderAt ∈ lw_all := lw_in 173 (by decide +kernel) (by decide +kernel)
theorem g_X0_108 : GoodIn lw_all (wsV RX0 108 RX0 yX0_leaderAt (ws_ yX0_leaderAt cX0_leaderAt 9 (some .int))) := lw_V q_ml_X0_108 q_im_X0_leaderAt q_se_X0_leaderAt q_in_X0 q_c_X0_leaderAt
theorem q_ml_L_227 : Cond.methodLink RL 227 yX0_digest ∈ lw_all := lw_in 177 (by decide +kernel) (by decide +kernel)
theorem g_L_227 : GoodIn lw_all (wsV RL 227 RX0 yX0_digest (ws_ yX0_digest cX0_digest 3 (some .long))) := lw_V q_ml_L_227 q_im_X0_digest q_se_X0_digest q_in_X0 q_c_X0_digest
theorem q_k_X0_124 : Cond.constantLong RX0 124 (lN 1913) ∈ lw_all := lw_in 181 (by decide +kernel) (by decide +kernel)
theorem q_ml_X0_126 : Cond.methodLink RX0 126 yX0_coins ∈ lw_all := lw_in 182 (by decide +kernel) (by decide +kernel)
theorem g_X0_126 : GoodIn lw_all (wsV RX0 126 RX0 yX0_coins (ws_ yX0_coins cX0_coins 1 (some .int))) := lw_V q_ml_X0_126 q_im_X0_coins q_se_X0_coins q_in_X0 q_c_X0_coins
theorem q_ml_X0_129 : Cond.methodLink RX0 129 yX0_digestWith ∈ lw_all := lw_in 183 (by decide +kernel) (by decide +kernel)
theorem g_X0_129 : GoodIn lw_all (va_wsS RX0 129 yX0_digestWith (ws_ yX0_digestWith cX0_digestWith 4 (some .long))) := lw_S q_ml_X0_129 q_st_X0_digestWith q_in_X0 q_c_X0_digestWith
theorem q_k_X0_189 : Cond.constantLong RX0 189 (lN 31) ∈ lw_all := lw_in 186 (by decide +kernel) (by decide +kernel)
theorem q_ml_X0_133 : Cond.methodLink RX0 133 yX0_schools ∈ lw_all := lw_in 187 (by decide +kernel) (by decide +kernel)
theorem g_X0_133 : GoodIn lw_all (wsV RX0 133 RX0 yX0_schools (ws_ yX0_schools cX0_schools 1 (some .int))) := lw_V q_ml_X0_133 q_im_X0_schools q_se_X0_schools q_in_X0 q_c_X0_schools
theorem q_ml_X0_136 : Cond.methodLink RX0 136 yX0_tosses ∈ lw_all := lw_in 188 (by decide +kernel) (by decide +kernel)
theorem g_X0_136 : GoodIn lw_all (wsV RX0 136 RX0 yX0_tosses (ws_ yX0_tosses cX0_tosses 1 (some .int))) := lw_V q_ml_X0_136 q_im_X0_tosses q_se_X0_tosses q_in_X0 q_c_X0_tosses
theorem q_ml_X0_139 : Cond.methodLink RX0 139 yX0_heads ∈ lw_all := lw_in 189 (by decide +kernel) (by decide +kernel)
theorem g_X0_139 : GoodIn lw_all (wsV RX0 139 RX0 yX0_heads (ws_ yX0_heads cX0_heads 1 (some .int))) := lw_V q_ml_X0_139 q_im_X0_heads q_se_X0_heads q_in_X0 q_c_X0_heads
theorem q_ml_X0_142 : Cond.methodLink RX0 142 yX0_wholeWeight ∈ lw_all := lw_in 190 (by decide +kernel) (by decide +kernel)
theorem g_X0_142 : GoodIn lw_all (wsV RX0 142 RX0 yX0_wholeWeight (ws_ yX0_wholeWeight cX0_wholeWeight 1 (some .long))) := lw_V q_ml_X0_142 q_im_X0_wholeWeight q_se_X0_wholeWeight q_in_X0 q_c_X0_wholeWeight
theorem q_ml_X0_145 : Cond.methodLink RX0 145 yX0_ruledOut ∈ lw_all := lw_in 191 (by decide +kernel) (by decide +kernel)
theorem g_X0_145 : GoodIn lw_all (wsV RX0 145 RX0 yX0_ruledOut (ws_ yX0_ruledOut cX0_ruledOut 5 (some .int))) := lw_V q_ml_X0_145 q_im_X0_ruledOut q_se_X0_ruledOut q_in_X0 q_c_X0_ruledOut
theorem q_ml_X0_148 : Cond.methodLink RX0 148 yX0_allSurprise ∈ lw_all := lw_in 192 (by decide +kernel) (by decide +kernel)
theorem g_X0_148 : GoodIn lw_all (wsV RX0 148 RX0 yX0_allSurprise (ws_ yX0_allSurprise cX0_allSurprise 3 (some .int))) := lw_V q_ml_X0_148 q_im_X0_allSurprise q_se_X0_allSurprise q_in_X0 q_c_X0_allSurprise
theorem q_ml_X0_151 : Cond.methodLink RX0 151 yX0_decisiveTosses ∈ lw_all := lw_in 193 (by decide +kernel) (by decide +kernel)
theorem g_X0_151 : GoodIn lw_all (wsV RX0 151 RX0 yX0_decisiveTosses (ws_ yX0_decisiveTosses cX0_decisiveTosses 7 (some .int))) := lw_V q_ml_X0_151 q_im_X0_decisiveTosses q_se_X0_decisiveTosses q_in_X0 q_c_X0_decisiveTosses
theorem q_ml_X0_154 : Cond.methodLink RX0 154 yX0_digestWithCoins ∈ lw_all := lw_in 194 (by decide +kernel) (by decide +kernel)
theorem g_X0_154 : GoodIn lw_all (wsV RX0 154 RX0 yX0_digestWithCoins (ws_ yX0_digestWithCoins cX0_digestWithCoins 8 (some .long))) := lw_V q_ml_X0_154 q_im_X0_digestWithCoins q_se_X0_digestWithCoins q_in_X0 q_c_X0_digestWithCoins
theorem q_ml_X0_191 : Cond.methodLink RX0 191 yX0_tossesToLead ∈ lw_all := lw_in 198 (by decide +kernel) (by decide +kernel)
theorem g_X0_191 : GoodIn lw_all (wsV RX0 191 RX0 yX0_tossesToLead (ws_ yX0_tossesToLead cX0_tossesToLead 5 (some .int))) := lw_V q_ml_X0_191 q_im_X0_tossesToLead q_se_X0_tossesToLead q_in_X0 q_c_X0_tossesToLead
theorem q_ml_X0_58 : Cond.methodLink RX0 58 yX0_needCoin ∈ lw_all := lw_in 202 (by decide +kernel) (by decide +kernel)
theorem g_X0_58 : GoodIn lw_all (wsV RX0 58 RX0 yX0_needCoin (ws_ yX0_needCoin cX0_needCoin 2 none)) := lw_V q_ml_X0_58 q_im_X0_needCoin q_se_X0_needCoin q_in_X0 q_c_X0_needCoin
theorem q_cl_X0_164 : Cond.classLink RX0 164 "java/lang/IndexOutOfBoundsException" ∈ lw_all := lw_in 206 (by decide +kernel) (by decide +kernel)
theorem q_ml_X0_158 : Cond.methodLink RX0 158 yX0_digestWithSchools ∈ lw_all := lw_in 274 (by decide +kernel) (by decide +kernel)
theorem g_X0_158 : GoodIn lw_all (wsV RX0 158 RX0 yX0_digestWithSchools (ws_ yX0_digestWithSchools cX0_digestWithSchools 7 (some .long))) := lw_V q_ml_X0_158 q_im_X0_digestWithSchools q_se_X0_digestWithSchools q_in_X0 q_c_X0_digestWithSchools
theorem q_ml_X0_96 : Cond.methodLink RX0 96 yX0_schoolWeightNow ∈ lw_all := lw_in 278 (by decide +kernel) (by decide +kernel)
theorem g_X0_96 : GoodIn lw_all (wsV RX0 96 RX0 yX0_schoolWeightNow (ws_ yX0_schoolWeightNow cX0_schoolWeightNow 7 (some .long))) := lw_V q_ml_X0_96 q_im_X0_schoolWeightNow q_se_X0_schoolWeightNow q_in_X0 q_c_X0_schoolWeightNow
theorem q_ml_X0_161 : Cond.methodLink RX0 161 yX0_digestWithTosses ∈ lw_all := lw_in 282 (by decide +kernel) (by decide +kernel)
theorem g_X0_161 : GoodIn lw_all (wsV RX0 161 RX0 yX0_digestWithTosses (ws_ yX0_digestWithTosses cX0_digestWithTosses 6 (some .long))) := lw_V q_ml_X0_161 q_im_X0_digestWithTosses q_se_X0_digestWithTosses q_in_X0 q_c_X0_digestWithTosses
theorem q_ml_L_104 : Cond.methodLink RL 104 yL_addCoin ∈ lw_all := lw_in 286 (by decide +kernel) (by decide +kernel)
theorem g_L_104 : GoodIn lw_all (va_wsS RL 104 yL_addCoin (wh_ yL_addCoin cL_addCoin 4 (some .int) [(0, 9, 12, 13), (0, 9, 15, 15)])) := lw_S q_ml_L_104 q_st_L_addCoin q_in_L q_c_L_addCoin
theorem q_cl_L_13 : Cond.classLink RL 13 "java/lang/IllegalArgumentException" ∈ lw_all := lw_in 289 (by decide +kernel) (by decide +kernel)
theorem q_cl_L_15 : Cond.classLink RL 15 "java/lang/IllegalStateException" ∈ lw_all := lw_in 290 (by decide +kernel) (by decide +kernel)
theorem q_ml_L_7 : Cond.methodLink RL 7 yX0_addCoin ∈ lw_all := lw_in 291 (by decide +kernel) (by decide +kernel)
theorem g_L_7 : GoodIn lw_all (wsV RL 7 RX0 yX0_addCoin (ws_ yX0_addCoin cX0_addCoin 2 (some .int))) := lw_V q_ml_L_7 q_im_X0_addCoin q_se_X0_addCoin q_in_X0 q_c_X0_addCoin
theorem q_cl_X0_35 : Cond.classLink RX0 35 "java/lang/IllegalArgumentException" ∈ lw_all := lw_in 295 (by decide +kernel) (by decide +kernel)
theorem q_cl_X0_42 : Cond.classLink RX0 42 "java/lang/IllegalStateException" ∈ lw_all := lw_in 311 (by decide +kernel) (by decide +kernel)
theorem q_ml_X0_47 : Cond.methodLink RX0 47 yX0_needNoTosses ∈ lw_all := lw_in 327 (by decide +kernel) (by decide +kernel)
theorem g_X0_47 : GoodIn lw_all (wsV RX0 47 RX0 yX0_needNoTosses (ws_ yX0_needNoTosses cX0_needNoTosses 1 none)) := lw_V q_ml_X0_47 q_im_X0_needNoTosses q_se_X0_needNoTosses q_in_X0 q_c_X0_needNoTosses
theorem q_ml_L_113 : Cond.methodLink RL 113 yL_addSchool ∈ lw_all := lw_in 332 (by decide +kernel) (by decide +kernel)
theorem g_L_113 : GoodIn lw_all (va_wsS RL 113 yL_addSchool (wh_ yL_addSchool cL_addSchool 4 (some .int) [(0, 9, 12, 13), (0, 9, 15, 15)])) := lw_S q_ml_L_113 q_st_L_addSchool q_in_L q_c_L_addSchool
theorem q_ml_L_17 : Cond.methodLink RL 17 yX0_addSchool ∈ lw_all := lw_in 335 (by decide +kernel) (by decide +kernel)
theorem g_L_17 : GoodIn lw_all (wsV RL 17 RX0 yX0_addSchool (ws_ yX0_addSchool cX0_addSchool 2 (some .int))) := lw_V q_ml_L_17 q_im_X0_addSchool q_se_X0_addSchool q_in_X0 q_c_X0_addSchool
theorem q_ml_L_116 : Cond.methodLink RL 116 yL_setShare ∈ lw_all := lw_in 341 (by decide +kernel) (by decide +kernel)
theorem g_L_116 : GoodIn lw_all (va_wsS RL 116 yL_setShare (wh_ yL_setShare cL_setShare 6 (some .int) [(0, 12, 15, 24), (0, 12, 19, 13), (0, 12, 23, 15)])) := lw_S q_ml_L_116 q_st_L_setShare q_in_L q_c_L_setShare
theorem q_cl_L_24 : Cond.classLink RL 24 "java/lang/IndexOutOfBoundsException" ∈ lw_all := lw_in 344 (by decide +kernel) (by decide +kernel)
theorem q_ml_L_20 : Cond.methodLink RL 20 yX0_setShare ∈ lw_all := lw_in 345 (by decide +kernel) (by decide +kernel)
theorem g_L_20 : GoodIn lw_all (wsV RL 20 RX0 yX0_setShare (ws_ yX0_setShare cX0_setShare 5 (some .int))) := lw_V q_ml_L_20 q_im_X0_setShare q_se_X0_setShare q_in_X0 q_c_X0_setShare
theorem q_ml_X0_54 : Cond.methodLink RX0 54 yX0_needSchool ∈ lw_all := lw_in 349 (by decide +kernel) (by decide +kernel)
theorem g_X0_54 : GoodIn lw_all (wsV RX0 54 RX0 yX0_needSchool (ws_ yX0_needSchool cX0_needSchool 2 none)) := lw_V q_ml_X0_54 q_im_X0_needSchool q_se_X0_needSchool q_in_X0 q_c_X0_needSchool
theorem q_ml_L_120 : Cond.methodLink RL 120 yL_toss ∈ lw_all := lw_in 355 (by decide +kernel) (by decide +kernel)
theorem g_L_120 : GoodIn lw_all (va_wsS RL 120 yL_toss (wh_ yL_toss cL_toss 4 (some .int) [(0, 9, 12, 15)])) := lw_S q_ml_L_120 q_st_L_toss q_in_L q_c_L_toss
theorem q_ml_L_26 : Cond.methodLink RL 26 yX0_toss ∈ lw_all := lw_in 358 (by decide +kernel) (by decide +kernel)
theorem g_L_26 : GoodIn lw_all (wsV RL 26 RX0 yX0_toss (ws_ yX0_toss cX0_toss 3 (some .int))) := lw_V q_ml_L_26 q_im_X0_toss q_se_X0_toss q_in_X0 q_c_X0_toss
theorem q_ml_X0_65 : Cond.methodLink RX0 65 yX0_needPossible ∈ lw_all := lw_in 363 (by decide +kernel) (by decide +kernel)
theorem g_X0_65 : GoodIn lw_all (wsV RX0 65 RX0 yX0_needPossible (ws_ yX0_needPossible cX0_needPossible 2 none)) := lw_V q_ml_X0_65 q_im_X0_needPossible q_se_X0_needPossible q_in_X0 q_c_X0_needPossible
theorem q_ml_L_124 : Cond.methodLink RL 124 yL_undo ∈ lw_all := lw_in 368 (by decide +kernel) (by decide +kernel)
theorem g_L_124 : GoodIn lw_all (va_wsS RL 124 yL_undo (wh_ yL_undo cL_undo 3 (some .int) [(0, 15, 18, 15)])) := lw_S q_ml_L_124 q_st_L_undo q_in_L q_c_L_undo
theorem q_ml_L_30 : Cond.methodLink RL 30 yX0_undo ∈ lw_all := lw_in 371 (by decide +kernel) (by decide +kernel)
theorem g_L_30 : GoodIn lw_all (wsV RL 30 RX0 yX0_undo (ws_ yX0_undo cX0_undo 1 (some .boolean))) := lw_V q_ml_L_30 q_im_X0_undo q_se_X0_undo q_in_X0 q_c_X0_undo
theorem q_ml_L_128 : Cond.methodLink RL 128 yL_strike ∈ lw_all := lw_in 376 (by decide +kernel) (by decide +kernel)
theorem g_L_128 : GoodIn lw_all (va_wsS RL 128 yL_strike (wh_ yL_strike cL_strike 4 (some .int) [(0, 9, 12, 24)])) := lw_S q_ml_L_128 q_st_L_strike q_in_L q_c_L_strike
theorem q_ml_L_34 : Cond.methodLink RL 34 yX0_strike ∈ lw_all := lw_in 379 (by decide +kernel) (by decide +kernel)
theorem g_L_34 : GoodIn lw_all (wsV RL 34 RX0 yX0_strike (ws_ yX0_strike cX0_strike 3 (some .int))) := lw_V q_ml_L_34 q_im_X0_strike q_se_X0_strike q_in_X0 q_c_X0_strike
theorem q_ml_X0_82 : Cond.methodLink RX0 82 yX0_needToss ∈ lw_all := lw_in 383 (by decide +kernel) (by decide +kernel)
theorem g_X0_82 : GoodIn lw_all (wsV RX0 82 RX0 yX0_needToss (ws_ yX0_needToss cX0_needToss 2 none)) := lw_V q_ml_X0_82 q_im_X0_needToss q_se_X0_needToss q_in_X0 q_c_X0_needToss
theorem q_ml_L_147 : Cond.methodLink RL 147 yL_isHeads ∈ lw_all := lw_in 388 (by decide +kernel) (by decide +kernel)
theorem g_L_147 : GoodIn lw_all (va_wsS RL 147 yL_isHeads (wh_ yL_isHeads cL_isHeads 4 (some .int) [(0, 16, 19, 24)])) := lw_S q_ml_L_147 q_st_L_isHeads q_in_L q_c_L_isHeads
theorem q_ml_L_37 : Cond.methodLink RL 37 yX0_isHeads ∈ lw_all := lw_in 391 (by decide +kernel) (by decide +kernel)
theorem g_L_37 : GoodIn lw_all (wsV RL 37 RX0 yX0_isHeads (ws_ yX0_isHeads cX0_isHeads 2 (some .boolean))) := lw_V q_ml_L_37 q_im_X0_isHeads q_se_X0_isHeads q_in_X0 q_c_X0_isHeads
theorem q_ml_L_150 : Cond.methodLink RL 150 yL_tenthsOf ∈ lw_all := lw_in 395 (by decide +kernel) (by decide +kernel)
theorem g_L_150 : GoodIn lw_all (va_wsS RL 150 yL_tenthsOf (wh_ yL_tenthsOf cL_tenthsOf 4 (some .int) [(0, 9, 12, 24)])) := lw_S q_ml_L_150 q_st_L_tenthsOf q_in_L q_c_L_tenthsOf
theorem q_ml_L_41 : Cond.methodLink RL 41 yX0_tenthsOf ∈ lw_all := lw_in 398 (by decide +kernel) (by decide +kernel)
theorem g_L_41 : GoodIn lw_all (wsV RL 41 RX0 yX0_tenthsOf (ws_ yX0_tenthsOf cX0_tenthsOf 2 (some .int))) := lw_V q_ml_L_41 q_im_X0_tenthsOf q_se_X0_tenthsOf q_in_X0 q_c_X0_tenthsOf
theorem q_ml_L_153 : Cond.methodLink RL 153 yL_oddsOf ∈ lw_all := lw_in 402 (by decide +kernel) (by decide +kernel)
theorem g_L_153 : GoodIn lw_all (va_wsS RL 153 yL_oddsOf (wh_ yL_oddsOf cL_oddsOf 4 (some .int) [(0, 9, 12, 24)])) := lw_S q_ml_L_153 q_st_L_oddsOf q_in_L q_c_L_oddsOf
theorem q_ml_L_44 : Cond.methodLink RL 44 yX0_oddsOf ∈ lw_all := lw_in 405 (by decide +kernel) (by decide +kernel)
theorem g_L_44 : GoodIn lw_all (wsV RL 44 RX0 yX0_oddsOf (ws_ yX0_oddsOf cX0_oddsOf 2 (some .int))) := lw_V q_ml_L_44 q_im_X0_oddsOf q_se_X0_oddsOf q_in_X0 q_c_X0_oddsOf
theorem q_ml_L_156 : Cond.methodLink RL 156 yL_shareOf ∈ lw_all := lw_in 409 (by decide +kernel) (by decide +kernel)
theorem g_L_156 : GoodIn lw_all (va_wsS RL 156 yL_shareOf (wh_ yL_shareOf cL_shareOf 5 (some .int) [(0, 10, 13, 24)])) := lw_S q_ml_L_156 q_st_L_shareOf q_in_L q_c_L_shareOf
theorem q_ml_L_47 : Cond.methodLink RL 47 yX0_shareOf ∈ lw_all := lw_in 412 (by decide +kernel) (by decide +kernel)
theorem g_L_47 : GoodIn lw_all (wsV RL 47 RX0 yX0_shareOf (ws_ yX0_shareOf cX0_shareOf 3 (some .int))) := lw_V q_ml_L_47 q_im_X0_shareOf q_se_X0_shareOf q_in_X0 q_c_X0_shareOf
theorem q_ml_L_160 : Cond.methodLink RL 160 yL_weightOf ∈ lw_all := lw_in 416 (by decide +kernel) (by decide +kernel)
theorem g_L_160 : GoodIn lw_all (va_wsS RL 160 yL_weightOf (wh_ yL_weightOf cL_weightOf 5 (some .int) [(0, 9, 12, 24)])) := lw_S q_ml_L_160 q_st_L_weightOf q_in_L q_c_L_weightOf
theorem q_ml_L_51 : Cond.methodLink RL 51 yX0_weightOf ∈ lw_all := lw_in 419 (by decide +kernel) (by decide +kernel)
theorem g_L_51 : GoodIn lw_all (wsV RL 51 RX0 yX0_weightOf (ws_ yX0_weightOf cX0_weightOf 3 (some .long))) := lw_V q_ml_L_51 q_im_X0_weightOf q_se_X0_weightOf q_in_X0 q_c_X0_weightOf
theorem q_ml_L_163 : Cond.methodLink RL 163 yL_coinWeight ∈ lw_all := lw_in 423 (by decide +kernel) (by decide +kernel)
theorem g_L_163 : GoodIn lw_all (va_wsS RL 163 yL_coinWeight (wh_ yL_coinWeight cL_coinWeight 4 (some .int) [(0, 8, 11, 24)])) := lw_S q_ml_L_163 q_st_L_coinWeight q_in_L q_c_L_coinWeight
theorem q_ml_L_55 : Cond.methodLink RL 55 yX0_coinWeight ∈ lw_all := lw_in 426 (by decide +kernel) (by decide +kernel)
theorem g_L_55 : GoodIn lw_all (wsV RL 55 RX0 yX0_coinWeight (ws_ yX0_coinWeight cX0_coinWeight 2 (some .long))) := lw_V q_ml_L_55 q_im_X0_coinWeight q_se_X0_coinWeight q_in_X0 q_c_X0_coinWeight
theorem q_ml_L_166 : Cond.methodLink RL 166 yL_schoolWeight ∈ lw_all := lw_in 430 (by decide +kernel) (by decide +kernel)
theorem g_L_166 : GoodIn lw_all (va_wsS RL 166 yL_schoolWeight (wh_ yL_schoolWeight cL_schoolWeight 4 (some .int) [(0, 8, 11, 24)])) := lw_S q_ml_L_166 q_st_L_schoolWeight q_in_L q_c_L_schoolWeight
theorem q_ml_L_59 : Cond.methodLink RL 59 yX0_schoolWeight ∈ lw_all := lw_in 433 (by decide +kernel) (by decide +kernel)
theorem g_L_59 : GoodIn lw_all (wsV RL 59 RX0 yX0_schoolWeight (ws_ yX0_schoolWeight cX0_schoolWeight 2 (some .long))) := lw_V q_ml_L_59 q_im_X0_schoolWeight q_se_X0_schoolWeight q_in_X0 q_c_X0_schoolWeight
theorem q_ml_L_174 : Cond.methodLink RL 174 yL_isRuledOut ∈ lw_all := lw_in 437 (by decide +kernel) (by decide +kernel)
theorem g_L_174 : GoodIn lw_all (va_wsS RL 174 yL_isRuledOut (wh_ yL_isRuledOut cL_isRuledOut 4 (some .int) [(0, 16, 19, 24)])) := lw_S q_ml_L_174 q_st_L_isRuledOut q_in_L q_c_L_isRuledOut
theorem q_ml_L_62 : Cond.methodLink RL 62 yX0_isRuledOut ∈ lw_all := lw_in 440 (by decide +kernel) (by decide +kernel)
theorem g_L_62 : GoodIn lw_all (wsV RL 62 RX0 yX0_isRuledOut (ws_ yX0_isRuledOut cX0_isRuledOut 2 (some .boolean))) := lw_V q_ml_L_62 q_im_X0_isRuledOut q_se_X0_isRuledOut q_in_X0 q_c_X0_isRuledOut
theorem q_ml_L_181 : Cond.methodLink RL 181 yL_coinPercent ∈ lw_all := lw_in 444 (by decide +kernel) (by decide +kernel)
theorem g_L_181 : GoodIn lw_all (va_wsS RL 181 yL_coinPercent (wh_ yL_coinPercent cL_coinPercent 4 (some .int) [(0, 9, 12, 24), (0, 9, 15, 15)])) := lw_S q_ml_L_181 q_st_L_coinPercent q_in_L q_c_L_coinPercent
theorem q_ml_L_65 : Cond.methodLink RL 65 yX0_coinPercent ∈ lw_all := lw_in 447 (by decide +kernel) (by decide +kernel)
theorem g_L_65 : GoodIn lw_all (wsV RL 65 RX0 yX0_coinPercent (ws_ yX0_coinPercent cX0_coinPercent 2 (some .int))) := lw_V q_ml_L_65 q_im_X0_coinPercent q_se_X0_coinPercent q_in_X0 q_c_X0_coinPercent
theorem q_ml_X0_104 : Cond.methodLink RX0 104 yX0_percent ∈ lw_all := lw_in 451 (by decide +kernel) (by decide +kernel)
theorem g_X0_104 : GoodIn lw_all (va_wsS RX0 104 yX0_percent (ws_ yX0_percent cX0_percent 4 (some .int))) := lw_S q_ml_X0_104 q_st_X0_percent q_in_X0 q_c_X0_percent
theorem q_k_X0_183 : Cond.constantLong RX0 183 (lN 100) ∈ lw_all := lw_in 455 (by decide +kernel) (by decide +kernel)
theorem q_ml_L_184 : Cond.methodLink RL 184 yL_schoolPercent ∈ lw_all := lw_in 456 (by decide +kernel) (by decide +kernel)
theorem g_L_184 : GoodIn lw_all (va_wsS RL 184 yL_schoolPercent (wh_ yL_schoolPercent cL_schoolPercent 4 (some .int) [(0, 9, 12, 24), (0, 9, 15, 15)])) := lw_S q_ml_L_184 q_st_L_schoolPercent q_in_L q_c_L_schoolPercent
theorem q_ml_L_68 : Cond.methodLink RL 68 yX0_schoolPercent ∈ lw_all := lw_in 459 (by decide +kernel) (by decide +kernel)
theorem g_L_68 : GoodIn lw_all (wsV RL 68 RX0 yX0_schoolPercent (ws_ yX0_schoolPercent cX0_schoolPercent 2 (some .int))) := lw_V q_ml_L_68 q_im_X0_schoolPercent q_se_X0_schoolPercent q_in_X0 q_c_X0_schoolPercent
theorem q_ml_L_187 : Cond.methodLink RL 187 yL_leadingCoin ∈ lw_all := lw_in 463 (by decide +kernel) (by decide +kernel)
theorem g_L_187 : GoodIn lw_all (va_wsS RL 187 yL_leadingCoin (wh_ yL_leadingCoin cL_leadingCoin 3 (some .int) [(0, 8, 11, 15)])) := lw_S q_ml_L_187 q_st_L_leadingCoin q_in_L q_c_L_leadingCoin
theorem q_ml_L_71 : Cond.methodLink RL 71 yX0_leadingCoin ∈ lw_all := lw_in 466 (by decide +kernel) (by decide +kernel)
theorem g_L_71 : GoodIn lw_all (wsV RL 71 RX0 yX0_leadingCoin (ws_ yX0_leadingCoin cX0_leadingCoin 2 (some .int))) := lw_V q_ml_L_71 q_im_X0_leadingCoin q_se_X0_leadingCoin q_in_X0 q_c_X0_leadingCoin
theorem q_ml_L_190 : Cond.methodLink RL 190 yL_leadingSchool ∈ lw_all := lw_in 470 (by decide +kernel) (by decide +kernel)
theorem g_L_190 : GoodIn lw_all (va_wsS RL 190 yL_leadingSchool (wh_ yL_leadingSchool cL_leadingSchool 3 (some .int) [(0, 8, 11, 15)])) := lw_S q_ml_L_190 q_st_L_leadingSchool q_in_L q_c_L_leadingSchool
theorem q_ml_L_75 : Cond.methodLink RL 75 yX0_leadingSchool ∈ lw_all := lw_in 473 (by decide +kernel) (by decide +kernel)
theorem g_L_75 : GoodIn lw_all (wsV RL 75 RX0 yX0_leadingSchool (ws_ yX0_leadingSchool cX0_leadingSchool 7 (some .int))) := lw_V q_ml_L_75 q_im_X0_leadingSchool q_se_X0_leadingSchool q_in_X0 q_c_X0_leadingSchool
theorem q_ml_L_193 : Cond.methodLink RL 193 yL_oddsAgainst ∈ lw_all := lw_in 477 (by decide +kernel) (by decide +kernel)
theorem g_L_193 : GoodIn lw_all (va_wsS RL 193 yL_oddsAgainst (wh_ yL_oddsAgainst cL_oddsAgainst 5 (some .int) [(0, 9, 12, 24), (0, 9, 16, 15)])) := lw_S q_ml_L_193 q_st_L_oddsAgainst q_in_L q_c_L_oddsAgainst
theorem q_ml_L_78 : Cond.methodLink RL 78 yX0_oddsAgainst ∈ lw_all := lw_in 480 (by decide +kernel) (by decide +kernel)
theorem g_L_78 : GoodIn lw_all (wsV RL 78 RX0 yX0_oddsAgainst (ws_ yX0_oddsAgainst cX0_oddsAgainst 7 (some .long))) := lw_V q_ml_L_78 q_im_X0_oddsAgainst q_se_X0_oddsAgainst q_in_X0 q_c_X0_oddsAgainst
theorem q_ml_L_196 : Cond.methodLink RL 196 yL_surpriseOf ∈ lw_all := lw_in 485 (by decide +kernel) (by decide +kernel)
theorem g_L_196 : GoodIn lw_all (va_wsS RL 196 yL_surpriseOf (wh_ yL_surpriseOf cL_surpriseOf 4 (some .int) [(0, 9, 12, 24)])) := lw_S q_ml_L_196 q_st_L_surpriseOf q_in_L q_c_L_surpriseOf
theorem q_ml_L_81 : Cond.methodLink RL 81 yX0_surpriseOf ∈ lw_all := lw_in 488 (by decide +kernel) (by decide +kernel)
theorem g_L_81 : GoodIn lw_all (wsV RL 81 RX0 yX0_surpriseOf (ws_ yX0_surpriseOf cX0_surpriseOf 2 (some .int))) := lw_V q_ml_L_81 q_im_X0_surpriseOf q_se_X0_surpriseOf q_in_X0 q_c_X0_surpriseOf
theorem q_ml_L_207 : Cond.methodLink RL 207 yL_headsPercent ∈ lw_all := lw_in 492 (by decide +kernel) (by decide +kernel)
theorem g_L_207 : GoodIn lw_all (va_wsS RL 207 yL_headsPercent (wh_ yL_headsPercent cL_headsPercent 3 (some .int) [(0, 8, 11, 15)])) := lw_S q_ml_L_207 q_st_L_headsPercent q_in_L q_c_L_headsPercent
theorem q_ml_L_84 : Cond.methodLink RL 84 yX0_headsPercent ∈ lw_all := lw_in 495 (by decide +kernel) (by decide +kernel)
theorem g_L_84 : GoodIn lw_all (wsV RL 84 RX0 yX0_headsPercent (ws_ yX0_headsPercent cX0_headsPercent 5 (some .int))) := lw_V q_ml_L_84 q_im_X0_headsPercent q_se_X0_headsPercent q_in_X0 q_c_X0_headsPercent
theorem q_ml_L_210 : Cond.methodLink RL 210 yL_wouldSurprise ∈ lw_all := lw_in 499 (by decide +kernel) (by decide +kernel)
theorem g_L_210 : GoodIn lw_all (va_wsS RL 210 yL_wouldSurprise (wh_ yL_wouldSurprise cL_wouldSurprise 4 (some .int) [(0, 9, 12, 15)])) := lw_S q_ml_L_210 q_st_L_wouldSurprise q_in_L q_c_L_wouldSurprise
theorem q_ml_L_87 : Cond.methodLink RL 87 yX0_wouldSurprise ∈ lw_all := lw_in 502 (by decide +kernel) (by decide +kernel)
theorem g_L_87 : GoodIn lw_all (wsV RL 87 RX0 yX0_wouldSurprise (ws_ yX0_wouldSurprise cX0_wouldSurprise 2 (some .int))) := lw_V q_ml_L_87 q_im_X0_wouldSurprise q_se_X0_wouldSurprise q_in_X0 q_c_X0_wouldSurprise
theorem q_ml_L_213 : Cond.methodLink RL 213 yL_leaderBehind ∈ lw_all := lw_in 506 (by decide +kernel) (by decide +kernel)
theorem g_L_213 : GoodIn lw_all (va_wsS RL 213 yL_leaderBehind (wh_ yL_leaderBehind cL_leaderBehind 4 (some .int) [(0, 9, 12, 15)])) := lw_S q_ml_L_213 q_st_L_leaderBehind q_in_L q_c_L_leaderBehind
theorem q_ml_L_90 : Cond.methodLink RL 90 yX0_leaderBehind ∈ lw_all := lw_in 509 (by decide +kernel) (by decide +kernel)
theorem g_L_90 : GoodIn lw_all (wsV RL 90 RX0 yX0_leaderBehind (ws_ yX0_leaderBehind cX0_leaderBehind 2 (some .int))) := lw_V q_ml_L_90 q_im_X0_leaderBehind q_se_X0_leaderBehind q_in_X0 q_c_X0_leaderBehind
theorem q_ml_L_216 : Cond.methodLink RL 216 yL_tossesToLead ∈ lw_all := lw_in 513 (by decide +kernel) (by decide +kernel)
theorem g_L_216 : GoodIn lw_all (va_wsS RL 216 yL_tossesToLead (wh_ yL_tossesToLead cL_tossesToLead 4 (some .int) [(0, 9, 12, 24)])) := lw_S q_ml_L_216 q_st_L_tossesToLead q_in_L q_c_L_tossesToLead
theorem q_ml_L_93 : Cond.methodLink RL 93 yX0_tossesToLead ∈ lw_all := lw_in 516 (by decide +kernel) (by decide +kernel)
theorem g_L_93 : GoodIn lw_all (wsV RL 93 RX0 yX0_tossesToLead (ws_ yX0_tossesToLead cX0_tossesToLead 5 (some .int))) := lw_V q_ml_L_93 q_im_X0_tossesToLead q_se_X0_tossesToLead q_in_X0 q_c_X0_tossesToLead
theorem q_ml_L_223 : Cond.methodLink RL 223 yL_meanTenths ∈ lw_all := lw_in 517 (by decide +kernel) (by decide +kernel)
theorem g_L_223 : GoodIn lw_all (va_wsS RL 223 yL_meanTenths (wh_ yL_meanTenths cL_meanTenths 3 (some .int) [(0, 7, 10, 15)])) := lw_S q_ml_L_223 q_st_L_meanTenths q_in_L q_c_L_meanTenths
theorem q_ml_L_96 : Cond.methodLink RL 96 yX0_meanTenths ∈ lw_all := lw_in 520 (by decide +kernel) (by decide +kernel)
theorem g_L_96 : GoodIn lw_all (wsV RL 96 RX0 yX0_meanTenths (ws_ yX0_meanTenths cX0_meanTenths 3 (some .double))) := lw_V q_ml_L_96 q_im_X0_meanTenths q_se_X0_meanTenths q_in_X0 q_c_X0_meanTenths
theorem q_cl_L_101 : Cond.classLink RL 101 "OddsLadderModel" ∈ lw_all := lw_in 524 (by decide +kernel) (by decide +kernel)
theorem q_ml_L_103 : Cond.methodLink RL 103 yX1_init ∈ lw_all := lw_in 526 (by decide +kernel) (by decide +kernel)
theorem q_f_X1_19 : Cond.fieldLink RX1 19 "OddsLadderModel" "thrown" "I" ∈ lw_all := lw_in 530 (by decide +kernel) (by decide +kernel)
theorem q_f_X1_23 : Cond.fieldLink RX1 23 "OddsLadderModel" "coins" "I" ∈ lw_all := lw_in 531 (by decide +kernel) (by decide +kernel)
theorem q_f_X1_30 : Cond.fieldLink RX1 30 "OddsLadderModel" "schools" "I" ∈ lw_all := lw_in 532 (by decide +kernel) (by decide +kernel)
theorem q_f_X1_33 : Cond.fieldLink RX1 33 "OddsLadderModel" "tosses" "I" ∈ lw_all := lw_in 533 (by decide +kernel) (by decide +kernel)
theorem q_f_X1_36 : Cond.fieldLink RX1 36 "OddsLadderModel" "row" "I" ∈ lw_all := lw_in 534 (by decide +kernel) (by decide +kernel)
theorem q_f_X1_9 : Cond.fieldLink RX1 9 "OddsLadderModel" "tenths" "[I" ∈ lw_all := lw_in 535 (by decide +kernel) (by decide +kernel)
theorem q_f_X1_13 : Cond.fieldLink RX1 13 "OddsLadderModel" "odds" "[I" ∈ lw_all := lw_in 536 (by decide +kernel) (by decide +kernel)
theorem q_f_X1_16 : Cond.fieldLink RX1 16 "OddsLadderModel" "share" "[I" ∈ lw_all := lw_in 537 (by decide +kernel) (by decide +kernel)
theorem q_ml_L_110 : Cond.methodLink RL 110 yX1_thrown ∈ lw_all := lw_in 555 (by decide +kernel) (by decide +kernel)
theorem g_L_110 : GoodIn lw_all (wsV RL 110 RX1 yX1_thrown (ws_ yX1_thrown cX1_thrown 1 (some .int))) := lw_V q_ml_L_110 q_im_X1_thrown q_se_X1_thrown q_in_X1 q_c_X1_thrown
theorem q_ml_L_109 : Cond.methodLink RL 109 yX1_addCoin ∈ lw_all := lw_in 559 (by decide +kernel) (by decide +kernel)
theorem g_L_109 : GoodIn lw_all (wsV RL 109 RX1 yX1_addCoin (ws_ yX1_addCoin cX1_addCoin 3 (some .int))) := lw_V q_ml_L_109 q_im_X1_addCoin q_se_X1_addCoin q_in_X1 q_c_X1_addCoin
theorem q_ml_X1_26 : Cond.methodLink RX1 26 yX1_isIn ∈ lw_all := lw_in 563 (by decide +kernel) (by decide +kernel)
theorem g_X1_26 : GoodIn lw_all (va_wsS RX1 26 yX1_isIn (ws_ yX1_isIn cX1_isIn 3 (some .boolean))) := lw_S q_ml_X1_26 q_st_X1_isIn q_in_X1 q_c_X1_isIn
theorem q_ml_X1_73 : Cond.methodLink RX1 73 yX1_fail ∈ lw_all := lw_in 566 (by decide +kernel) (by decide +kernel)
theorem g_X1_73 : GoodIn lw_all (wsV RX1 73 RX1 yX1_fail (ws_ yX1_fail cX1_fail 2 (some .int))) := lw_V q_ml_X1_73 q_im_X1_fail q_se_X1_fail q_in_X1 q_c_X1_fail
theorem q_ml_L_115 : Cond.methodLink RL 115 yX1_addSchool ∈ lw_all := lw_in 570 (by decide +kernel) (by decide +kernel)
theorem g_L_115 : GoodIn lw_all (wsV RL 115 RX1 yX1_addSchool (ws_ yX1_addSchool cX1_addSchool 3 (some .int))) := lw_V q_ml_L_115 q_im_X1_addSchool q_se_X1_addSchool q_in_X1 q_c_X1_addSchool
theorem q_ml_L_119 : Cond.methodLink RL 119 yX1_setShare ∈ lw_all := lw_in 574 (by decide +kernel) (by decide +kernel)
theorem g_L_119 : GoodIn lw_all (wsV RL 119 RX1 yX1_setShare (ws_ yX1_setShare cX1_setShare 5 (some .int))) := lw_V q_ml_L_119 q_im_X1_setShare q_se_X1_setShare q_in_X1 q_c_X1_setShare
theorem q_ml_X1_76 : Cond.methodLink RX1 76 yX1_isSchool ∈ lw_all := lw_in 578 (by decide +kernel) (by decide +kernel)
theorem g_X1_76 : GoodIn lw_all (wsV RX1 76 RX1 yX1_isSchool (ws_ yX1_isSchool cX1_isSchool 2 (some .boolean))) := lw_V q_ml_X1_76 q_im_X1_isSchool q_se_X1_isSchool q_in_X1 q_c_X1_isSchool
theorem q_ml_X1_80 : Cond.methodLink RX1 80 yX1_isCoin ∈ lw_all := lw_in 582 (by decide +kernel) (by decide +kernel)
theorem g_X1_80 : GoodIn lw_all (wsV RX1 80 RX1 yX1_isCoin (ws_ yX1_isCoin cX1_isCoin 2 (some .boolean))) := lw_V q_ml_X1_80 q_im_X1_isCoin q_se_X1_isCoin q_in_X1 q_c_X1_isCoin
theorem q_ml_L_123 : Cond.methodLink RL 123 yX1_toss ∈ lw_all := lw_in 586 (by decide +kernel) (by decide +kernel)
theorem g_L_123 : GoodIn lw_all (wsV RL 123 RX1 yX1_toss (ws_ yX1_toss cX1_toss 3 (some .int))) := lw_V q_ml_L_123 q_im_X1_toss q_se_X1_toss q_in_X1 q_c_X1_toss
theorem q_ml_X1_83 : Cond.methodLink RX1 83 yX1_canBe ∈ lw_all := lw_in 590 (by decide +kernel) (by decide +kernel)
theorem g_X1_83 : GoodIn lw_all (wsV RX1 83 RX1 yX1_canBe (ws_ yX1_canBe cX1_canBe 2 (some .boolean))) := lw_V q_ml_X1_83 q_im_X1_canBe q_se_X1_canBe q_in_X1 q_c_X1_canBe
theorem q_ml_X1_69 : Cond.methodLink RX1 69 yX1_headsNow ∈ lw_all := lw_in 594 (by decide +kernel) (by decide +kernel)
theorem g_X1_69 : GoodIn lw_all (wsV RX1 69 RX1 yX1_headsNow (ws_ yX1_headsNow cX1_headsNow 1 (some .int))) := lw_V q_ml_X1_69 q_im_X1_headsNow q_se_X1_headsNow q_in_X1 q_c_X1_headsNow
theorem q_ml_X1_39 : Cond.methodLink RX1 39 yX1_headsIn ∈ lw_all := lw_in 598 (by decide +kernel) (by decide +kernel)
theorem g_X1_39 : GoodIn lw_all (va_wsS RX1 39 yX1_headsIn (ws_ yX1_headsIn cX1_headsIn 4 (some .int))) := lw_S q_ml_X1_39 q_st_X1_headsIn q_in_X1 q_c_X1_headsIn
theorem q_ml_X1_65 : Cond.methodLink RX1 65 yX1_chance ∈ lw_all := lw_in 601 (by decide +kernel) (by decide +kernel)
theorem g_X1_65 : GoodIn lw_all (wsV RX1 65 RX1 yX1_chance (ws_ yX1_chance cX1_chance 4 (some .long))) := lw_V q_ml_X1_65 q_im_X1_chance q_se_X1_chance q_in_X1 q_c_X1_chance
theorem q_ml_X1_58 : Cond.methodLink RX1 58 yX1_whole ∈ lw_all := lw_in 605 (by decide +kernel) (by decide +kernel)
theorem g_X1_58 : GoodIn lw_all (wsV RX1 58 RX1 yX1_whole (ws_ yX1_whole cX1_whole 6 (some .long))) := lw_V q_ml_X1_58 q_im_X1_whole q_se_X1_whole q_in_X1 q_c_X1_whole
theorem q_ml_X1_55 : Cond.methodLink RX1 55 yX1_weight ∈ lw_all := lw_in 609 (by decide +kernel) (by decide +kernel)
theorem g_X1_55 : GoodIn lw_all (wsV RX1 55 RX1 yX1_weight (ws_ yX1_weight cX1_weight 4 (some .long))) := lw_V q_ml_X1_55 q_im_X1_weight q_se_X1_weight q_in_X1 q_c_X1_weight
theorem q_ml_X1_47 : Cond.methodLink RX1 47 yX1_given ∈ lw_all := lw_in 613 (by decide +kernel) (by decide +kernel)
theorem g_X1_47 : GoodIn lw_all (wsV RX1 47 RX1 yX1_given (ws_ yX1_given cX1_given 4 (some .int))) := lw_V q_ml_X1_47 q_im_X1_given q_se_X1_given q_in_X1 q_c_X1_given
theorem q_ml_X1_51 : Cond.methodLink RX1 51 yX1_falls ∈ lw_all := lw_in 617 (by decide +kernel) (by decide +kernel)
theorem g_X1_51 : GoodIn lw_all (wsV RX1 51 RX1 yX1_falls (ws_ yX1_falls cX1_falls 4 (some .long))) := lw_V q_ml_X1_51 q_im_X1_falls q_se_X1_falls q_in_X1 q_c_X1_falls
theorem q_ml_X1_43 : Cond.methodLink RX1 43 yX1_power ∈ lw_all := lw_in 621 (by decide +kernel) (by decide +kernel)
theorem g_X1_43 : GoodIn lw_all (va_wsS RX1 43 yX1_power (ws_ yX1_power cX1_power 5 (some .long))) := lw_S q_ml_X1_43 q_st_X1_power q_in_X1 q_c_X1_power
theorem q_ml_X1_87 : Cond.methodLink RX1 87 yX1_surprise ∈ lw_all := lw_in 624 (by decide +kernel) (by decide +kernel)
theorem g_X1_87 : GoodIn lw_all (wsV RX1 87 RX1 yX1_surprise (ws_ yX1_surprise cX1_surprise 9 (some .int))) := lw_V q_ml_X1_87 q_im_X1_surprise q_se_X1_surprise q_in_X1 q_c_X1_surprise
theorem q_k_X1_61 : Cond.constantLong RX1 61 (lN 10) ∈ lw_all := lw_in 628 (by decide +kernel) (by decide +kernel)
theorem q_k_X1_63 : Cond.constantLong RX1 63 (lN 2) ∈ lw_all := lw_in 629 (by decide +kernel) (by decide +kernel)
theorem q_ml_L_127 : Cond.methodLink RL 127 yX1_undo ∈ lw_all := lw_in 630 (by decide +kernel) (by decide +kernel)
theorem g_L_127 : GoodIn lw_all (wsV RL 127 RX1 yX1_undo (ws_ yX1_undo cX1_undo 2 (some .boolean))) := lw_V q_ml_L_127 q_im_X1_undo q_se_X1_undo q_in_X1 q_c_X1_undo
theorem q_ml_X1_91 : Cond.methodLink RX1 91 yX1_without ∈ lw_all := lw_in 634 (by decide +kernel) (by decide +kernel)
theorem g_X1_91 : GoodIn lw_all (va_wsS RX1 91 yX1_without (ws_ yX1_without cX1_without 2 (some .int))) := lw_S q_ml_X1_91 q_st_X1_without q_in_X1 q_c_X1_without
theorem q_ml_L_130 : Cond.methodLink RL 130 yX1_strike ∈ lw_all := lw_in 637 (by decide +kernel) (by decide +kernel)
theorem g_L_130 : GoodIn lw_all (wsV RL 130 RX1 yX1_strike (ws_ yX1_strike cX1_strike 2 (some .int))) := lw_V q_ml_L_130 q_im_X1_strike q_se_X1_strike q_in_X1 q_c_X1_strike
theorem q_ml_X1_94 : Cond.methodLink RX1 94 yX1_isToss ∈ lw_all := lw_in 641 (by decide +kernel) (by decide +kernel)
theorem g_X1_94 : GoodIn lw_all (wsV RX1 94 RX1 yX1_isToss (ws_ yX1_isToss cX1_isToss 2 (some .boolean))) := lw_V q_ml_X1_94 q_im_X1_isToss q_se_X1_isToss q_in_X1 q_c_X1_isToss
theorem q_ml_L_134 : Cond.methodLink RL 134 yX1_coins ∈ lw_all := lw_in 645 (by decide +kernel) (by decide +kernel)
theorem g_L_134 : GoodIn lw_all (wsV RL 134 RX1 yX1_coins (ws_ yX1_coins cX1_coins 1 (some .int))) := lw_V q_ml_L_134 q_im_X1_coins q_se_X1_coins q_in_X1 q_c_X1_coins
theorem q_ml_X1_97 : Cond.methodLink RX1 97 yX1_told ∈ lw_all := lw_in 649 (by decide +kernel) (by decide +kernel)
theorem g_X1_97 : GoodIn lw_all (wsV RX1 97 RX1 yX1_told (ws_ yX1_told cX1_told 2 (some .int))) := lw_V q_ml_X1_97 q_im_X1_told q_se_X1_told q_in_X1 q_c_X1_told
theorem q_ml_L_138 : Cond.methodLink RL 138 yX1_schools ∈ lw_all := lw_in 653 (by decide +kernel) (by decide +kernel)
theorem g_L_138 : GoodIn lw_all (wsV RL 138 RX1 yX1_schools (ws_ yX1_schools cX1_schools 1 (some .int))) := lw_V q_ml_L_138 q_im_X1_schools q_se_X1_schools q_in_X1 q_c_X1_schools
theorem q_ml_L_142 : Cond.methodLink RL 142 yX1_tosses ∈ lw_all := lw_in 657 (by decide +kernel) (by decide +kernel)
theorem g_L_142 : GoodIn lw_all (wsV RL 142 RX1 yX1_tosses (ws_ yX1_tosses cX1_tosses 1 (some .int))) := lw_V q_ml_L_142 q_im_X1_tosses q_se_X1_tosses q_in_X1 q_c_X1_tosses
theorem q_ml_L_146 : Cond.methodLink RL 146 yX1_heads ∈ lw_all := lw_in 661 (by decide +kernel) (by decide +kernel)
theorem g_L_146 : GoodIn lw_all (wsV RL 146 RX1 yX1_heads (ws_ yX1_heads cX1_heads 1 (some .int))) := lw_V q_ml_L_146 q_im_X1_heads q_se_X1_heads q_in_X1 q_c_X1_heads
theorem q_ml_L_149 : Cond.methodLink RL 149 yX1_isHeads ∈ lw_all := lw_in 665 (by decide +kernel) (by decide +kernel)
theorem g_L_149 : GoodIn lw_all (wsV RL 149 RX1 yX1_isHeads (ws_ yX1_isHeads cX1_isHeads 2 (some .boolean))) := lw_V q_ml_L_149 q_im_X1_isHeads q_se_X1_isHeads q_in_X1 q_c_X1_isHeads
theorem q_ml_X1_100 : Cond.methodLink RX1 100 yX1_isUp ∈ lw_all := lw_in 669 (by decide +kernel) (by decide +kernel)
theorem g_X1_100 : GoodIn lw_all (wsV RX1 100 RX1 yX1_isUp (ws_ yX1_isUp cX1_isUp 2 (some .boolean))) := lw_V q_ml_X1_100 q_im_X1_isUp q_se_X1_isUp q_in_X1 q_c_X1_isUp
theorem q_ml_L_152 : Cond.methodLink RL 152 yX1_tenthsOf ∈ lw_all := lw_in 673 (by decide +kernel) (by decide +kernel)
theorem g_L_152 : GoodIn lw_all (wsV RL 152 RX1 yX1_tenthsOf (ws_ yX1_tenthsOf cX1_tenthsOf 2 (some .int))) := lw_V q_ml_L_152 q_im_X1_tenthsOf q_se_X1_tenthsOf q_in_X1 q_c_X1_tenthsOf
theorem q_ml_L_155 : Cond.methodLink RL 155 yX1_oddsOf ∈ lw_all := lw_in 677 (by decide +kernel) (by decide +kernel)
theorem g_L_155 : GoodIn lw_all (wsV RL 155 RX1 yX1_oddsOf (ws_ yX1_oddsOf cX1_oddsOf 2 (some .int))) := lw_V q_ml_L_155 q_im_X1_oddsOf q_se_X1_oddsOf q_in_X1 q_c_X1_oddsOf
theorem q_ml_L_159 : Cond.methodLink RL 159 yX1_shareOf ∈ lw_all := lw_in 681 (by decide +kernel) (by decide +kernel)
theorem g_L_159 : GoodIn lw_all (wsV RL 159 RX1 yX1_shareOf (ws_ yX1_shareOf cX1_shareOf 3 (some .int))) := lw_V q_ml_L_159 q_im_X1_shareOf q_se_X1_shareOf q_in_X1 q_c_X1_shareOf
theorem q_ml_L_162 : Cond.methodLink RL 162 yX1_weightOf ∈ lw_all := lw_in 685 (by decide +kernel) (by decide +kernel)
theorem g_L_162 : GoodIn lw_all (wsV RL 162 RX1 yX1_weightOf (ws_ yX1_weightOf cX1_weightOf 3 (some .long))) := lw_V q_ml_L_162 q_im_X1_weightOf q_se_X1_weightOf q_in_X1 q_c_X1_weightOf
theorem q_ml_X1_103 : Cond.methodLink RX1 103 yX1_pair ∈ lw_all := lw_in 689 (by decide +kernel) (by decide +kernel)
theorem g_X1_103 : GoodIn lw_all (wsV RX1 103 RX1 yX1_pair (ws_ yX1_pair cX1_pair 3 (some .long))) := lw_V q_ml_X1_103 q_im_X1_pair q_se_X1_pair q_in_X1 q_c_X1_pair
theorem q_ml_L_165 : Cond.methodLink RL 165 yX1_coinWeight ∈ lw_all := lw_in 693 (by decide +kernel) (by decide +kernel)
theorem g_L_165 : GoodIn lw_all (wsV RL 165 RX1 yX1_coinWeight (ws_ yX1_coinWeight cX1_coinWeight 2 (some .long))) := lw_V q_ml_L_165 q_im_X1_coinWeight q_se_X1_coinWeight q_in_X1 q_c_X1_coinWeight
theorem q_ml_X1_106 : Cond.methodLink RX1 106 yX1_here ∈ lw_all := lw_in 697 (by decide +kernel) (by decide +kernel)
theorem g_X1_106 : GoodIn lw_all (wsV RX1 106 RX1 yX1_here (ws_ yX1_here cX1_here 2 (some .long))) := lw_V q_ml_X1_106 q_im_X1_here q_se_X1_here q_in_X1 q_c_X1_here
theorem q_ml_L_168 : Cond.methodLink RL 168 yX1_schoolWeight ∈ lw_all := lw_in 701 (by decide +kernel) (by decide +kernel)
theorem g_L_168 : GoodIn lw_all (wsV RL 168 RX1 yX1_schoolWeight (ws_ yX1_schoolWeight cX1_schoolWeight 2 (some .long))) := lw_V q_ml_L_168 q_im_X1_schoolWeight q_se_X1_schoolWeight q_in_X1 q_c_X1_schoolWeight
theorem q_ml_X1_110 : Cond.methodLink RX1 110 yX1_schoolHere ∈ lw_all := lw_in 705 (by decide +kernel) (by decide +kernel)
theorem g_X1_110 : GoodIn lw_all (wsV RX1 110 RX1 yX1_schoolHere (ws_ yX1_schoolHere cX1_schoolHere 5 (some .long))) := lw_V q_ml_X1_110 q_im_X1_schoolHere q_se_X1_schoolHere q_in_X1 q_c_X1_schoolHere
theorem q_ml_L_173 : Cond.methodLink RL 173 yX1_wholeWeight ∈ lw_all := lw_in 709 (by decide +kernel) (by decide +kernel)
theorem g_L_173 : GoodIn lw_all (wsV RL 173 RX1 yX1_wholeWeight (ws_ yX1_wholeWeight cX1_wholeWeight 1 (some .long))) := lw_V q_ml_L_173 q_im_X1_wholeWeight q_se_X1_wholeWeight q_in_X1 q_c_X1_wholeWeight
theorem q_ml_X1_113 : Cond.methodLink RX1 113 yX1_all ∈ lw_all := lw_in 713 (by decide +kernel) (by decide +kernel)
theorem g_X1_113 : GoodIn lw_all (wsV RX1 113 RX1 yX1_all (ws_ yX1_all cX1_all 1 (some .long))) := lw_V q_ml_X1_113 q_im_X1_all q_se_X1_all q_in_X1 q_c_X1_all
theorem q_ml_L_176 : Cond.methodLink RL 176 yX1_isRuledOut ∈ lw_all := lw_in 717 (by decide +kernel) (by decide +kernel)
theorem g_L_176 : GoodIn lw_all (wsV RL 176 RX1 yX1_isRuledOut (ws_ yX1_isRuledOut cX1_isRuledOut 2 (some .boolean))) := lw_V q_ml_L_176 q_im_X1_isRuledOut q_se_X1_isRuledOut q_in_X1 q_c_X1_isRuledOut
theorem q_ml_L_180 : Cond.methodLink RL 180 yX1_ruledOut ∈ lw_all := lw_in 721 (by decide +kernel) (by decide +kernel)
theorem g_L_180 : GoodIn lw_all (wsV RL 180 RX1 yX1_ruledOut (ws_ yX1_ruledOut cX1_ruledOut 1 (some .int))) := lw_V q_ml_L_180 q_im_X1_ruledOut q_se_X1_ruledOut q_in_X1 q_c_X1_ruledOut
theorem q_ml_X1_117 : Cond.methodLink RX1 117 yX1_gone ∈ lw_all := lw_in 725 (by decide +kernel) (by decide +kernel)
theorem g_X1_117 : GoodIn lw_all (wsV RX1 117 RX1 yX1_gone (ws_ yX1_gone cX1_gone 3 (some .int))) := lw_V q_ml_X1_117 q_im_X1_gone q_se_X1_gone q_in_X1 q_c_X1_gone
theorem q_ml_L_183 : Cond.methodLink RL 183 yX1_coinPercent ∈ lw_all := lw_in 729 (by decide +kernel) (by decide +kernel)
theorem g_L_183 : GoodIn lw_all (wsV RL 183 RX1 yX1_coinPercent (ws_ yX1_coinPercent cX1_coinPercent 2 (some .int))) := lw_V q_ml_L_183 q_im_X1_coinPercent q_se_X1_coinPercent q_in_X1 q_c_X1_coinPercent
theorem q_k_X1_120 : Cond.constantLong RX1 120 (lN 100) ∈ lw_all := lw_in 733 (by decide +kernel) (by decide +kernel)
theorem q_ml_L_186 : Cond.methodLink RL 186 yX1_schoolPercent ∈ lw_all := lw_in 734 (by decide +kernel) (by decide +kernel)
theorem g_L_186 : GoodIn lw_all (wsV RL 186 RX1 yX1_schoolPercent (ws_ yX1_schoolPercent cX1_schoolPercent 2 (some .int))) := lw_V q_ml_L_186 q_im_X1_schoolPercent q_se_X1_schoolPercent q_in_X1 q_c_X1_schoolPercent
theorem q_ml_L_189 : Cond.methodLink RL 189 yX1_leadingCoin ∈ lw_all := lw_in 738 (by decide +kernel) (by decide +kernel)
theorem g_L_189 : GoodIn lw_all (wsV RL 189 RX1 yX1_leadingCoin (ws_ yX1_leadingCoin cX1_leadingCoin 1 (some .int))) := lw_V q_ml_L_189 q_im_X1_leadingCoin q_se_X1_leadingCoin q_in_X1 q_c_X1_leadingCoin
theorem q_ml_X1_125 : Cond.methodLink RX1 125 yX1_leads ∈ lw_all := lw_in 742 (by decide +kernel) (by decide +kernel)
theorem g_X1_125 : GoodIn lw_all (wsV RX1 125 RX1 yX1_leads (ws_ yX1_leads cX1_leads 1 (some .int))) := lw_V q_ml_X1_125 q_im_X1_leads q_se_X1_leads q_in_X1 q_c_X1_leads
theorem q_ml_X1_122 : Cond.methodLink RX1 122 yX1_leader ∈ lw_all := lw_in 746 (by decide +kernel) (by decide +kernel)
theorem g_X1_122 : GoodIn lw_all (wsV RX1 122 RX1 yX1_leader (ws_ yX1_leader cX1_leader 5 (some .int))) := lw_V q_ml_X1_122 q_im_X1_leader q_se_X1_leader q_in_X1 q_c_X1_leader
theorem q_ml_L_192 : Cond.methodLink RL 192 yX1_leadingSchool ∈ lw_all := lw_in 750 (by decide +kernel) (by decide +kernel)
theorem g_L_192 : GoodIn lw_all (wsV RL 192 RX1 yX1_leadingSchool (ws_ yX1_leadingSchool cX1_leadingSchool 3 (some .int))) := lw_V q_ml_L_192 q_im_X1_leadingSchool q_se_X1_leadingSchool q_in_X1 q_c_X1_leadingSchool
theorem q_ml_L_195 : Cond.methodLink RL 195 yX1_oddsAgainst ∈ lw_all := lw_in 754 (by decide +kernel) (by decide +kernel)
theorem g_L_195 : GoodIn lw_all (wsV RL 195 RX1 yX1_oddsAgainst (ws_ yX1_oddsAgainst cX1_oddsAgainst 3 (some .long))) := lw_V q_ml_L_195 q_im_X1_oddsAgainst q_se_X1_oddsAgainst q_in_X1 q_c_X1_oddsAgainst
theorem q_ml_L_198 : Cond.methodLink RL 198 yX1_surpriseOf ∈ lw_all := lw_in 758 (by decide +kernel) (by decide +kernel)
theorem g_L_198 : GoodIn lw_all (wsV RL 198 RX1 yX1_surpriseOf (ws_ yX1_surpriseOf cX1_surpriseOf 2 (some .int))) := lw_V q_ml_L_198 q_im_X1_surpriseOf q_se_X1_surpriseOf q_in_X1 q_c_X1_surpriseOf
theorem q_ml_X1_128 : Cond.methodLink RX1 128 yX1_surprise_ ∈ lw_all := lw_in 762 (by decide +kernel) (by decide +kernel)
theorem g_X1_128 : GoodIn lw_all (wsV RX1 128 RX1 yX1_surprise_ (ws_ yX1_surprise_ cX1_surprise_ 3 (some .int))) := lw_V q_ml_X1_128 q_im_X1_surprise_ q_se_X1_surprise_ q_in_X1 q_c_X1_surprise_
theorem q_ml_L_202 : Cond.methodLink RL 202 yX1_allSurprise ∈ lw_all := lw_in 766 (by decide +kernel) (by decide +kernel)
theorem g_L_202 : GoodIn lw_all (wsV RL 202 RX1 yX1_allSurprise (ws_ yX1_allSurprise cX1_allSurprise 1 (some .int))) := lw_V q_ml_L_202 q_im_X1_allSurprise q_se_X1_allSurprise q_in_X1 q_c_X1_allSurprise
theorem q_ml_X1_130 : Cond.methodLink RX1 130 yX1_surprises ∈ lw_all := lw_in 770 (by decide +kernel) (by decide +kernel)
theorem g_X1_130 : GoodIn lw_all (wsV RX1 130 RX1 yX1_surprises (ws_ yX1_surprises cX1_surprises 3 (some .int))) := lw_V q_ml_X1_130 q_im_X1_surprises q_se_X1_surprises q_in_X1 q_c_X1_surprises
theorem q_ml_L_206 : Cond.methodLink RL 206 yX1_greatestSurprise ∈ lw_all := lw_in 774 (by decide +kernel) (by decide +kernel)
theorem g_L_206 : GoodIn lw_all (wsV RL 206 RX1 yX1_greatestSurprise (ws_ yX1_greatestSurprise cX1_greatestSurprise 3 (some .int))) := lw_V q_ml_L_206 q_im_X1_greatestSurprise q_se_X1_greatestSurprise q_in_X1 q_c_X1_greatestSurprise
theorem q_ml_L_209 : Cond.methodLink RL 209 yX1_headsPercent ∈ lw_all := lw_in 778 (by decide +kernel) (by decide +kernel)
theorem g_L_209 : GoodIn lw_all (wsV RL 209 RX1 yX1_headsPercent (ws_ yX1_headsPercent cX1_headsPercent 3 (some .int))) := lw_V q_ml_L_209 q_im_X1_headsPercent q_se_X1_headsPercent q_in_X1 q_c_X1_headsPercent
theorem q_ml_L_212 : Cond.methodLink RL 212 yX1_wouldSurprise ∈ lw_all := lw_in 782 (by decide +kernel) (by decide +kernel)
theorem g_L_212 : GoodIn lw_all (wsV RL 212 RX1 yX1_wouldSurprise (ws_ yX1_wouldSurprise cX1_wouldSurprise 2 (some .int))) := lw_V q_ml_L_212 q_im_X1_wouldSurprise q_se_X1_wouldSurprise q_in_X1 q_c_X1_wouldSurprise
theorem q_ml_L_215 : Cond.methodLink RL 215 yX1_leaderBehind ∈ lw_all := lw_in 786 (by decide +kernel) (by decide +kernel)
theorem g_L_215 : GoodIn lw_all (wsV RL 215 RX1 yX1_leaderBehind (ws_ yX1_leaderBehind cX1_leaderBehind 3 (some .int))) := lw_V q_ml_L_215 q_im_X1_leaderBehind q_se_X1_leaderBehind q_in_X1 q_c_X1_leaderBehind
theorem q_ml_L_218 : Cond.methodLink RL 218 yX1_tossesToLead ∈ lw_all := lw_in 790 (by decide +kernel) (by decide +kernel)
theorem g_L_218 : GoodIn lw_all (wsV RL 218 RX1 yX1_tossesToLead (ws_ yX1_tossesToLead cX1_tossesToLead 2 (some .int))) := lw_V q_ml_L_218 q_im_X1_tossesToLead q_se_X1_tossesToLead q_in_X1 q_c_X1_tossesToLead
theorem q_ml_X1_136 : Cond.methodLink RX1 136 yX1_toLead ∈ lw_all := lw_in 794 (by decide +kernel) (by decide +kernel)
theorem g_X1_136 : GoodIn lw_all (wsV RX1 136 RX1 yX1_toLead (ws_ yX1_toLead cX1_toLead 5 (some .int))) := lw_V q_ml_X1_136 q_im_X1_toLead q_se_X1_toLead q_in_X1 q_c_X1_toLead
theorem q_ml_X1_133 : Cond.methodLink RX1 133 yX1_isFirst ∈ lw_all := lw_in 798 (by decide +kernel) (by decide +kernel)
theorem g_X1_133 : GoodIn lw_all (wsV RX1 133 RX1 yX1_isFirst (ws_ yX1_isFirst cX1_isFirst 4 (some .boolean))) := lw_V q_ml_X1_133 q_im_X1_isFirst q_se_X1_isFirst q_in_X1 q_c_X1_isFirst
theorem q_ml_L_222 : Cond.methodLink RL 222 yX1_decisiveTosses ∈ lw_all := lw_in 802 (by decide +kernel) (by decide +kernel)
theorem g_L_222 : GoodIn lw_all (wsV RL 222 RX1 yX1_decisiveTosses (ws_ yX1_decisiveTosses cX1_decisiveTosses 1 (some .int))) := lw_V q_ml_L_222 q_im_X1_decisiveTosses q_se_X1_decisiveTosses q_in_X1 q_c_X1_decisiveTosses
theorem q_ml_X1_139 : Cond.methodLink RX1 139 yX1_decisive ∈ lw_all := lw_in 806 (by decide +kernel) (by decide +kernel)
theorem g_X1_139 : GoodIn lw_all (wsV RX1 139 RX1 yX1_decisive (ws_ yX1_decisive cX1_decisive 6 (some .int))) := lw_V q_ml_X1_139 q_im_X1_decisive q_se_X1_decisive q_in_X1 q_c_X1_decisive
theorem q_ml_L_226 : Cond.methodLink RL 226 yX1_meanTenths ∈ lw_all := lw_in 810 (by decide +kernel) (by decide +kernel)
theorem g_L_226 : GoodIn lw_all (wsV RL 226 RX1 yX1_meanTenths (ws_ yX1_meanTenths cX1_meanTenths 3 (some .double))) := lw_V q_ml_L_226 q_im_X1_meanTenths q_se_X1_meanTenths q_in_X1 q_c_X1_meanTenths
theorem q_ml_L_230 : Cond.methodLink RL 230 yX1_digest ∈ lw_all := lw_in 814 (by decide +kernel) (by decide +kernel)
theorem g_L_230 : GoodIn lw_all (wsV RL 230 RX1 yX1_digest (ws_ yX1_digest cX1_digest 5 (some .long))) := lw_V q_ml_L_230 q_im_X1_digest q_se_X1_digest q_in_X1 q_c_X1_digest
theorem q_k_X1_142 : Cond.constantLong RX1 142 (lN 1913) ∈ lw_all := lw_in 818 (by decide +kernel) (by decide +kernel)
theorem q_k_X1_144 : Cond.constantLong RX1 144 (lN 31) ∈ lw_all := lw_in 819 (by decide +kernel) (by decide +kernel)
theorem q_ie_IAE : Cond.initialized "java/lang/IllegalArgumentException" ∈ lw_all := lw_in 54 (by decide +kernel) (by decide +kernel)
theorem q_ie_ISE : Cond.initialized "java/lang/IllegalStateException" ∈ lw_all := lw_in 55 (by decide +kernel) (by decide +kernel)
theorem q_ie_IOB : Cond.initialized "java/lang/IndexOutOfBoundsException" ∈ lw_all := lw_in 56 (by decide +kernel) (by decide +kernel)
theorem q_inst_X0 : Cond.instantiable RX0 7 ∈ lw_all := lw_in 58 (by decide +kernel) (by decide +kernel)
theorem q_inst_X1 : Cond.instantiable RX1 8 ∈ lw_all := lw_in 525 (by decide +kernel) (by decide +kernel)
theorem q_ml_X0_1 : Cond.methodLink RX0 1 objectInit ∈ lw_all := lw_in 62 (by decide +kernel) (by decide +kernel)
theorem q_ml_X1_1 : Cond.methodLink RX1 1 objectInit ∈ lw_all := lw_in 529 (by decide +kernel) (by decide +kernel)
theorem q_im_obj : Cond.instanceMethod objectInit ∈ lw_all := lw_in 63 (by decide +kernel) (by decide +kernel)
theorem q_c_obj : Cond.code objectInit ⟨#[0xb1]⟩ 1 none ∈ lw_all := lw_in 64 (by decide +kernel) (by decide +kernel)
theorem q_ac_int : Cond.arrayClass .int ∈ lw_all := lw_in 89 (by decide +kernel) (by decide +kernel)
theorem q_ac_boolean : Cond.arrayClass .boolean ∈ lw_all := lw_in 90 (by decide +kernel) (by decide +kernel)
theorem q_ac_byte : Cond.arrayClass .byte ∈ lw_all := lw_in 273 (by decide +kernel) (by decide +kernel)
theorem q_ac_long : Cond.arrayClass .long ∈ lw_all := lw_in 820 (by decide +kernel) (by decide +kernel)
theorem q_ac_double : Cond.arrayClass .double ∈ lw_all := lw_in 821 (by decide +kernel) (by decide +kernel)
theorem tg1_IAE : ∀ w ∈ (vx_atS RX0 39 "java/lang/IllegalArgumentException" ["java/lang/RuntimeException", "java/lang/Exception"]).filter goodWord, w ∈ lw_all := lw_sub (by decide +kernel) (by decide +kernel)
theorem tg2_IAE : ∀ w ∈ (vx_atS RX0 39 "java/lang/IllegalArgumentException" ["java/lang/RuntimeException", "java/lang/Exception"]).filter (fun w => !goodWord w), w ∈ lw_face := fun w h => List.mem_filter.mpr ⟨(by decide +kernel : ∀ w ∈ (vx_atS RX0 39 "java/lang/IllegalArgumentException" ["java/lang/RuntimeException", "java/lang/Exception"]).filter (fun w => !goodWord w), w ∈ lw_tbl) w h, (by decide +kernel : ∀ w ∈ (vx_atS RX0 39 "java/lang/IllegalArgumentException" ["java/lang/RuntimeException", "java/lang/Exception"]).filter (fun w => !goodWord w), (w.onTables && w.keepsFace) = true) w h⟩
theorem tg3_IAE : ∀ w ∈ Cond.classLink RX0 35 "java/lang/IllegalArgumentException" :: Cond.initialized "java/lang/IllegalArgumentException" :: vx_atS RX0 39 "java/lang/IllegalArgumentException" ["java/lang/RuntimeException", "java/lang/Exception"], vx_ot w = true := by decide +kernel
theorem tg0_IAE : Bundle.fit "java/lang/IllegalArgumentException" = true := by decide +kernel
theorem tg1_ISE : ∀ w ∈ (vx_atS RX0 46 "java/lang/IllegalStateException" ["java/lang/RuntimeException", "java/lang/Exception"]).filter goodWord, w ∈ lw_all := lw_sub (by decide +kernel) (by decide +kernel)
theorem tg2_ISE : ∀ w ∈ (vx_atS RX0 46 "java/lang/IllegalStateException" ["java/lang/RuntimeException", "java/lang/Exception"]).filter (fun w => !goodWord w), w ∈ lw_face := fun w h => List.mem_filter.mpr ⟨(by decide +kernel : ∀ w ∈ (vx_atS RX0 46 "java/lang/IllegalStateException" ["java/lang/RuntimeException", "java/lang/Exception"]).filter (fun w => !goodWord w), w ∈ lw_tbl) w h, (by decide +kernel : ∀ w ∈ (vx_atS RX0 46 "java/lang/IllegalStateException" ["java/lang/RuntimeException", "java/lang/Exception"]).filter (fun w => !goodWord w), (w.onTables && w.keepsFace) = true) w h⟩
theorem tg3_ISE : ∀ w ∈ Cond.classLink RX0 42 "java/lang/IllegalStateException" :: Cond.initialized "java/lang/IllegalStateException" :: vx_atS RX0 46 "java/lang/IllegalStateException" ["java/lang/RuntimeException", "java/lang/Exception"], vx_ot w = true := by decide +kernel
theorem tg0_ISE : Bundle.fit "java/lang/IllegalStateException" = true := by decide +kernel
theorem tg1_IOB : ∀ w ∈ (vx_atS RX0 168 "java/lang/IndexOutOfBoundsException" ["java/lang/RuntimeException", "java/lang/Exception"]).filter goodWord, w ∈ lw_all := lw_sub (by decide +kernel) (by decide +kernel)
theorem tg2_IOB : ∀ w ∈ (vx_atS RX0 168 "java/lang/IndexOutOfBoundsException" ["java/lang/RuntimeException", "java/lang/Exception"]).filter (fun w => !goodWord w), w ∈ lw_face := fun w h => List.mem_filter.mpr ⟨(by decide +kernel : ∀ w ∈ (vx_atS RX0 168 "java/lang/IndexOutOfBoundsException" ["java/lang/RuntimeException", "java/lang/Exception"]).filter (fun w => !goodWord w), w ∈ lw_tbl) w h, (by decide +kernel : ∀ w ∈ (vx_atS RX0 168 "java/lang/IndexOutOfBoundsException" ["java/lang/RuntimeException", "java/lang/Exception"]).filter (fun w => !goodWord w), (w.onTables && w.keepsFace) = true) w h⟩
theorem tg3_IOB : ∀ w ∈ Cond.classLink RX0 164 "java/lang/IndexOutOfBoundsException" :: Cond.initialized "java/lang/IndexOutOfBoundsException" :: vx_atS RX0 168 "java/lang/IndexOutOfBoundsException" ["java/lang/RuntimeException", "java/lang/Exception"], vx_ot w = true := by decide +kernel
theorem tg0_IOB : Bundle.fit "java/lang/IndexOutOfBoundsException" = true := by decide +kernel
