set_option maxRecDepth 100000 in
theorem wl_X10_isLikeEarlier : Cond.selects yX10_isLikeEarlier.cls yX10_isLikeEarlier yX10_isLikeEarlier ∈ lw_good := mem_sel (i := 46) (q := (yX10_isLikeEarlier, 15)) rfl (by decide)
set_option maxRecDepth 100000 in
theorem wl_X11_refuse : Cond.selects yX11_refuse.cls yX11_refuse yX11_refuse ∈ lw_good := mem_sel (i := 0) (q := (yX11_refuse, 16)) rfl (by decide)
set_option maxRecDepth 100000 in
theorem wl_X11_accept : Cond.selects yX11_accept.cls yX11_accept yX11_accept ∈ lw_good := mem_sel (i := 1) (q := (yX11_accept, 16)) rfl (by decide)
set_option maxRecDepth 100000 in
theorem wl_X12_fact : Cond.selects yX12_fact.cls yX12_fact yX12_fact ∈ lw_good := mem_sel (i := 62) (q := (yX12_fact, 59)) rfl (by decide)
set_option maxRecDepth 100000 in
theorem wl_X12_has : Cond.selects yX12_has.cls yX12_has yX12_has ∈ lw_good := mem_sel (i := 54) (q := (yX12_has, 59)) rfl (by decide)
set_option maxRecDepth 100000 in
theorem wl_X12_good : Cond.selects yX12_good.cls yX12_good yX12_good ∈ lw_good := mem_sel (i := 48) (q := (yX12_good, 59)) rfl (by decide)
set_option maxRecDepth 100000 in
theorem wl_X12_refuses : Cond.selects yX12_refuses.cls yX12_refuses yX12_refuses ∈ lw_good := mem_sel (i := 47) (q := (yX12_refuses, 59)) rfl (by decide)
set_option maxRecDepth 100000 in
theorem wl_X12_fine : Cond.selects yX12_fine.cls yX12_fine yX12_fine ∈ lw_good := mem_sel (i := 79) (q := (yX12_fine, 59)) rfl (by decide)
set_option maxRecDepth 100000 in
theorem wl_X12_opens : Cond.selects yX12_opens.cls yX12_opens yX12_opens ∈ lw_good := mem_sel (i := 51) (q := (yX12_opens, 59)) rfl (by decide)
set_option maxRecDepth 100000 in
theorem wl_X12_closes : Cond.selects yX12_closes.cls yX12_closes yX12_closes ∈ lw_good := mem_sel (i := 52) (q := (yX12_closes, 59)) rfl (by decide)
set_option maxRecDepth 100000 in
theorem wl_X12_codeAt : Cond.selects yX12_codeAt.cls yX12_codeAt yX12_codeAt ∈ lw_good := mem_sel (i := 56) (q := (yX12_codeAt, 59)) rfl (by decide)
set_option maxRecDepth 100000 in
theorem wl_X12_adds : Cond.selects yX12_adds.cls yX12_adds yX12_adds ∈ lw_good := mem_sel (i := 71) (q := (yX12_adds, 59)) rfl (by decide)
set_option maxRecDepth 100000 in
theorem wl_X12_wordOf : Cond.selects yX12_wordOf.cls yX12_wordOf yX12_wordOf ∈ lw_good := mem_sel (i := 75) (q := (yX12_wordOf, 59)) rfl (by decide)
set_option maxRecDepth 100000 in
theorem wl_X2_note : Cond.selects yX2_note.cls yX2_note yX2_note ∈ lw_good := mem_sel (i := 5) (q := (yX2_note, 11)) rfl (by decide)
set_option maxRecDepth 100000 in
theorem wl_X5_comesOf : Cond.selects yX5_comesOf.cls yX5_comesOf yX5_comesOf ∈ lw_good := mem_sel (i := 44) (q := (yX5_comesOf, 12)) rfl (by decide)
set_option maxRecDepth 100000 in
theorem wl_X5_seek : Cond.selects yX5_seek.cls yX5_seek yX5_seek ∈ lw_good := mem_sel (i := 42) (q := (yX5_seek, 12)) rfl (by decide)
set_option maxRecDepth 100000 in
theorem wl_X5_noteRow : Cond.selects yX5_noteRow.cls yX5_noteRow yX5_noteRow ∈ lw_good := mem_sel (i := 43) (q := (yX5_noteRow, 12)) rfl (by decide)
set_option maxRecDepth 100000 in
theorem wl_X5_nearest : Cond.selects yX5_nearest.cls yX5_nearest yX5_nearest ∈ lw_good := mem_sel (i := 40) (q := (yX5_nearest, 12)) rfl (by decide)
set_option maxRecDepth 100000 in
theorem wl_X7_next : Cond.selects yX7_next.cls yX7_next yX7_next ∈ lw_good := mem_sel (i := 16) (q := (yX7_next, 10)) rfl (by decide)
set_option maxRecDepth 100000 in
theorem wl_X11_tellHouse : Cond.selects yX11_tellHouse.cls yX11_tellHouse yX11_tellHouse ∈ lw_good := mem_sel (i := 33) (q := (yX11_tellHouse, 16)) rfl (by decide)
set_option maxRecDepth 100000 in
theorem wl_X12_without : Cond.selects yX12_without.cls yX12_without yX12_without ∈ lw_good := mem_sel (i := 106) (q := (yX12_without, 59)) rfl (by decide)
set_option maxRecDepth 100000 in
theorem wl_X12_areAlike : Cond.selects yX12_areAlike.cls yX12_areAlike yX12_areAlike ∈ lw_good := mem_sel (i := 105) (q := (yX12_areAlike, 59)) rfl (by decide)
set_option maxRecDepth 100000 in
theorem wl_X12_faults : Cond.selects yX12_faults.cls yX12_faults yX12_faults ∈ lw_good := mem_sel (i := 83) (q := (yX12_faults, 59)) rfl (by decide)
set_option maxRecDepth 100000 in
theorem wl_X12_takes0 : Cond.selects yX12_takes0.cls yX12_takes0 yX12_takes0 ∈ lw_good := mem_sel (i := 78) (q := (yX12_takes0, 59)) rfl (by decide)
set_option maxRecDepth 100000 in
theorem wl_X12_passes0 : Cond.selects yX12_passes0.cls yX12_passes0 yX12_passes0 ∈ lw_good := mem_sel (i := 60) (q := (yX12_passes0, 59)) rfl (by decide)
set_option maxRecDepth 100000 in
theorem wl_X12_isHouse : Cond.selects yX12_isHouse.cls yX12_isHouse yX12_isHouse ∈ lw_good := mem_sel (i := 61) (q := (yX12_isHouse, 59)) rfl (by decide)
set_option maxRecDepth 100000 in
theorem wl_X12_sumOf : Cond.selects yX12_sumOf.cls yX12_sumOf yX12_sumOf ∈ lw_good := mem_sel (i := 57) (q := (yX12_sumOf, 59)) rfl (by decide)
set_option maxRecDepth 100000 in
theorem wl_X12_isPoor : Cond.selects yX12_isPoor.cls yX12_isPoor yX12_isPoor ∈ lw_good := mem_sel (i := 99) (q := (yX12_isPoor, 59)) rfl (by decide)
set_option maxRecDepth 100000 in
theorem wl_X12_gotFor : Cond.selects yX12_gotFor.cls yX12_gotFor yX12_gotFor ∈ lw_good := mem_sel (i := 107) (q := (yX12_gotFor, 59)) rfl (by decide)
set_option maxRecDepth 100000 in
theorem wl_X12_termOf : Cond.selects yX12_termOf.cls yX12_termOf yX12_termOf ∈ lw_good := mem_sel (i := 58) (q := (yX12_termOf, 59)) rfl (by decide)
set_option maxRecDepth 100000 in
theorem wl_X12_bounded : Cond.selects yX12_bounded.cls yX12_bounded yX12_bounded ∈ lw_good := mem_sel (i := 63) (q := (yX12_bounded, 59)) rfl (by decide)
set_option maxRecDepth 100000 in
theorem wl_X12_partOf : Cond.selects yX12_partOf.cls yX12_partOf yX12_partOf ∈ lw_good := mem_sel (i := 59) (q := (yX12_partOf, 59)) rfl (by decide)
set_option maxRecDepth 100000 in
theorem wl_X7_sum : Cond.selects yX7_sum.cls yX7_sum yX7_sum ∈ lw_good := mem_sel (i := 18) (q := (yX7_sum, 10)) rfl (by decide)
set_option maxRecDepth 100000 in
theorem wl_X7_fail : Cond.selects yX7_fail.cls yX7_fail yX7_fail ∈ lw_good := mem_sel (i := 15) (q := (yX7_fail, 10)) rfl (by decide)
set_option maxRecDepth 100000 in
theorem wl_X7_lawWord : Cond.selects yX7_lawWord.cls yX7_lawWord yX7_lawWord ∈ lw_good := mem_sel (i := 23) (q := (yX7_lawWord, 10)) rfl (by decide)
set_option maxRecDepth 100000 in
theorem wl_X7_orderWord : Cond.selects yX7_orderWord.cls yX7_orderWord yX7_orderWord ∈ lw_good := mem_sel (i := 22) (q := (yX7_orderWord, 10)) rfl (by decide)
set_option maxRecDepth 100000 in
theorem wl_X7_inSquare : Cond.selects yX7_inSquare.cls yX7_inSquare yX7_inSquare ∈ lw_good := mem_sel (i := 21) (q := (yX7_inSquare, 10)) rfl (by decide)
set_option maxRecDepth 100000 in
theorem wl_X7_term : Cond.selects yX7_term.cls yX7_term yX7_term ∈ lw_good := mem_sel (i := 19) (q := (yX7_term, 10)) rfl (by decide)
set_option maxRecDepth 100000 in
theorem wl_X7_opOf : Cond.selects yX7_opOf.cls yX7_opOf yX7_opOf ∈ lw_good := mem_sel (i := 24) (q := (yX7_opOf, 10)) rfl (by decide)
set_option maxRecDepth 100000 in
theorem wl_X7_part : Cond.selects yX7_part.cls yX7_part yX7_part ∈ lw_good := mem_sel (i := 20) (q := (yX7_part, 10)) rfl (by decide)
set_option maxRecDepth 100000 in
theorem wl_X11_settle : Cond.selects yX11_settle.cls yX11_settle yX11_settle ∈ lw_good := mem_sel (i := 2) (q := (yX11_settle, 16)) rfl (by decide)
set_option maxRecDepth 100000 in
theorem wl_X12_whyNot : Cond.selects yX12_whyNot.cls yX12_whyNot yX12_whyNot ∈ lw_good := mem_sel (i := 70) (q := (yX12_whyNot, 59)) rfl (by decide)
set_option maxRecDepth 100000 in
theorem wl_X12_leaf : Cond.selects yX12_leaf.cls yX12_leaf yX12_leaf ∈ lw_good := mem_sel (i := 86) (q := (yX12_leaf, 59)) rfl (by decide)
set_option maxRecDepth 100000 in
theorem wl_X12_mustNumber : Cond.selects yX12_mustNumber.cls yX12_mustNumber yX12_mustNumber ∈ lw_good := mem_sel (i := 87) (q := (yX12_mustNumber, 59)) rfl (by decide)
set_option maxRecDepth 100000 in
theorem wl_X12_isValue : Cond.selects yX12_isValue.cls yX12_isValue yX12_isValue ∈ lw_good := mem_sel (i := 85) (q := (yX12_isValue, 59)) rfl (by decide)
set_option maxRecDepth 100000 in
theorem wl_X12_readSum : Cond.selects yX12_readSum.cls yX12_readSum yX12_readSum ∈ lw_good := mem_sel (i := 80) (q := (yX12_readSum, 59)) rfl (by decide)
set_option maxRecDepth 100000 in
theorem wl_X12_must : Cond.selects yX12_must.cls yX12_must yX12_must ∈ lw_good := mem_sel (i := 84) (q := (yX12_must, 59)) rfl (by decide)
set_option maxRecDepth 100000 in
theorem wl_X12_readTerm : Cond.selects yX12_readTerm.cls yX12_readTerm yX12_readTerm ∈ lw_good := mem_sel (i := 81) (q := (yX12_readTerm, 59)) rfl (by decide)
set_option maxRecDepth 100000 in
theorem wl_X12_readPart : Cond.selects yX12_readPart.cls yX12_readPart yX12_readPart ∈ lw_good := mem_sel (i := 82) (q := (yX12_readPart, 59)) rfl (by decide)
set_option maxRecDepth 100000 in
theorem wl_X12_areHouses : Cond.selects yX12_areHouses.cls yX12_areHouses yX12_areHouses ∈ lw_good := mem_sel (i := 100) (q := (yX12_areHouses, 59)) rfl (by decide)
set_option maxRecDepth 100000 in
theorem wl_X12_groups : Cond.selects yX12_groups.cls yX12_groups yX12_groups ∈ lw_good := mem_sel (i := 104) (q := (yX12_groups, 59)) rfl (by decide)
set_option maxRecDepth 100000 in
theorem wl_X8_askLaw : Cond.selects yX8_askLaw.cls yX8_askLaw yX8_askLaw ∈ lw_good := mem_sel (i := 4) (q := (yX8_askLaw, 7)) rfl (by decide)
set_option maxRecDepth 100000 in
theorem wl_X2_undoInAndDouble : Cond.selects yX2_undoInAndDouble.cls yX2_undoInAndDouble yX2_undoInAndDouble ∈ lw_good := mem_sel (i := 6) (q := (yX2_undoInAndDouble, 11)) rfl (by decide)
set_option maxRecDepth 100000 in
theorem wl_X2_undoSwap : Cond.selects yX2_undoSwap.cls yX2_undoSwap yX2_undoSwap ∈ lw_good := mem_sel (i := 7) (q := (yX2_undoSwap, 11)) rfl (by decide)
set_option maxRecDepth 100000 in
theorem wl_X2_undoStand : Cond.selects yX2_undoStand.cls yX2_undoStand yX2_undoStand ∈ lw_good := mem_sel (i := 9) (q := (yX2_undoStand, 11)) rfl (by decide)
set_option maxRecDepth 100000 in
theorem wl_X2_undoOut : Cond.selects yX2_undoOut.cls yX2_undoOut yX2_undoOut ∈ lw_good := mem_sel (i := 8) (q := (yX2_undoOut, 11)) rfl (by decide)
set_option maxRecDepth 100000 in
theorem wl_X7_wordOf : Cond.selects yX7_wordOf.cls yX7_wordOf yX7_wordOf ∈ lw_good := mem_sel (i := 13) (q := (yX7_wordOf, 10)) rfl (by decide)
set_option maxRecDepth 100000 in
theorem wl_X0_handOn : Cond.selects yX0_handOn.cls yX0_handOn yX0_handOn ∈ lw_good := mem_sel (i := 45) (q := (yX0_handOn, 9)) rfl (by decide)
set_option maxRecDepth 100000 in
theorem wl_X11_giveBirth : Cond.selects yX11_giveBirth.cls yX11_giveBirth yX11_giveBirth ∈ lw_good := mem_sel (i := 3) (q := (yX11_giveBirth, 16)) rfl (by decide)
set_option maxRecDepth 100000 in
theorem wl_X11_turnYear : Cond.selects yX11_turnYear.cls yX11_turnYear yX11_turnYear ∈ lw_good := mem_sel (i := 35) (q := (yX11_turnYear, 16)) rfl (by decide)
set_option maxRecDepth 100000 in
theorem wl_X4_addFrom : Cond.selects yX4_addFrom.cls yX4_addFrom yX4_addFrom ∈ lw_good := mem_sel (i := 37) (q := (yX4_addFrom, 10)) rfl (by decide)
set_option maxRecDepth 100000 in
theorem wl_X4_findLeast : Cond.selects yX4_findLeast.cls yX4_findLeast yX4_findLeast ∈ lw_good := mem_sel (i := 38) (q := (yX4_findLeast, 10)) rfl (by decide)
set_option maxRecDepth 100000 in
theorem wl_X7_kindAt : Cond.selects yX7_kindAt.cls yX7_kindAt yX7_kindAt ∈ lw_good := mem_sel (i := 11) (q := (yX7_kindAt, 10)) rfl (by decide)
set_option maxRecDepth 100000 in
theorem wl_X7_tokenOf : Cond.selects yX7_tokenOf.cls yX7_tokenOf yX7_tokenOf ∈ lw_good := mem_sel (i := 12) (q := (yX7_tokenOf, 10)) rfl (by decide)
set_option maxRecDepth 100000 in
theorem wl_X11_keepsCustom : Cond.selects yX11_keepsCustom.cls yX11_keepsCustom yX11_keepsCustom ∈ lw_good := mem_sel (i := 36) (q := (yX11_keepsCustom, 16)) rfl (by decide)
set_option maxRecDepth 100000 in
theorem wl_X5_workFewest : Cond.selects yX5_workFewest.cls yX5_workFewest yX5_workFewest ∈ lw_good := mem_sel (i := 39) (q := (yX5_workFewest, 12)) rfl (by decide)
set_option maxRecDepth 100000 in
theorem wl_X5_workFloor : Cond.selects yX5_workFloor.cls yX5_workFloor yX5_workFloor ∈ lw_good := mem_sel (i := 41) (q := (yX5_workFloor, 12)) rfl (by decide)
set_option maxRecDepth 100000 in
theorem wl_X12_plainOf : Cond.selects yX12_plainOf.cls yX12_plainOf yX12_plainOf ∈ lw_good := mem_sel (i := 66) (q := (yX12_plainOf, 59)) rfl (by decide)
set_option maxRecDepth 100000 in
theorem wl_X12_positiveOf : Cond.selects yX12_positiveOf.cls yX12_positiveOf yX12_positiveOf ∈ lw_good := mem_sel (i := 67) (q := (yX12_positiveOf, 59)) rfl (by decide)
set_option maxRecDepth 100000 in
theorem wl_X12_testOf : Cond.selects yX12_testOf.cls yX12_testOf yX12_testOf ∈ lw_good := mem_sel (i := 64) (q := (yX12_testOf, 59)) rfl (by decide)
set_option maxRecDepth 100000 in
theorem wl_X12_bothOf : Cond.selects yX12_bothOf.cls yX12_bothOf yX12_bothOf ∈ lw_good := mem_sel (i := 65) (q := (yX12_bothOf, 59)) rfl (by decide)
set_option maxRecDepth 100000 in
theorem wl_X7_plain : Cond.selects yX7_plain.cls yX7_plain yX7_plain ∈ lw_good := mem_sel (i := 29) (q := (yX7_plain, 10)) rfl (by decide)
set_option maxRecDepth 100000 in
theorem wl_X7_test : Cond.selects yX7_test.cls yX7_test yX7_test ∈ lw_good := mem_sel (i := 27) (q := (yX7_test, 10)) rfl (by decide)
set_option maxRecDepth 100000 in
theorem wl_X7_inRound : Cond.selects yX7_inRound.cls yX7_inRound yX7_inRound ∈ lw_good := mem_sel (i := 30) (q := (yX7_inRound, 10)) rfl (by decide)
set_option maxRecDepth 100000 in
theorem wl_X7_both : Cond.selects yX7_both.cls yX7_both yX7_both ∈ lw_good := mem_sel (i := 28) (q := (yX7_both, 10)) rfl (by decide)
set_option maxRecDepth 100000 in
theorem wl_X12_readPlain : Cond.selects yX12_readPlain.cls yX12_readPlain yX12_readPlain ∈ lw_good := mem_sel (i := 90) (q := (yX12_readPlain, 59)) rfl (by decide)
set_option maxRecDepth 100000 in
theorem wl_X12_readTest : Cond.selects yX12_readTest.cls yX12_readTest yX12_readTest ∈ lw_good := mem_sel (i := 88) (q := (yX12_readTest, 59)) rfl (by decide)
set_option maxRecDepth 100000 in
theorem wl_X12_readBoth : Cond.selects yX12_readBoth.cls yX12_readBoth yX12_readBoth ∈ lw_good := mem_sel (i := 89) (q := (yX12_readBoth, 59)) rfl (by decide)
set_option maxRecDepth 100000 in
theorem wl_X7_sumFor : Cond.selects yX7_sumFor.cls yX7_sumFor yX7_sumFor ∈ lw_good := mem_sel (i := 17) (q := (yX7_sumFor, 10)) rfl (by decide)
set_option maxRecDepth 100000 in
theorem wl_X12_nextSum : Cond.selects yX12_nextSum.cls yX12_nextSum yX12_nextSum ∈ lw_good := mem_sel (i := 110) (q := (yX12_nextSum, 59)) rfl (by decide)
set_option maxRecDepth 100000 in
theorem wl_X12_makes : Cond.selects yX12_makes.cls yX12_makes yX12_makes ∈ lw_good := mem_sel (i := 50) (q := (yX12_makes, 59)) rfl (by decide)
set_option maxRecDepth 100000 in
theorem wl_X12_sets : Cond.selects yX12_sets.cls yX12_sets yX12_sets ∈ lw_good := mem_sel (i := 53) (q := (yX12_sets, 59)) rfl (by decide)
set_option maxRecDepth 100000 in
theorem wl_X12_tells : Cond.selects yX12_tells.cls yX12_tells yX12_tells ∈ lw_good := mem_sel (i := 55) (q := (yX12_tells, 59)) rfl (by decide)
set_option maxRecDepth 100000 in
theorem wl_X7_condition : Cond.selects yX7_condition.cls yX7_condition yX7_condition ∈ lw_good := mem_sel (i := 26) (q := (yX7_condition, 10)) rfl (by decide)
set_option maxRecDepth 100000 in
theorem wl_X7_how : Cond.selects yX7_how.cls yX7_how yX7_how ∈ lw_good := mem_sel (i := 25) (q := (yX7_how, 10)) rfl (by decide)
set_option maxRecDepth 100000 in
theorem wl_X12_changed : Cond.selects yX12_changed.cls yX12_changed yX12_changed ∈ lw_good := mem_sel (i := 49) (q := (yX12_changed, 59)) rfl (by decide)
set_option maxRecDepth 100000 in
theorem wl_X12_weighs : Cond.selects yX12_weighs.cls yX12_weighs yX12_weighs ∈ lw_good := mem_sel (i := 68) (q := (yX12_weighs, 59)) rfl (by decide)
set_option maxRecDepth 100000 in
theorem wl_X12_readClause : Cond.selects yX12_readClause.cls yX12_readClause yX12_readClause ∈ lw_good := mem_sel (i := 91) (q := (yX12_readClause, 59)) rfl (by decide)
set_option maxRecDepth 100000 in
theorem wl_X12_readOrder : Cond.selects yX12_readOrder.cls yX12_readOrder yX12_readOrder ∈ lw_good := mem_sel (i := 77) (q := (yX12_readOrder, 59)) rfl (by decide)
set_option maxRecDepth 100000 in
theorem wl_X7_cutTokens : Cond.selects yX7_cutTokens.cls yX7_cutTokens yX7_cutTokens ∈ lw_good := mem_sel (i := 10) (q := (yX7_cutTokens, 10)) rfl (by decide)
set_option maxRecDepth 100000 in
theorem wl_X7_lawClause : Cond.selects yX7_lawClause.cls yX7_lawClause yX7_lawClause ∈ lw_good := mem_sel (i := 31) (q := (yX7_lawClause, 10)) rfl (by decide)
set_option maxRecDepth 100000 in
theorem wl_X7_orderClause : Cond.selects yX7_orderClause.cls yX7_orderClause yX7_orderClause ∈ lw_good := mem_sel (i := 14) (q := (yX7_orderClause, 10)) rfl (by decide)
set_option maxRecDepth 100000 in
theorem wl_X11_tellSteward : Cond.selects yX11_tellSteward.cls yX11_tellSteward yX11_tellSteward ∈ lw_good := mem_sel (i := 32) (q := (yX11_tellSteward, 16)) rfl (by decide)
set_option maxRecDepth 100000 in
theorem wl_X11_runOnce : Cond.selects yX11_runOnce.cls yX11_runOnce yX11_runOnce ∈ lw_good := mem_sel (i := 34) (q := (yX11_runOnce, 16)) rfl (by decide)
set_option maxRecDepth 100000 in
theorem wl_X12_bears : Cond.selects yX12_bears.cls yX12_bears yX12_bears ∈ lw_good := mem_sel (i := 72) (q := (yX12_bears, 59)) rfl (by decide)
set_option maxRecDepth 100000 in
theorem wl_X12_lists : Cond.selects yX12_lists.cls yX12_lists yX12_lists ∈ lw_good := mem_sel (i := 69) (q := (yX12_lists, 59)) rfl (by decide)
set_option maxRecDepth 100000 in
theorem wl_X12_draws : Cond.selects yX12_draws.cls yX12_draws yX12_draws ∈ lw_good := mem_sel (i := 112) (q := (yX12_draws, 59)) rfl (by decide)
set_option maxRecDepth 100000 in
theorem wl_X12_splits : Cond.selects yX12_splits.cls yX12_splits yX12_splits ∈ lw_good := mem_sel (i := 74) (q := (yX12_splits, 59)) rfl (by decide)
set_option maxRecDepth 100000 in
theorem wl_X12_readOne : Cond.selects yX12_readOne.cls yX12_readOne yX12_readOne ∈ lw_good := mem_sel (i := 76) (q := (yX12_readOne, 59)) rfl (by decide)
set_option maxRecDepth 100000 in
theorem wl_X12_daughters : Cond.selects yX12_daughters.cls yX12_daughters yX12_daughters ∈ lw_good := mem_sel (i := 95) (q := (yX12_daughters, 59)) rfl (by decide)
set_option maxRecDepth 100000 in
theorem wl_X12_stepsIn : Cond.selects yX12_stepsIn.cls yX12_stepsIn yX12_stepsIn ∈ lw_good := mem_sel (i := 96) (q := (yX12_stepsIn, 59)) rfl (by decide)
set_option maxRecDepth 100000 in
theorem wl_X12_changedBack : Cond.selects yX12_changedBack.cls yX12_changedBack yX12_changedBack ∈ lw_good := mem_sel (i := 97) (q := (yX12_changedBack, 59)) rfl (by decide)
set_option maxRecDepth 100000 in
theorem wl_X12_leadsTo : Cond.selects yX12_leadsTo.cls yX12_leadsTo yX12_leadsTo ∈ lw_good := mem_sel (i := 98) (q := (yX12_leadsTo, 59)) rfl (by decide)
set_option maxRecDepth 100000 in
theorem wl_X12_laysNext : Cond.selects yX12_laysNext.cls yX12_laysNext yX12_laysNext ∈ lw_good := mem_sel (i := 94) (q := (yX12_laysNext, 59)) rfl (by decide)
set_option maxRecDepth 100000 in
theorem wl_X12_measuresTo : Cond.selects yX12_measuresTo.cls yX12_measuresTo yX12_measuresTo ∈ lw_good := mem_sel (i := 101) (q := (yX12_measuresTo, 59)) rfl (by decide)
set_option maxRecDepth 100000 in
theorem wl_X12_reads : Cond.selects yX12_reads.cls yX12_reads yX12_reads ∈ lw_good := mem_sel (i := 73) (q := (yX12_reads, 59)) rfl (by decide)
set_option maxRecDepth 100000 in
theorem wl_X12_lays : Cond.selects yX12_lays.cls yX12_lays yX12_lays ∈ lw_good := mem_sel (i := 92) (q := (yX12_lays, 59)) rfl (by decide)
set_option maxRecDepth 100000 in
theorem wl_X12_parts : Cond.selects yX12_parts.cls yX12_parts yX12_parts ∈ lw_good := mem_sel (i := 103) (q := (yX12_parts, 59)) rfl (by decide)
set_option maxRecDepth 100000 in
theorem wl_X12_goesAlong : Cond.selects yX12_goesAlong.cls yX12_goesAlong yX12_goesAlong ∈ lw_good := mem_sel (i := 109) (q := (yX12_goesAlong, 59)) rfl (by decide)
set_option maxRecDepth 100000 in
theorem wl_X12_obeys : Cond.selects yX12_obeys.cls yX12_obeys yX12_obeys ∈ lw_good := mem_sel (i := 111) (q := (yX12_obeys, 59)) rfl (by decide)
set_option maxRecDepth 100000 in
theorem wl_X12_measures : Cond.selects yX12_measures.cls yX12_measures yX12_measures ∈ lw_good := mem_sel (i := 93) (q := (yX12_measures, 59)) rfl (by decide)
set_option maxRecDepth 100000 in
theorem wl_X12_isTree : Cond.selects yX12_isTree.cls yX12_isTree yX12_isTree ∈ lw_good := mem_sel (i := 102) (q := (yX12_isTree, 59)) rfl (by decide)
set_option maxRecDepth 100000 in
theorem wl_X12_runs : Cond.selects yX12_runs.cls yX12_runs yX12_runs ∈ lw_good := mem_sel (i := 108) (q := (yX12_runs, 59)) rfl (by decide)
theorem cpyW : CpyW := ⟨wv_acopy, wt_acopy, wn_sys⟩
set_option maxRecDepth 100000 in
set_option maxHeartbeats 4000000 in
theorem F_0_in : ∀ w ∈ u_ws RX0 TX0 9, w ∈ lw_good := mem_goods [387, 389, 391, 393, 395, 397, 399, 401, 403] rfl (by decide +kernel)
theorem F_0 : FCls 0 RX0 TX0 9 tyX0 := ⟨by decide, rfl, F_0_in, tyX0_ok, nmX0, rfl, by decide +kernel, wm_0, wn_X0, by decide +kernel⟩
set_option maxRecDepth 100000 in
set_option maxHeartbeats 4000000 in
theorem F_1_in : ∀ w ∈ u_ws RX1 TX1 8, w ∈ lw_good := mem_goods [267, 269, 271, 273, 275, 277, 279, 281] rfl (by decide +kernel)
theorem F_1 : FCls 1 RX1 TX1 8 tyX1 := ⟨by decide, rfl, F_1_in, tyX1_ok, nmX1, rfl, by decide +kernel, wm_1, wn_X1, by decide +kernel⟩
set_option maxRecDepth 100000 in
set_option maxHeartbeats 4000000 in
theorem F_2_in : ∀ w ∈ u_ws RX2 TX2 11, w ∈ lw_good := mem_goods [666, 668, 670, 672, 674, 676, 678, 680, 682, 684, 686] rfl (by decide +kernel)
theorem F_2 : FCls 2 RX2 TX2 11 tyX2 := ⟨by decide, rfl, F_2_in, tyX2_ok, nmX2, rfl, by decide +kernel, wm_2, wn_X2, by decide +kernel⟩
set_option maxRecDepth 100000 in
set_option maxHeartbeats 4000000 in
theorem F_3_in : ∀ w ∈ u_ws RX3 TX3 2, w ∈ lw_good := mem_goods [187, 189] rfl (by decide +kernel)
theorem F_3 : FCls 3 RX3 TX3 2 tyX3 := ⟨by decide, rfl, F_3_in, tyX3_ok, nmX3, rfl, by decide +kernel, wm_3, wn_X3, by decide +kernel⟩
set_option maxRecDepth 100000 in
set_option maxHeartbeats 4000000 in
theorem F_4_in : ∀ w ∈ u_ws RX4 TX4 10, w ∈ lw_good := mem_goods [305, 307, 309, 311, 313, 315, 317, 319, 321, 323] rfl (by decide +kernel)
theorem F_4 : FCls 4 RX4 TX4 10 tyX4 := ⟨by decide, rfl, F_4_in, tyX4_ok, nmX4, rfl, by decide +kernel, wm_4, wn_X4, by decide +kernel⟩
set_option maxRecDepth 100000 in
set_option maxHeartbeats 4000000 in
theorem F_5_in : ∀ w ∈ u_ws RX5 TX5 12, w ∈ lw_good := mem_goods [346, 348, 350, 352, 354, 356, 358, 360, 362, 364, 366, 368] rfl (by decide +kernel)
theorem F_5 : FCls 5 RX5 TX5 12 tyX5 := ⟨by decide, rfl, F_5_in, tyX5_ok, nmX5, rfl, by decide +kernel, wm_5, wn_X5, by decide +kernel⟩
set_option maxRecDepth 100000 in
set_option maxHeartbeats 4000000 in
theorem F_6_in : ∀ w ∈ u_ws RX6 TX6 4, w ∈ lw_good := mem_goods [242, 244, 246, 248] rfl (by decide +kernel)
theorem F_6 : FCls 6 RX6 TX6 4 tyX6 := ⟨by decide, rfl, F_6_in, tyX6_ok, nmX6, rfl, by decide +kernel, wm_6, wn_X6, by decide +kernel⟩
set_option maxRecDepth 100000 in
set_option maxHeartbeats 4000000 in
theorem F_7_in : ∀ w ∈ u_ws RX7 TX7 10, w ∈ lw_good := mem_goods [156, 158, 160, 162, 164, 166, 168, 170, 172, 174] rfl (by decide +kernel)
theorem F_7 : FCls 7 RX7 TX7 10 tyX7 := ⟨by decide, rfl, F_7_in, tyX7_ok, nmX7, rfl, by decide +kernel, wm_7, wn_X7, by decide +kernel⟩
set_option maxRecDepth 100000 in
set_option maxHeartbeats 4000000 in
theorem F_8_in : ∀ w ∈ u_ws RX8 TX8 7, w ∈ lw_good := mem_goods [208, 210, 212, 214, 216, 218, 220] rfl (by decide +kernel)
theorem F_8 : FCls 8 RX8 TX8 7 tyX8 := ⟨by decide, rfl, F_8_in, tyX8_ok, nmX8, rfl, by decide +kernel, wm_8, wn_X8, by decide +kernel⟩
set_option maxRecDepth 100000 in
set_option maxHeartbeats 4000000 in
theorem F_9_in : ∀ w ∈ u_ws RX9 TX9 5, w ∈ lw_good := mem_goods [132, 134, 136, 138, 140] rfl (by decide +kernel)
theorem F_9 : FCls 9 RX9 TX9 5 tyX9 := ⟨by decide, rfl, F_9_in, tyX9_ok, nmX9, rfl, by decide +kernel, wm_9, wn_X9, by decide +kernel⟩
set_option maxRecDepth 100000 in
set_option maxHeartbeats 4000000 in
theorem F_10_in : ∀ w ∈ u_ws RX10 TX10 15, w ∈ lw_good := mem_goods [75, 77, 79, 81, 83, 85, 87, 89, 91, 93, 95, 97, 99, 101, 103] rfl (by decide +kernel)
theorem F_10 : FCls 10 RX10 TX10 15 tyX10 := ⟨by decide, rfl, F_10_in, tyX10_ok, nmX10, rfl, by decide +kernel, wm_10, wn_X10, by decide +kernel⟩
set_option maxRecDepth 100000 in
set_option maxHeartbeats 4000000 in
theorem F_11_in : ∀ w ∈ u_ws RX11 TX11 16, w ∈ lw_good := mem_goods [422, 424, 426, 428, 430, 432, 434, 436, 438, 440, 442, 444, 446, 448, 450, 452] rfl (by decide +kernel)
theorem F_11 : FCls 11 RX11 TX11 16 tyX11 := ⟨by decide, rfl, F_11_in, tyX11_ok, nmX11, rfl, by decide +kernel, wm_11, wn_X11, by decide +kernel⟩
set_option maxRecDepth 100000 in
set_option maxHeartbeats 4000000 in
theorem F_12_in : ∀ w ∈ u_ws RX12 TX12 59, w ∈ lw_good := mem_goods [1301, 1303, 1305, 1307, 1309, 1311, 1313, 1315, 1317, 1319, 1321, 1323, 1325, 1327, 1329, 1331, 1333, 1335, 1337, 1339, 1341, 1343, 1345, 1347, 1349, 1351, 1353, 1355, 1357, 1359, 1361, 1363, 1365, 1367, 1369, 1371, 1373, 1375, 1377, 1379, 1381, 1383, 1385, 1387, 1389, 1391, 1393, 1395, 1397, 1399, 1401, 1403, 1405, 1407, 1409, 1411, 1413, 1415, 1417] rfl (by decide +kernel)
theorem F_12 : FCls 12 RX12 TX12 59 tyX12 := ⟨by decide, rfl, F_12_in, tyX12_ok, nmX12, rfl, by decide +kernel, wm_12, wn_X12, by decide +kernel⟩
theorem cl_X10_hasHouse : Cal yX10_hasHouse cX10_hasHouse 2 (some .boolean) 1 := ⟨wc_X10_hasHouse, wn_X10, by decide, by decide, by decide +kernel⟩
theorem cl_X11_isThing : Cal yX11_isThing cX11_isThing 1 (some .boolean) 1 := ⟨wc_X11_isThing, wn_X11, by decide, by decide, by decide +kernel⟩
theorem cl_X10_isLikeEarlier : Cal yX10_isLikeEarlier cX10_isLikeEarlier 5 (some .boolean) 3 := ⟨wc_X10_isLikeEarlier, wn_X10, by decide, by decide, by decide +kernel⟩
theorem cl_X10_holds : Cal yX10_holds cX10_holds 3 (some .int) 2 := ⟨wc_X10_holds, wn_X10, by decide, by decide, by decide +kernel⟩
theorem cl_X10_touchRules : Cal yX10_touchRules cX10_touchRules 1 none 0 := ⟨wc_X10_touchRules, wn_X10, by decide, by decide, by decide +kernel⟩
theorem cl_X11_refuse : Cal yX11_refuse cX11_refuse 2 (some .int) 1 := ⟨wc_X11_refuse, wn_X11, by decide, by decide, by decide +kernel⟩
theorem cl_X11_accept : Cal yX11_accept cX11_accept 2 (some .int) 1 := ⟨wc_X11_accept, wn_X11, by decide, by decide, by decide +kernel⟩
theorem cl_X10_thingRow : Cal yX10_thingRow cX10_thingRow 2 (some (.array .int)) 1 := ⟨wc_X10_thingRow, wn_X10, by decide, by decide, by decide +kernel⟩
theorem cl_X6_lengthOf : Cal yX6_lengthOf cX6_lengthOf 2 (some .int) 1 := ⟨wc_X6_lengthOf, wn_X6, by decide, by decide, by decide +kernel⟩
theorem cl_X11_isYear : Cal yX11_isYear cX11_isYear 1 (some .boolean) 1 := ⟨wc_X11_isYear, wn_X11, by decide, by decide, by decide +kernel⟩
theorem cl_X10_turnTo : Cal yX10_turnTo cX10_turnTo 2 none 1 := ⟨wc_X10_turnTo, wn_X10, by decide, by decide, by decide +kernel⟩
theorem cl_X12_isOne : Cal yX12_isOne cX12_isOne 2 (some .boolean) 2 := ⟨wc_X12_isOne, wn_X12, by decide, by decide, by decide +kernel⟩
theorem cl_X12_fact : Cal yX12_fact cX12_fact 3 (some .int) 2 := ⟨wc_X12_fact, wn_X12, by decide, by decide, by decide +kernel⟩
theorem cl_X12_has : Cal yX12_has cX12_has 5 (some .int) 2 := ⟨wc_X12_has, wn_X12, by decide, by decide, by decide +kernel⟩
theorem cl_X12_lies : Cal yX12_lies cX12_lies 3 (some .boolean) 3 := ⟨wc_X12_lies, wn_X12, by decide, by decide, by decide +kernel⟩
theorem cl_X12_good : Cal yX12_good cX12_good 2 (some .int) 1 := ⟨wc_X12_good, wn_X12, by decide, by decide, by decide +kernel⟩
theorem cl_X12_refuses : Cal yX12_refuses cX12_refuses 2 (some .int) 1 := ⟨wc_X12_refuses, wn_X12, by decide, by decide, by decide +kernel⟩
theorem cl_X12_fine : Cal yX12_fine cX12_fine 1 (some .boolean) 0 := ⟨wc_X12_fine, wn_X12, by decide, by decide, by decide +kernel⟩
theorem cl_X12_opens : Cal yX12_opens cX12_opens 4 none 1 := ⟨wc_X12_opens, wn_X12, by decide, by decide, by decide +kernel⟩
theorem cl_X12_closes : Cal yX12_closes cX12_closes 3 (some .int) 0 := ⟨wc_X12_closes, wn_X12, by decide, by decide, by decide +kernel⟩
theorem cl_X12_codeAt : Cal yX12_codeAt cX12_codeAt 2 (some .int) 1 := ⟨wc_X12_codeAt, wn_X12, by decide, by decide, by decide +kernel⟩
theorem cl_X12_adds : Cal yX12_adds cX12_adds 5 none 3 := ⟨wc_X12_adds, wn_X12, by decide, by decide, by decide +kernel⟩
theorem cl_X12_longOf : Cal yX12_longOf cX12_longOf 3 (some .int) 1 := ⟨wc_X12_longOf, wn_X12, by decide, by decide, by decide +kernel⟩
theorem cl_X12_isSmall : Cal yX12_isSmall cX12_isSmall 1 (some .boolean) 1 := ⟨wc_X12_isSmall, wn_X12, by decide, by decide, by decide +kernel⟩
theorem cl_X12_isDigit : Cal yX12_isDigit cX12_isDigit 1 (some .boolean) 1 := ⟨wc_X12_isDigit, wn_X12, by decide, by decide, by decide +kernel⟩
theorem cl_X12_wordOf : Cal yX12_wordOf cX12_wordOf 8 (some .int) 2 := ⟨wc_X12_wordOf, wn_X12, by decide, by decide, by decide +kernel⟩
theorem cl_X6_init : Cal yX6_init cX6_init 1 none 0 := ⟨wc_X6_init, wn_X6, by decide, by decide, by decide +kernel⟩
theorem cl_J7_fill_fb410 : Cal yJ7_fill_fb410 cJ7_fill_fb410 4 none 2 := ⟨wc_J7_fill_fb410, wn_J7, by decide, by decide, by decide +kernel⟩
theorem cl_X2_note : Cal yX2_note cX2_note 2 none 1 := ⟨wc_X2_note, wn_X2, by decide, by decide, by decide +kernel⟩
theorem cl_X3_apply : Cal yX3_apply cX3_apply 7 (some .long) 3 := ⟨wc_X3_apply, wn_X3, by decide, by decide, by decide +kernel⟩
theorem cl_X5_houseAt : Cal yX5_houseAt cX5_houseAt 2 (some .int) 1 := ⟨wc_X5_houseAt, wn_X5, by decide, by decide, by decide +kernel⟩
theorem cl_X5_comesOf : Cal yX5_comesOf cX5_comesOf 5 (some .boolean) 2 := ⟨wc_X5_comesOf, wn_X5, by decide, by decide, by decide +kernel⟩
theorem cl_X5_seek : Cal yX5_seek cX5_seek 7 none 3 := ⟨wc_X5_seek, wn_X5, by decide, by decide, by decide +kernel⟩
theorem cl_X5_noteRow : Cal yX5_noteRow cX5_noteRow 1 none 0 := ⟨wc_X5_noteRow, wn_X5, by decide, by decide, by decide +kernel⟩
theorem cl_J6_bitCount_0f7a4 : Cal yJ6_bitCount_0f7a4 cJ6_bitCount_0f7a4 1 (some .int) 1 := ⟨wc_J6_bitCount_0f7a4, wn_J6, by decide, by decide, by decide +kernel⟩
theorem cl_X5_nearest : Cal yX5_nearest cX5_nearest 5 (some .int) 2 := ⟨wc_X5_nearest, wn_X5, by decide, by decide, by decide +kernel⟩
theorem cl_X6_hasPlace : Cal yX6_hasPlace cX6_hasPlace 2 (some .boolean) 1 := ⟨wc_X6_hasPlace, wn_X6, by decide, by decide, by decide +kernel⟩
theorem cl_X6_hasRoomAt : Cal yX6_hasRoomAt cX6_hasRoomAt 2 (some .boolean) 1 := ⟨wc_X6_hasRoomAt, wn_X6, by decide, by decide, by decide +kernel⟩
theorem cl_X7_hasRoomFor : Cal yX7_hasRoomFor cX7_hasRoomFor 2 (some .boolean) 1 := ⟨wc_X7_hasRoomFor, wn_X7, by decide, by decide, by decide +kernel⟩
theorem cl_X7_byteAt : Cal yX7_byteAt cX7_byteAt 2 (some .int) 1 := ⟨wc_X7_byteAt, wn_X7, by decide, by decide, by decide +kernel⟩
theorem cl_X6_rankOf : Cal yX6_rankOf cX6_rankOf 6 (some .int) 1 := ⟨wc_X6_rankOf, wn_X6, by decide, by decide, by decide +kernel⟩
theorem cl_X9_init : Cal yX9_init cX9_init 3 none 2 := ⟨wc_X9_init, wn_X9, by decide, by decide, by decide +kernel⟩
theorem cl_X7_next : Cal yX7_next cX7_next 1 none 0 := ⟨wc_X7_next, wn_X7, by decide, by decide, by decide +kernel⟩
theorem cl_X3_init : Cal yX3_init cX3_init 1 none 0 := ⟨wc_X3_init, wn_X3, by decide, by decide, by decide +kernel⟩
theorem cl_X10_textInForce : Cal yX10_textInForce cX10_textInForce 1 (some (.object "DishLines$Text")) 0 := ⟨wc_X10_textInForce, wn_X10, by decide, by decide, by decide +kernel⟩
theorem cl_X9_set : Cal yX9_set cX9_set 4 none 2 := ⟨wc_X9_set, wn_X9, by decide, by decide, by decide +kernel⟩
theorem cl_X6_tasteOf : Cal yX6_tasteOf cX6_tasteOf 5 (some .int) 1 := ⟨wc_X6_tasteOf, wn_X6, by decide, by decide, by decide +kernel⟩
theorem cl_X10_takeFrom : Cal yX10_takeFrom cX10_takeFrom 2 none 1 := ⟨wc_X10_takeFrom, wn_X10, by decide, by decide, by decide +kernel⟩
theorem cl_X6_leftOut : Cal yX6_leftOut cX6_leftOut 8 (some .int) 2 := ⟨wc_X6_leftOut, wn_X6, by decide, by decide, by decide +kernel⟩
theorem cl_X6_numberOf : Cal yX6_numberOf cX6_numberOf 6 (some .int) 1 := ⟨wc_X6_numberOf, wn_X6, by decide, by decide, by decide +kernel⟩
theorem cl_X7_addFour : Cal yX7_addFour cX7_addFour 3 none 1 := ⟨wc_X7_addFour, wn_X7, by decide, by decide, by decide +kernel⟩
theorem cl_X10_init : Cal yX10_init cX10_init 1 none 0 := ⟨wc_X10_init, wn_X10, by decide, by decide, by decide +kernel⟩
theorem cl_X7_init : Cal yX7_init cX7_init 1 none 0 := ⟨wc_X7_init, wn_X7, by decide, by decide, by decide +kernel⟩
theorem cl_X8_init : Cal yX8_init cX8_init 2 none 1 := ⟨wc_X8_init, wn_X8, by decide, by decide, by decide +kernel⟩
theorem cl_X1_init : Cal yX1_init cX1_init 3 none 2 := ⟨wc_X1_init, wn_X1, by decide, by decide, by decide +kernel⟩
theorem cl_X4_init : Cal yX4_init cX4_init 3 none 2 := ⟨wc_X4_init, wn_X4, by decide, by decide, by decide +kernel⟩
theorem cl_X5_init : Cal yX5_init cX5_init 1 none 0 := ⟨wc_X5_init, wn_X5, by decide, by decide, by decide +kernel⟩
theorem cl_X0_init : Cal yX0_init cX0_init 4 none 3 := ⟨wc_X0_init, wn_X0, by decide, by decide, by decide +kernel⟩
theorem cl_X10_yearBehind : Cal yX10_yearBehind cX10_yearBehind 4 (some .int) 1 := ⟨wc_X10_yearBehind, wn_X10, by decide, by decide, by decide +kernel⟩
theorem cl_X10_isPoor : Cal yX10_isPoor cX10_isPoor 5 (some .boolean) 2 := ⟨wc_X10_isPoor, wn_X10, by decide, by decide, by decide +kernel⟩
theorem cl_X11_isValueOf : Cal yX11_isValueOf cX11_isValueOf 3 (some .boolean) 3 := ⟨wc_X11_isValueOf, wn_X11, by decide, by decide, by decide +kernel⟩
theorem cl_X10_gotInstead : Cal yX10_gotInstead cX10_gotInstead 4 (some .int) 1 := ⟨wc_X10_gotInstead, wn_X10, by decide, by decide, by decide +kernel⟩
theorem cl_X10_toldOf : Cal yX10_toldOf cX10_toldOf 2 (some .int) 1 := ⟨wc_X10_toldOf, wn_X10, by decide, by decide, by decide +kernel⟩
theorem cl_X10_groupsBy : Cal yX10_groupsBy cX10_groupsBy 6 (some .int) 2 := ⟨wc_X10_groupsBy, wn_X10, by decide, by decide, by decide +kernel⟩
theorem cl_J7_fill_53178 : Cal yJ7_fill_53178 cJ7_fill_53178 4 none 2 := ⟨wc_J7_fill_53178, wn_J7, by decide, by decide, by decide +kernel⟩
theorem cl_X11_tellHouse : Cal yX11_tellHouse cX11_tellHouse 3 none 1 := ⟨wc_X11_tellHouse, wn_X11, by decide, by decide, by decide +kernel⟩
theorem cl_X10_keepHouses : Cal yX10_keepHouses cX10_keepHouses 2 none 1 := ⟨wc_X10_keepHouses, wn_X10, by decide, by decide, by decide +kernel⟩
theorem cl_X12_isDish : Cal yX12_isDish cX12_isDish 2 (some .boolean) 1 := ⟨wc_X12_isDish, wn_X12, by decide, by decide, by decide +kernel⟩
theorem cl_X12_without : Cal yX12_without cX12_without 5 (some .int) 2 := ⟨wc_X12_without, wn_X12, by decide, by decide, by decide +kernel⟩
theorem cl_X12_areAlike : Cal yX12_areAlike cX12_areAlike 5 (some .boolean) 3 := ⟨wc_X12_areAlike, wn_X12, by decide, by decide, by decide +kernel⟩
theorem cl_X12_faults : Cal yX12_faults cX12_faults 1 none 0 := ⟨wc_X12_faults, wn_X12, by decide, by decide, by decide +kernel⟩
theorem cl_X12_takes0 : Cal yX12_takes0 cX12_takes0 3 (some .boolean) 1 := ⟨wc_X12_takes0, wn_X12, by decide, by decide, by decide +kernel⟩
theorem cl_X12_isThing : Cal yX12_isThing cX12_isThing 1 (some .boolean) 1 := ⟨wc_X12_isThing, wn_X12, by decide, by decide, by decide +kernel⟩
theorem cl_X12_sign : Cal yX12_sign cX12_sign 1 (some .int) 1 := ⟨wc_X12_sign, wn_X12, by decide, by decide, by decide +kernel⟩
theorem cl_X12_passes0 : Cal yX12_passes0 cX12_passes0 3 (some .boolean) 1 := ⟨wc_X12_passes0, wn_X12, by decide, by decide, by decide +kernel⟩
theorem cl_X12_isHouse : Cal yX12_isHouse cX12_isHouse 2 (some .boolean) 1 := ⟨wc_X12_isHouse, wn_X12, by decide, by decide, by decide +kernel⟩
theorem cl_X12_sumOf : Cal yX12_sumOf cX12_sumOf 7 (some .long) 1 := ⟨wc_X12_sumOf, wn_X12, by decide, by decide, by decide +kernel⟩
theorem cl_X12_isPoor : Cal yX12_isPoor cX12_isPoor 6 (some .boolean) 2 := ⟨wc_X12_isPoor, wn_X12, by decide, by decide, by decide +kernel⟩
theorem cl_X12_isPut : Cal yX12_isPut cX12_isPut 3 (some .boolean) 3 := ⟨wc_X12_isPut, wn_X12, by decide, by decide, by decide +kernel⟩
theorem cl_X12_gotFor : Cal yX12_gotFor cX12_gotFor 4 (some .int) 1 := ⟨wc_X12_gotFor, wn_X12, by decide, by decide, by decide +kernel⟩
theorem cl_X12_termOf : Cal yX12_termOf cX12_termOf 7 (some .long) 1 := ⟨wc_X12_termOf, wn_X12, by decide, by decide, by decide +kernel⟩
theorem cl_X12_bounded : Cal yX12_bounded cX12_bounded 4 (some .long) 2 := ⟨wc_X12_bounded, wn_X12, by decide, by decide, by decide +kernel⟩
theorem cl_X12_partOf : Cal yX12_partOf cX12_partOf 5 (some .long) 1 := ⟨wc_X12_partOf, wn_X12, by decide, by decide, by decide +kernel⟩
theorem cl_X6_load : Cal yX6_load cX6_load 5 none 1 := ⟨wc_X6_load, wn_X6, by decide, by decide, by decide +kernel⟩
theorem cl_X8_open : Cal yX8_open cX8_open 3 none 1 := ⟨wc_X8_open, wn_X8, by decide, by decide, by decide +kernel⟩
theorem cl_X2_isOf : Cal yX2_isOf cX2_isOf 3 (some .boolean) 2 := ⟨wc_X2_isOf, wn_X2, by decide, by decide, by decide +kernel⟩
theorem cl_X2_begin : Cal yX2_begin cX2_begin 4 none 2 := ⟨wc_X2_begin, wn_X2, by decide, by decide, by decide +kernel⟩
theorem cl_X2_init : Cal yX2_init cX2_init 3 none 2 := ⟨wc_X2_init, wn_X2, by decide, by decide, by decide +kernel⟩
theorem cl_X6_with : Cal yX6_with cX6_with 4 (some .int) 2 := ⟨wc_X6_with, wn_X6, by decide, by decide, by decide +kernel⟩
theorem cl_X7_sum : Cal yX7_sum cX7_sum 4 (some .boolean) 1 := ⟨wc_X7_sum, wn_X7, by decide, by decide, by decide +kernel⟩
theorem cl_X7_fail : Cal yX7_fail cX7_fail 1 (some .boolean) 0 := ⟨wc_X7_fail, wn_X7, by decide, by decide, by decide +kernel⟩
theorem cl_X9_emit : Cal yX9_emit cX9_emit 3 (some .int) 2 := ⟨wc_X9_emit, wn_X9, by decide, by decide, by decide +kernel⟩
theorem cl_X7_lawWord : Cal yX7_lawWord cX7_lawWord 1 (some .int) 0 := ⟨wc_X7_lawWord, wn_X7, by decide, by decide, by decide +kernel⟩
theorem cl_X7_orderWord : Cal yX7_orderWord cX7_orderWord 4 (some .int) 0 := ⟨wc_X7_orderWord, wn_X7, by decide, by decide, by decide +kernel⟩
theorem cl_X7_inSquare : Cal yX7_inSquare cX7_inSquare 2 (some .boolean) 1 := ⟨wc_X7_inSquare, wn_X7, by decide, by decide, by decide +kernel⟩
theorem cl_X7_term : Cal yX7_term cX7_term 4 (some .boolean) 1 := ⟨wc_X7_term, wn_X7, by decide, by decide, by decide +kernel⟩
theorem cl_X7_opOf : Cal yX7_opOf cX7_opOf 4 (some .int) 2 := ⟨wc_X7_opOf, wn_X7, by decide, by decide, by decide +kernel⟩
theorem cl_X7_part : Cal yX7_part cX7_part 3 (some .boolean) 1 := ⟨wc_X7_part, wn_X7, by decide, by decide, by decide +kernel⟩
theorem cl_X9_told : Cal yX9_told cX9_told 4 (some .int) 2 := ⟨wc_X9_told, wn_X9, by decide, by decide, by decide +kernel⟩
theorem cl_X3_run : Cal yX3_run cX3_run 9 (some .long) 2 := ⟨wc_X3_run, wn_X3, by decide, by decide, by decide +kernel⟩
theorem cl_X10_add : Cal yX10_add cX10_add 4 (some .int) 3 := ⟨wc_X10_add, wn_X10, by decide, by decide, by decide +kernel⟩
theorem cl_X11_settle : Cal yX11_settle cX11_settle 2 (some .int) 1 := ⟨wc_X11_settle, wn_X11, by decide, by decide, by decide +kernel⟩
theorem cl_X7_dishAt : Cal yX7_dishAt cX7_dishAt 5 (some .int) 2 := ⟨wc_X7_dishAt, wn_X7, by decide, by decide, by decide +kernel⟩
theorem cl_X12_whyNot : Cal yX12_whyNot cX12_whyNot 4 (some .int) 3 := ⟨wc_X12_whyNot, wn_X12, by decide, by decide, by decide +kernel⟩
theorem cl_X12_leaf : Cal yX12_leaf cX12_leaf 1 none 0 := ⟨wc_X12_leaf, wn_X12, by decide, by decide, by decide +kernel⟩
theorem cl_X12_mustNumber : Cal yX12_mustNumber cX12_mustNumber 3 none 2 := ⟨wc_X12_mustNumber, wn_X12, by decide, by decide, by decide +kernel⟩
theorem cl_X12_isValue : Cal yX12_isValue cX12_isValue 2 (some .boolean) 1 := ⟨wc_X12_isValue, wn_X12, by decide, by decide, by decide +kernel⟩
theorem cl_X12_readSum : Cal yX12_readSum cX12_readSum 2 none 1 := ⟨wc_X12_readSum, wn_X12, by decide, by decide, by decide +kernel⟩
theorem cl_X12_must : Cal yX12_must cX12_must 2 none 1 := ⟨wc_X12_must, wn_X12, by decide, by decide, by decide +kernel⟩
theorem cl_X12_readTerm : Cal yX12_readTerm cX12_readTerm 2 none 1 := ⟨wc_X12_readTerm, wn_X12, by decide, by decide, by decide +kernel⟩
theorem cl_X12_readPart : Cal yX12_readPart cX12_readPart 3 none 1 := ⟨wc_X12_readPart, wn_X12, by decide, by decide, by decide +kernel⟩
theorem cl_X12_areHouses : Cal yX12_areHouses cX12_areHouses 2 (some .boolean) 1 := ⟨wc_X12_areHouses, wn_X12, by decide, by decide, by decide +kernel⟩
theorem cl_X12_groups : Cal yX12_groups cX12_groups 7 (some .int) 2 := ⟨wc_X12_groups, wn_X12, by decide, by decide, by decide +kernel⟩
theorem cl_X12_ones : Cal yX12_ones cX12_ones 3 (some .int) 1 := ⟨wc_X12_ones, wn_X12, by decide, by decide, by decide +kernel⟩
theorem cl_X8_askLaw : Cal yX8_askLaw cX8_askLaw 6 (some .int) 0 := ⟨wc_X8_askLaw, wn_X8, by decide, by decide, by decide +kernel⟩
theorem cl_X8_weightOf : Cal yX8_weightOf cX8_weightOf 8 (some .int) 5 := ⟨wc_X8_weightOf, wn_X8, by decide, by decide, by decide +kernel⟩
theorem cl_X6_without : Cal yX6_without cX6_without 3 (some .int) 1 := ⟨wc_X6_without, wn_X6, by decide, by decide, by decide +kernel⟩
theorem cl_X6_swapped : Cal yX6_swapped cX6_swapped 3 (some .int) 1 := ⟨wc_X6_swapped, wn_X6, by decide, by decide, by decide +kernel⟩
theorem cl_X6_doubled : Cal yX6_doubled cX6_doubled 2 (some .int) 1 := ⟨wc_X6_doubled, wn_X6, by decide, by decide, by decide +kernel⟩
theorem cl_X6_replaced : Cal yX6_replaced cX6_replaced 3 (some .int) 2 := ⟨wc_X6_replaced, wn_X6, by decide, by decide, by decide +kernel⟩
theorem cl_X11_isChange : Cal yX11_isChange cX11_isChange 3 (some .boolean) 3 := ⟨wc_X11_isChange, wn_X11, by decide, by decide, by decide +kernel⟩
theorem cl_X1_take : Cal yX1_take cX1_take 2 none 1 := ⟨wc_X1_take, wn_X1, by decide, by decide, by decide +kernel⟩
theorem cl_X1_makes : Cal yX1_makes cX1_makes 6 (some .int) 3 := ⟨wc_X1_makes, wn_X1, by decide, by decide, by decide +kernel⟩
theorem cl_X8_isFree : Cal yX8_isFree cX8_isFree 1 (some .boolean) 0 := ⟨wc_X8_isFree, wn_X8, by decide, by decide, by decide +kernel⟩
theorem cl_X2_undoInAndDouble : Cal yX2_undoInAndDouble cX2_undoInAndDouble 12 none 3 := ⟨wc_X2_undoInAndDouble, wn_X2, by decide, by decide, by decide +kernel⟩
theorem cl_X2_undoSwap : Cal yX2_undoSwap cX2_undoSwap 10 none 3 := ⟨wc_X2_undoSwap, wn_X2, by decide, by decide, by decide +kernel⟩
theorem cl_X2_undoStand : Cal yX2_undoStand cX2_undoStand 10 none 3 := ⟨wc_X2_undoStand, wn_X2, by decide, by decide, by decide +kernel⟩
theorem cl_X2_undoOut : Cal yX2_undoOut cX2_undoOut 11 none 3 := ⟨wc_X2_undoOut, wn_X2, by decide, by decide, by decide +kernel⟩
theorem cl_X7_wordOf : Cal yX7_wordOf cX7_wordOf 7 (some .int) 2 := ⟨wc_X7_wordOf, wn_X7, by decide, by decide, by decide +kernel⟩
theorem cl_J7_fill_d0a16 : Cal yJ7_fill_d0a16 cJ7_fill_d0a16 5 none 2 := ⟨wc_J7_fill_d0a16, wn_J7, by decide, by decide, by decide +kernel⟩
theorem cl_X1_listAll : Cal yX1_listAll cX1_listAll 6 none 1 := ⟨wc_X1_listAll, wn_X1, by decide, by decide, by decide +kernel⟩
theorem cl_X0_handOn : Cal yX0_handOn cX0_handOn 3 none 1 := ⟨wc_X0_handOn, wn_X0, by decide, by decide, by decide +kernel⟩
theorem cl_X4_tableTo : Cal yX4_tableTo cX4_tableTo 5 (some (.object "DishLines$Distances")) 2 := ⟨wc_X4_tableTo, wn_X4, by decide, by decide, by decide +kernel⟩
theorem cl_X2_spread : Cal yX2_spread cX2_spread 8 none 2 := ⟨wc_X2_spread, wn_X2, by decide, by decide, by decide +kernel⟩
theorem cl_X1_lowestMade : Cal yX1_lowestMade cX1_lowestMade 7 (some .int) 3 := ⟨wc_X1_lowestMade, wn_X1, by decide, by decide, by decide +kernel⟩
theorem cl_X11_giveBirth : Cal yX11_giveBirth cX11_giveBirth 6 (some .int) 4 := ⟨wc_X11_giveBirth, wn_X11, by decide, by decide, by decide +kernel⟩
theorem cl_X1_hasMade : Cal yX1_hasMade cX1_hasMade 3 (some .boolean) 1 := ⟨wc_X1_hasMade, wn_X1, by decide, by decide, by decide +kernel⟩
theorem cl_X1_madeBy : Cal yX1_madeBy cX1_madeBy 4 (some .int) 1 := ⟨wc_X1_madeBy, wn_X1, by decide, by decide, by decide +kernel⟩
theorem cl_X11_turnYear : Cal yX11_turnYear cX11_turnYear 2 (some .int) 1 := ⟨wc_X11_turnYear, wn_X11, by decide, by decide, by decide +kernel⟩
theorem cl_X4_addFrom : Cal yX4_addFrom cX4_addFrom 3 none 1 := ⟨wc_X4_addFrom, wn_X4, by decide, by decide, by decide +kernel⟩
theorem cl_X4_findLeast : Cal yX4_findLeast cX4_findLeast 3 none 0 := ⟨wc_X4_findLeast, wn_X4, by decide, by decide, by decide +kernel⟩
theorem cl_X7_kindAt : Cal yX7_kindAt cX7_kindAt 3 (some .int) 1 := ⟨wc_X7_kindAt, wn_X7, by decide, by decide, by decide +kernel⟩
theorem cl_X7_tokenOf : Cal yX7_tokenOf cX7_tokenOf 6 (some .int) 3 := ⟨wc_X7_tokenOf, wn_X7, by decide, by decide, by decide +kernel⟩
theorem cl_X10_daughtersOf : Cal yX10_daughtersOf cX10_daughtersOf 4 (some .int) 1 := ⟨wc_X10_daughtersOf, wn_X10, by decide, by decide, by decide +kernel⟩
theorem cl_X4_stepsFrom : Cal yX4_stepsFrom cX4_stepsFrom 5 (some .int) 3 := ⟨wc_X4_stepsFrom, wn_X4, by decide, by decide, by decide +kernel⟩
theorem cl_X10_changedBack : Cal yX10_changedBack cX10_changedBack 4 (some .int) 1 := ⟨wc_X10_changedBack, wn_X10, by decide, by decide, by decide +kernel⟩
theorem cl_X4_seekFirst : Cal yX4_seekFirst cX4_seekFirst 4 none 1 := ⟨wc_X4_seekFirst, wn_X4, by decide, by decide, by decide +kernel⟩
theorem cl_X11_keepsCustom : Cal yX11_keepsCustom cX11_keepsCustom 3 (some .boolean) 1 := ⟨wc_X11_keepsCustom, wn_X11, by decide, by decide, by decide +kernel⟩
theorem cl_X0_work : Cal yX0_work cX0_work 5 (some .boolean) 2 := ⟨wc_X0_work, wn_X0, by decide, by decide, by decide +kernel⟩
theorem cl_X0_likeliest : Cal yX0_likeliest cX0_likeliest 3 (some .int) 0 := ⟨wc_X0_likeliest, wn_X0, by decide, by decide, by decide +kernel⟩
theorem cl_X5_workFewest : Cal yX5_workFewest cX5_workFewest 4 none 0 := ⟨wc_X5_workFewest, wn_X5, by decide, by decide, by decide +kernel⟩
theorem cl_X5_workFloor : Cal yX5_workFloor cX5_workFloor 4 none 0 := ⟨wc_X5_workFloor, wn_X5, by decide, by decide, by decide +kernel⟩
theorem cl_X5_isOf : Cal yX5_isOf cX5_isOf 3 (some .boolean) 2 := ⟨wc_X5_isOf, wn_X5, by decide, by decide, by decide +kernel⟩
theorem cl_X5_bestMother : Cal yX5_bestMother cX5_bestMother 2 (some .int) 1 := ⟨wc_X5_bestMother, wn_X5, by decide, by decide, by decide +kernel⟩
theorem cl_X5_take : Cal yX5_take cX5_take 4 none 2 := ⟨wc_X5_take, wn_X5, by decide, by decide, by decide +kernel⟩
theorem cl_X5_setSteps : Cal yX5_setSteps cX5_setSteps 5 none 3 := ⟨wc_X5_setSteps, wn_X5, by decide, by decide, by decide +kernel⟩
theorem cl_X5_search : Cal yX5_search cX5_search 1 none 0 := ⟨wc_X5_search, wn_X5, by decide, by decide, by decide +kernel⟩
theorem cl_X12_plainOf : Cal yX12_plainOf cX12_plainOf 3 (some .boolean) 1 := ⟨wc_X12_plainOf, wn_X12, by decide, by decide, by decide +kernel⟩
theorem cl_X12_positiveOf : Cal yX12_positiveOf cX12_positiveOf 7 (some .boolean) 1 := ⟨wc_X12_positiveOf, wn_X12, by decide, by decide, by decide +kernel⟩
theorem cl_X12_testOf : Cal yX12_testOf cX12_testOf 4 (some .boolean) 1 := ⟨wc_X12_testOf, wn_X12, by decide, by decide, by decide +kernel⟩
theorem cl_X12_bothOf : Cal yX12_bothOf cX12_bothOf 4 (some .boolean) 1 := ⟨wc_X12_bothOf, wn_X12, by decide, by decide, by decide +kernel⟩
theorem cl_X7_plain : Cal yX7_plain cX7_plain 4 (some .boolean) 1 := ⟨wc_X7_plain, wn_X7, by decide, by decide, by decide +kernel⟩
theorem cl_X9_aim : Cal yX9_aim cX9_aim 2 none 1 := ⟨wc_X9_aim, wn_X9, by decide, by decide, by decide +kernel⟩
theorem cl_X7_test : Cal yX7_test cX7_test 4 (some .boolean) 1 := ⟨wc_X7_test, wn_X7, by decide, by decide, by decide +kernel⟩
theorem cl_X7_inRound : Cal yX7_inRound cX7_inRound 2 (some .boolean) 1 := ⟨wc_X7_inRound, wn_X7, by decide, by decide, by decide +kernel⟩
theorem cl_X7_both : Cal yX7_both cX7_both 4 (some .boolean) 1 := ⟨wc_X7_both, wn_X7, by decide, by decide, by decide +kernel⟩
theorem cl_X12_readPlain : Cal yX12_readPlain cX12_readPlain 4 none 1 := ⟨wc_X12_readPlain, wn_X12, by decide, by decide, by decide +kernel⟩
theorem cl_X12_readTest : Cal yX12_readTest cX12_readTest 2 none 1 := ⟨wc_X12_readTest, wn_X12, by decide, by decide, by decide +kernel⟩
theorem cl_X12_readBoth : Cal yX12_readBoth cX12_readBoth 2 none 1 := ⟨wc_X12_readBoth, wn_X12, by decide, by decide, by decide +kernel⟩
theorem cl_X7_sumFor : Cal yX7_sumFor cX7_sumFor 2 (some .boolean) 1 := ⟨wc_X7_sumFor, wn_X7, by decide, by decide, by decide +kernel⟩
theorem cl_X12_nextSum : Cal yX12_nextSum cX12_nextSum 3 none 2 := ⟨wc_X12_nextSum, wn_X12, by decide, by decide, by decide +kernel⟩
theorem cl_X12_makes : Cal yX12_makes cX12_makes 7 (some .int) 4 := ⟨wc_X12_makes, wn_X12, by decide, by decide, by decide +kernel⟩
theorem cl_X12_sets : Cal yX12_sets cX12_sets 5 none 4 := ⟨wc_X12_sets, wn_X12, by decide, by decide, by decide +kernel⟩
theorem cl_X12_tells : Cal yX12_tells cX12_tells 10 (some .int) 2 := ⟨wc_X12_tells, wn_X12, by decide, by decide, by decide +kernel⟩
theorem cl_X9_open : Cal yX9_open cX9_open 3 none 1 := ⟨wc_X9_open, wn_X9, by decide, by decide, by decide +kernel⟩
theorem cl_X7_condition : Cal yX7_condition cX7_condition 1 (some .boolean) 0 := ⟨wc_X7_condition, wn_X7, by decide, by decide, by decide +kernel⟩
theorem cl_X7_how : Cal yX7_how cX7_how 2 (some .boolean) 0 := ⟨wc_X7_how, wn_X7, by decide, by decide, by decide +kernel⟩
theorem cl_X12_isPlace : Cal yX12_isPlace cX12_isPlace 1 (some .boolean) 1 := ⟨wc_X12_isPlace, wn_X12, by decide, by decide, by decide +kernel⟩
theorem cl_X12_changed : Cal yX12_changed cX12_changed 7 (some .int) 5 := ⟨wc_X12_changed, wn_X12, by decide, by decide, by decide +kernel⟩
theorem cl_X12_weighs : Cal yX12_weighs cX12_weighs 5 (some .int) 4 := ⟨wc_X12_weighs, wn_X12, by decide, by decide, by decide +kernel⟩
theorem cl_X12_readClause : Cal yX12_readClause cX12_readClause 1 none 0 := ⟨wc_X12_readClause, wn_X12, by decide, by decide, by decide +kernel⟩
theorem cl_X12_readOrder : Cal yX12_readOrder cX12_readOrder 1 none 0 := ⟨wc_X12_readOrder, wn_X12, by decide, by decide, by decide +kernel⟩
theorem cl_X9_clear : Cal yX9_clear cX9_clear 1 none 0 := ⟨wc_X9_clear, wn_X9, by decide, by decide, by decide +kernel⟩
theorem cl_X7_cutTokens : Cal yX7_cutTokens cX7_cutTokens 5 none 0 := ⟨wc_X7_cutTokens, wn_X7, by decide, by decide, by decide +kernel⟩
theorem cl_X7_lawClause : Cal yX7_lawClause cX7_lawClause 2 (some .boolean) 0 := ⟨wc_X7_lawClause, wn_X7, by decide, by decide, by decide +kernel⟩
theorem cl_X7_orderClause : Cal yX7_orderClause cX7_orderClause 2 (some .boolean) 0 := ⟨wc_X7_orderClause, wn_X7, by decide, by decide, by decide +kernel⟩
theorem cl_X7_read : Cal yX7_read cX7_read 3 (some .boolean) 1 := ⟨wc_X7_read, wn_X7, by decide, by decide, by decide +kernel⟩
theorem cl_X9_kept : Cal yX9_kept cX9_kept 2 (some (.object "DishLines$Text")) 0 := ⟨wc_X9_kept, wn_X9, by decide, by decide, by decide +kernel⟩
theorem cl_X10_addLaw : Cal yX10_addLaw cX10_addLaw 2 (some .int) 1 := ⟨wc_X10_addLaw, wn_X10, by decide, by decide, by decide +kernel⟩
theorem cl_X11_tellSteward : Cal yX11_tellSteward cX11_tellSteward 3 none 0 := ⟨wc_X11_tellSteward, wn_X11, by decide, by decide, by decide +kernel⟩
theorem cl_X11_runOnce : Cal yX11_runOnce cX11_runOnce 13 (some .int) 2 := ⟨wc_X11_runOnce, wn_X11, by decide, by decide, by decide +kernel⟩
theorem cl_X12_bears : Cal yX12_bears cX12_bears 7 (some .int) 4 := ⟨wc_X12_bears, wn_X12, by decide, by decide, by decide +kernel⟩
theorem cl_X12_lists : Cal yX12_lists cX12_lists 9 none 3 := ⟨wc_X12_lists, wn_X12, by decide, by decide, by decide +kernel⟩
theorem cl_X12_dishAt : Cal yX12_dishAt cX12_dishAt 7 (some .int) 1 := ⟨wc_X12_dishAt, wn_X12, by decide, by decide, by decide +kernel⟩
theorem cl_X12_placeOf : Cal yX12_placeOf cX12_placeOf 9 (some .int) 1 := ⟨wc_X12_placeOf, wn_X12, by decide, by decide, by decide +kernel⟩
theorem cl_X12_draws : Cal yX12_draws cX12_draws 2 (some .int) 1 := ⟨wc_X12_draws, wn_X12, by decide, by decide, by decide +kernel⟩
theorem cl_X12_small : Cal yX12_small cX12_small 2 (some .int) 1 := ⟨wc_X12_small, wn_X12, by decide, by decide, by decide +kernel⟩
theorem cl_X12_splits : Cal yX12_splits cX12_splits 6 none 1 := ⟨wc_X12_splits, wn_X12, by decide, by decide, by decide +kernel⟩
theorem cl_X12_readOne : Cal yX12_readOne cX12_readOne 1 none 0 := ⟨wc_X12_readOne, wn_X12, by decide, by decide, by decide +kernel⟩
theorem cl_X12_daughters : Cal yX12_daughters cX12_daughters 4 (some .int) 1 := ⟨wc_X12_daughters, wn_X12, by decide, by decide, by decide +kernel⟩
theorem cl_X12_stepsIn : Cal yX12_stepsIn cX12_stepsIn 9 (some .int) 3 := ⟨wc_X12_stepsIn, wn_X12, by decide, by decide, by decide +kernel⟩
theorem cl_X12_changedBack : Cal yX12_changedBack cX12_changedBack 4 (some .int) 1 := ⟨wc_X12_changedBack, wn_X12, by decide, by decide, by decide +kernel⟩
theorem cl_X12_leadsTo : Cal yX12_leadsTo cX12_leadsTo 5 (some .boolean) 3 := ⟨wc_X12_leadsTo, wn_X12, by decide, by decide, by decide +kernel⟩
theorem cl_X12_laysNext : Cal yX12_laysNext cX12_laysNext 3 none 0 := ⟨wc_X12_laysNext, wn_X12, by decide, by decide, by decide +kernel⟩
theorem cl_X12_measuresTo : Cal yX12_measuresTo cX12_measuresTo 7 none 1 := ⟨wc_X12_measuresTo, wn_X12, by decide, by decide, by decide +kernel⟩
theorem cl_X12_reads : Cal yX12_reads cX12_reads 2 (some .boolean) 0 := ⟨wc_X12_reads, wn_X12, by decide, by decide, by decide +kernel⟩
theorem cl_X12_lays : Cal yX12_lays cX12_lays 3 none 1 := ⟨wc_X12_lays, wn_X12, by decide, by decide, by decide +kernel⟩
theorem cl_X12_parts : Cal yX12_parts cX12_parts 7 none 2 := ⟨wc_X12_parts, wn_X12, by decide, by decide, by decide +kernel⟩
theorem cl_X12_goesAlong : Cal yX12_goesAlong cX12_goesAlong 4 none 2 := ⟨wc_X12_goesAlong, wn_X12, by decide, by decide, by decide +kernel⟩
theorem cl_X12_obeys : Cal yX12_obeys cX12_obeys 2 (some .int) 0 := ⟨wc_X12_obeys, wn_X12, by decide, by decide, by decide +kernel⟩
theorem cl_X12_measures : Cal yX12_measures cX12_measures 7 none 1 := ⟨wc_X12_measures, wn_X12, by decide, by decide, by decide +kernel⟩
theorem cl_X12_isTree : Cal yX12_isTree cX12_isTree 6 (some .boolean) 1 := ⟨wc_X12_isTree, wn_X12, by decide, by decide, by decide +kernel⟩
theorem cl_X12_runs : Cal yX12_runs cX12_runs 6 (some .int) 1 := ⟨wc_X12_runs, wn_X12, by decide, by decide, by decide +kernel⟩
theorem cl_X11_init : Cal yX11_init cX11_init 1 none 0 := ⟨wc_X11_init, wn_X11, by decide, by decide, by decide +kernel⟩
theorem cl_X12_init : Cal yX12_init cX12_init 2 none 0 := ⟨wc_X12_init, wn_X12, by decide, by decide, by decide +kernel⟩
theorem cl_X11_put : Cal yX11_put cX11_put 6 (some .int) 3 := ⟨wc_X11_put, wn_X11, by decide, by decide, by decide +kernel⟩
theorem cl_X12_put : Cal yX12_put cX12_put 5 (some .int) 3 := ⟨wc_X12_put, wn_X12, by decide, by decide, by decide +kernel⟩
theorem cl_X11_of : Cal yX11_of cX11_of 3 (some .int) 2 := ⟨wc_X11_of, wn_X11, by decide, by decide, by decide +kernel⟩
theorem cl_X12_of : Cal yX12_of cX12_of 3 (some .int) 2 := ⟨wc_X12_of, wn_X12, by decide, by decide, by decide +kernel⟩
theorem cl_X11_house : Cal yX11_house cX11_house 5 (some .int) 3 := ⟨wc_X11_house, wn_X11, by decide, by decide, by decide +kernel⟩
theorem cl_X12_house : Cal yX12_house cX12_house 5 (some .int) 3 := ⟨wc_X12_house, wn_X12, by decide, by decide, by decide +kernel⟩
theorem cl_X11_born : Cal yX11_born cX11_born 5 (some .int) 4 := ⟨wc_X11_born, wn_X11, by decide, by decide, by decide +kernel⟩
theorem cl_X12_born : Cal yX12_born cX12_born 6 (some .int) 4 := ⟨wc_X12_born, wn_X12, by decide, by decide, by decide +kernel⟩
theorem cl_X11_undo : Cal yX11_undo cX11_undo 1 (some .int) 0 := ⟨wc_X11_undo, wn_X11, by decide, by decide, by decide +kernel⟩
theorem cl_X12_undo : Cal yX12_undo cX12_undo 1 (some .int) 0 := ⟨wc_X12_undo, wn_X12, by decide, by decide, by decide +kernel⟩
theorem cl_X11_at : Cal yX11_at cX11_at 4 (some .int) 2 := ⟨wc_X11_at, wn_X11, by decide, by decide, by decide +kernel⟩
theorem cl_X12_at : Cal yX12_at cX12_at 3 (some .int) 2 := ⟨wc_X12_at, wn_X12, by decide, by decide, by decide +kernel⟩
theorem cl_X11_terms : Cal yX11_terms cX11_terms 4 (some .int) 2 := ⟨wc_X11_terms, wn_X11, by decide, by decide, by decide +kernel⟩
theorem cl_X12_terms : Cal yX12_terms cX12_terms 4 (some .int) 2 := ⟨wc_X12_terms, wn_X12, by decide, by decide, by decide +kernel⟩
theorem cl_X11_feed : Cal yX11_feed cX11_feed 6 (some .int) 5 := ⟨wc_X11_feed, wn_X11, by decide, by decide, by decide +kernel⟩
theorem cl_X12_feed : Cal yX12_feed cX12_feed 7 (some .int) 5 := ⟨wc_X12_feed, wn_X12, by decide, by decide, by decide +kernel⟩
theorem cl_X11_end : Cal yX11_end cX11_end 2 (some .int) 1 := ⟨wc_X11_end, wn_X11, by decide, by decide, by decide +kernel⟩
theorem cl_X12_end : Cal yX12_end cX12_end 2 (some .int) 1 := ⟨wc_X12_end, wn_X12, by decide, by decide, by decide +kernel⟩
theorem cl_X11_row : Cal yX11_row cX11_row 7 (some .int) 0 := ⟨wc_X11_row, wn_X11, by decide, by decide, by decide +kernel⟩
theorem cl_X12_row : Cal yX12_row cX12_row 7 (some .int) 0 := ⟨wc_X12_row, wn_X12, by decide, by decide, by decide +kernel⟩
theorem cl_X11_burnt : Cal yX11_burnt cX11_burnt 1 (some .int) 0 := ⟨wc_X11_burnt, wn_X11, by decide, by decide, by decide +kernel⟩
theorem cl_X12_burnt : Cal yX12_burnt cX12_burnt 1 (some .int) 0 := ⟨wc_X12_burnt, wn_X12, by decide, by decide, by decide +kernel⟩
theorem cl_X11_law : Cal yX11_law cX11_law 2 (some .int) 0 := ⟨wc_X11_law, wn_X11, by decide, by decide, by decide +kernel⟩
theorem cl_X12_law : Cal yX12_law cX12_law 1 (some .int) 0 := ⟨wc_X12_law, wn_X12, by decide, by decide, by decide +kernel⟩
theorem cl_X11_orders : Cal yX11_orders cX11_orders 7 (some .int) 0 := ⟨wc_X11_orders, wn_X11, by decide, by decide, by decide +kernel⟩
theorem cl_X12_orders : Cal yX12_orders cX12_orders 6 (some .int) 0 := ⟨wc_X12_orders, wn_X12, by decide, by decide, by decide +kernel⟩
theorem cl_X11_fault : Cal yX11_fault cX11_fault 1 (some .int) 0 := ⟨wc_X11_fault, wn_X11, by decide, by decide, by decide +kernel⟩
theorem cl_X12_fault : Cal yX12_fault cX12_fault 1 (some .int) 0 := ⟨wc_X12_fault, wn_X12, by decide, by decide, by decide +kernel⟩
theorem cl_X11_stopped : Cal yX11_stopped cX11_stopped 1 (some .int) 0 := ⟨wc_X11_stopped, wn_X11, by decide, by decide, by decide +kernel⟩
theorem cl_X12_stopped : Cal yX12_stopped cX12_stopped 1 (some .int) 0 := ⟨wc_X12_stopped, wn_X12, by decide, by decide, by decide +kernel⟩
theorem cl_X11_force : Cal yX11_force cX11_force 3 (some .int) 1 := ⟨wc_X11_force, wn_X11, by decide, by decide, by decide +kernel⟩
theorem cl_X12_force : Cal yX12_force cX12_force 3 (some .int) 1 := ⟨wc_X12_force, wn_X12, by decide, by decide, by decide +kernel⟩
theorem cl_X11_change : Cal yX11_change cX11_change 8 (some .int) 5 := ⟨wc_X11_change, wn_X11, by decide, by decide, by decide +kernel⟩
theorem cl_X12_change : Cal yX12_change cX12_change 7 (some .int) 5 := ⟨wc_X12_change, wn_X12, by decide, by decide, by decide +kernel⟩
theorem cl_X11_changes : Cal yX11_changes cX11_changes 4 (some .int) 2 := ⟨wc_X11_changes, wn_X11, by decide, by decide, by decide +kernel⟩
theorem cl_X12_changes : Cal yX12_changes cX12_changes 3 (some .int) 2 := ⟨wc_X12_changes, wn_X12, by decide, by decide, by decide +kernel⟩
theorem cl_X11_steps : Cal yX11_steps cX11_steps 5 (some .int) 2 := ⟨wc_X11_steps, wn_X11, by decide, by decide, by decide +kernel⟩
theorem cl_X12_steps : Cal yX12_steps cX12_steps 3 (some .int) 2 := ⟨wc_X12_steps, wn_X12, by decide, by decide, by decide +kernel⟩
theorem cl_X11_way : Cal yX11_way cX11_way 9 (some .int) 3 := ⟨wc_X11_way, wn_X11, by decide, by decide, by decide +kernel⟩
theorem cl_X12_way : Cal yX12_way cX12_way 10 (some .int) 3 := ⟨wc_X12_way, wn_X12, by decide, by decide, by decide +kernel⟩
theorem cl_X11_between : Cal yX11_between cX11_between 7 (some .int) 2 := ⟨wc_X11_between, wn_X11, by decide, by decide, by decide +kernel⟩
theorem cl_X12_between : Cal yX12_between cX12_between 8 (some .int) 2 := ⟨wc_X12_between, wn_X12, by decide, by decide, by decide +kernel⟩
theorem cl_X11_judge : Cal yX11_judge cX11_judge 5 (some .int) 1 := ⟨wc_X11_judge, wn_X11, by decide, by decide, by decide +kernel⟩
theorem cl_X12_judge : Cal yX12_judge cX12_judge 6 (some .int) 1 := ⟨wc_X12_judge, wn_X12, by decide, by decide, by decide +kernel⟩
theorem cl_X11_poor : Cal yX11_poor cX11_poor 6 (some .int) 1 := ⟨wc_X11_poor, wn_X11, by decide, by decide, by decide +kernel⟩
theorem cl_X12_poor : Cal yX12_poor cX12_poor 6 (some .int) 1 := ⟨wc_X12_poor, wn_X12, by decide, by decide, by decide +kernel⟩
theorem cl_X11_first : Cal yX11_first cX11_first 4 (some .int) 2 := ⟨wc_X11_first, wn_X11, by decide, by decide, by decide +kernel⟩
theorem cl_X12_first : Cal yX12_first cX12_first 6 (some .int) 2 := ⟨wc_X12_first, wn_X12, by decide, by decide, by decide +kernel⟩
theorem cl_X11_lines : Cal yX11_lines cX11_lines 8 (some .int) 2 := ⟨wc_X11_lines, wn_X11, by decide, by decide, by decide +kernel⟩
theorem cl_X12_lines : Cal yX12_lines cX12_lines 11 (some .int) 2 := ⟨wc_X12_lines, wn_X12, by decide, by decide, by decide +kernel⟩
theorem cl_X11_odds : Cal yX11_odds cX11_odds 5 (some .long) 3 := ⟨wc_X11_odds, wn_X11, by decide, by decide, by decide +kernel⟩
theorem cl_X12_odds : Cal yX12_odds cX12_odds 4 (some .long) 3 := ⟨wc_X12_odds, wn_X12, by decide, by decide, by decide +kernel⟩
theorem cl_X11_likely : Cal yX11_likely cX11_likely 3 (some .int) 2 := ⟨wc_X11_likely, wn_X11, by decide, by decide, by decide +kernel⟩
theorem cl_X12_likely : Cal yX12_likely cX12_likely 5 (some .int) 2 := ⟨wc_X12_likely, wn_X12, by decide, by decide, by decide +kernel⟩
theorem cl_X11_tastings : Cal yX11_tastings cX11_tastings 10 (some .int) 2 := ⟨wc_X11_tastings, wn_X11, by decide, by decide, by decide +kernel⟩
theorem cl_X12_tastings : Cal yX12_tastings cX12_tastings 7 (some .int) 2 := ⟨wc_X12_tastings, wn_X12, by decide, by decide, by decide +kernel⟩
theorem cl_X11_copies : Cal yX11_copies cX11_copies 6 (some .int) 1 := ⟨wc_X11_copies, wn_X11, by decide, by decide, by decide +kernel⟩
theorem cl_X12_copies : Cal yX12_copies cX12_copies 5 (some .int) 1 := ⟨wc_X12_copies, wn_X12, by decide, by decide, by decide +kernel⟩
theorem cl_X11_stood : Cal yX11_stood cX11_stood 7 (some .int) 1 := ⟨wc_X11_stood, wn_X11, by decide, by decide, by decide +kernel⟩
theorem cl_X12_stood : Cal yX12_stood cX12_stood 3 (some .int) 1 := ⟨wc_X12_stood, wn_X12, by decide, by decide, by decide +kernel⟩
theorem cl_X11_line : Cal yX11_line cX11_line 7 (some .int) 3 := ⟨wc_X11_line, wn_X11, by decide, by decide, by decide +kernel⟩
theorem cl_X12_line : Cal yX12_line cX12_line 9 (some .int) 3 := ⟨wc_X12_line, wn_X12, by decide, by decide, by decide +kernel⟩
theorem cl_X11_drawn : Cal yX11_drawn cX11_drawn 2 (some .int) 1 := ⟨wc_X11_drawn, wn_X11, by decide, by decide, by decide +kernel⟩
theorem cl_X12_drawn : Cal yX12_drawn cX12_drawn 2 (some .int) 1 := ⟨wc_X12_drawn, wn_X12, by decide, by decide, by decide +kernel⟩
theorem cl_X11_image : Cal yX11_image cX11_image 2 (some .int) 1 := ⟨wc_X11_image, wn_X11, by decide, by decide, by decide +kernel⟩
theorem cl_X12_image : Cal yX12_image cX12_image 3 (some .int) 1 := ⟨wc_X12_image, wn_X12, by decide, by decide, by decide +kernel⟩
theorem cl_X11_back : Cal yX11_back cX11_back 2 (some .int) 1 := ⟨wc_X11_back, wn_X11, by decide, by decide, by decide +kernel⟩
theorem cl_X12_back : Cal yX12_back cX12_back 3 (some .int) 1 := ⟨wc_X12_back, wn_X12, by decide, by decide, by decide +kernel⟩
theorem cl_X11_count : Cal yX11_count cX11_count 2 (some .int) 1 := ⟨wc_X11_count, wn_X11, by decide, by decide, by decide +kernel⟩
theorem cl_X12_count : Cal yX12_count cX12_count 2 (some .int) 1 := ⟨wc_X12_count, wn_X12, by decide, by decide, by decide +kernel⟩
theorem cl_X11_status : Cal yX11_status cX11_status 1 (some .int) 0 := ⟨wc_X11_status, wn_X11, by decide, by decide, by decide +kernel⟩
theorem cl_X12_status : Cal yX12_status cX12_status 1 (some .int) 0 := ⟨wc_X12_status, wn_X12, by decide, by decide, by decide +kernel⟩
