theorem q_0 : Cond.selects yX5_allPlaces.cls yX5_allPlaces yX5_allPlaces ∈ lw_good := ts_gd (List.mem_of_getElem? (i := 0) (by decide +kernel)) (by decide +kernel)
theorem q_1 : Cond.selects yX5_fewestOf.cls yX5_fewestOf yX5_fewestOf ∈ lw_good := ts_gd (List.mem_of_getElem? (i := 1) (by decide +kernel)) (by decide +kernel)
theorem q_2 : Cond.selects yX5_fewestWithFirst.cls yX5_fewestWithFirst yX5_fewestWithFirst ∈ lw_good := ts_gd (List.mem_of_getElem? (i := 2) (by decide +kernel)) (by decide +kernel)
theorem q_3 : Cond.selects yX8_sumOf.cls yX8_sumOf yX8_sumOf ∈ lw_good := ts_gd (List.mem_of_getElem? (i := 3) (by decide +kernel)) (by decide +kernel)
theorem q_5 : Cond.selects yX5_beats.cls yX5_beats yX5_beats ∈ lw_good := ts_gd (List.mem_of_getElem? (i := 5) (by decide +kernel)) (by decide +kernel)
theorem q_6 : Cond.selects yX5_notBeating.cls yX5_notBeating yX5_notBeating ∈ lw_good := ts_gd (List.mem_of_getElem? (i := 6) (by decide +kernel)) (by decide +kernel)
theorem q_7 : Cond.selects yX1_joinCell.cls yX1_joinCell yX1_joinCell ∈ lw_good := ts_gd (List.mem_of_getElem? (i := 7) (by decide +kernel)) (by decide +kernel)
theorem q_17 : Cond.selects yX4_append.cls yX4_append yX4_append ∈ lw_good := ts_gd (List.mem_of_getElem? (i := 17) (by decide +kernel)) (by decide +kernel)
theorem q_19 : Cond.selects yX9_amended.cls yX9_amended yX9_amended ∈ lw_good := ts_gd (List.mem_of_getElem? (i := 19) (by decide +kernel)) (by decide +kernel)
theorem q_20 : Cond.selects yX9_rewardYesVoters.cls yX9_rewardYesVoters yX9_rewardYesVoters ∈ lw_good := ts_gd (List.mem_of_getElem? (i := 20) (by decide +kernel)) (by decide +kernel)
theorem q_21 : Cond.selects yX9_settleMain.cls yX9_settleMain yX9_settleMain ∈ lw_good := ts_gd (List.mem_of_getElem? (i := 21) (by decide +kernel)) (by decide +kernel)
theorem q_22 : Cond.selects yX9_takeEffect.cls yX9_takeEffect yX9_takeEffect ∈ lw_good := ts_gd (List.mem_of_getElem? (i := 22) (by decide +kernel)) (by decide +kernel)
theorem q_23 : Cond.selects yX9_endSitting.cls yX9_endSitting yX9_endSitting ∈ lw_good := ts_gd (List.mem_of_getElem? (i := 23) (by decide +kernel)) (by decide +kernel)
theorem q_24 : Cond.selects yX9_startAnewIfTableIsEmpty.cls yX9_startAnewIfTableIsEmpty yX9_startAnewIfTableIsEmpty ∈ lw_good := ts_gd (List.mem_of_getElem? (i := 24) (by decide +kernel)) (by decide +kernel)
theorem q_26 : Cond.selects yX1_moisten.cls yX1_moisten yX1_moisten ∈ lw_good := ts_gd (List.mem_of_getElem? (i := 26) (by decide +kernel)) (by decide +kernel)
theorem q_31 : Cond.selects yX5_bestFirst.cls yX5_bestFirst yX5_bestFirst ∈ lw_good := ts_gd (List.mem_of_getElem? (i := 31) (by decide +kernel)) (by decide +kernel)
theorem q_33 : Cond.selects yX8_comesBefore.cls yX8_comesBefore yX8_comesBefore ∈ lw_good := ts_gd (List.mem_of_getElem? (i := 33) (by decide +kernel)) (by decide +kernel)
theorem q_37 : Cond.selects yX7_takeNumber.cls yX7_takeNumber yX7_takeNumber ∈ lw_good := ts_gd (List.mem_of_getElem? (i := 37) (by decide +kernel)) (by decide +kernel)
theorem q_38 : Cond.selects yX7_keepArgument.cls yX7_keepArgument yX7_keepArgument ∈ lw_good := ts_gd (List.mem_of_getElem? (i := 38) (by decide +kernel)) (by decide +kernel)
theorem q_39 : Cond.selects yX7_take.cls yX7_take yX7_take ∈ lw_good := ts_gd (List.mem_of_getElem? (i := 39) (by decide +kernel)) (by decide +kernel)
theorem q_42 : Cond.selects yX12_notSpoon.cls yX12_notSpoon yX12_notSpoon ∈ lw_good := ts_gd (List.mem_of_getElem? (i := 42) (by decide +kernel)) (by decide +kernel)
theorem q_43 : Cond.selects yX12_fails.cls yX12_fails yX12_fails ∈ lw_good := ts_gd (List.mem_of_getElem? (i := 43) (by decide +kernel)) (by decide +kernel)
theorem q_44 : Cond.selects yX12_remembers.cls yX12_remembers yX12_remembers ∈ lw_good := ts_gd (List.mem_of_getElem? (i := 44) (by decide +kernel)) (by decide +kernel)
theorem q_45 : Cond.selects yX12_copies.cls yX12_copies yX12_copies ∈ lw_good := ts_gd (List.mem_of_getElem? (i := 45) (by decide +kernel)) (by decide +kernel)
theorem q_46 : Cond.selects yX12_keeps.cls yX12_keeps yX12_keeps ∈ lw_good := ts_gd (List.mem_of_getElem? (i := 46) (by decide +kernel)) (by decide +kernel)
theorem q_47 : Cond.selects yX12_addsSpoon.cls yX12_addsSpoon yX12_addsSpoon ∈ lw_good := ts_gd (List.mem_of_getElem? (i := 47) (by decide +kernel)) (by decide +kernel)
theorem q_48 : Cond.selects yX12_puts.cls yX12_puts yX12_puts ∈ lw_good := ts_gd (List.mem_of_getElem? (i := 48) (by decide +kernel)) (by decide +kernel)
theorem q_49 : Cond.selects yX12_notPropose.cls yX12_notPropose yX12_notPropose ∈ lw_good := ts_gd (List.mem_of_getElem? (i := 49) (by decide +kernel)) (by decide +kernel)
theorem q_50 : Cond.selects yX12_proposes.cls yX12_proposes yX12_proposes ∈ lw_good := ts_gd (List.mem_of_getElem? (i := 50) (by decide +kernel)) (by decide +kernel)
theorem q_51 : Cond.selects yX12_lists.cls yX12_lists yX12_lists ∈ lw_good := ts_gd (List.mem_of_getElem? (i := 51) (by decide +kernel)) (by decide +kernel)
theorem q_52 : Cond.selects yX12_notMain.cls yX12_notMain yX12_notMain ∈ lw_good := ts_gd (List.mem_of_getElem? (i := 52) (by decide +kernel)) (by decide +kernel)
theorem q_53 : Cond.selects yX12_place.cls yX12_place yX12_place ∈ lw_good := ts_gd (List.mem_of_getElem? (i := 53) (by decide +kernel)) (by decide +kernel)
theorem q_54 : Cond.selects yX12_idAt.cls yX12_idAt yX12_idAt ∈ lw_good := ts_gd (List.mem_of_getElem? (i := 54) (by decide +kernel)) (by decide +kernel)
theorem q_55 : Cond.selects yX12_canMake.cls yX12_canMake yX12_canMake ∈ lw_good := ts_gd (List.mem_of_getElem? (i := 55) (by decide +kernel)) (by decide +kernel)
theorem q_56 : Cond.selects yX12_top.cls yX12_top yX12_top ∈ lw_good := ts_gd (List.mem_of_getElem? (i := 56) (by decide +kernel)) (by decide +kernel)
theorem q_57 : Cond.selects yX12_makesMain.cls yX12_makesMain yX12_makesMain ∈ lw_good := ts_gd (List.mem_of_getElem? (i := 57) (by decide +kernel)) (by decide +kernel)
theorem q_58 : Cond.selects yX12_makes.cls yX12_makes yX12_makes ∈ lw_good := ts_gd (List.mem_of_getElem? (i := 58) (by decide +kernel)) (by decide +kernel)
theorem q_59 : Cond.selects yX12_notAmend.cls yX12_notAmend yX12_notAmend ∈ lw_good := ts_gd (List.mem_of_getElem? (i := 59) (by decide +kernel)) (by decide +kernel)
theorem q_60 : Cond.selects yX12_makesAmendment.cls yX12_makesAmendment yX12_makesAmendment ∈ lw_good := ts_gd (List.mem_of_getElem? (i := 60) (by decide +kernel)) (by decide +kernel)
theorem q_61 : Cond.selects yX12_moves.cls yX12_moves yX12_moves ∈ lw_good := ts_gd (List.mem_of_getElem? (i := 61) (by decide +kernel)) (by decide +kernel)
theorem q_62 : Cond.selects yX12_notSpeak.cls yX12_notSpeak yX12_notSpeak ∈ lw_good := ts_gd (List.mem_of_getElem? (i := 62) (by decide +kernel)) (by decide +kernel)
theorem q_63 : Cond.selects yX12_isSpoon.cls yX12_isSpoon yX12_isSpoon ∈ lw_good := ts_gd (List.mem_of_getElem? (i := 63) (by decide +kernel)) (by decide +kernel)
theorem q_64 : Cond.selects yX12_spoon.cls yX12_spoon yX12_spoon ∈ lw_good := ts_gd (List.mem_of_getElem? (i := 64) (by decide +kernel)) (by decide +kernel)
theorem q_65 : Cond.selects yX12_speaks.cls yX12_speaks yX12_speaks ∈ lw_good := ts_gd (List.mem_of_getElem? (i := 65) (by decide +kernel)) (by decide +kernel)
theorem q_66 : Cond.selects yX12_notVote.cls yX12_notVote yX12_notVote ∈ lw_good := ts_gd (List.mem_of_getElem? (i := 66) (by decide +kernel)) (by decide +kernel)
theorem q_67 : Cond.selects yX12_votes.cls yX12_votes yX12_votes ∈ lw_good := ts_gd (List.mem_of_getElem? (i := 67) (by decide +kernel)) (by decide +kernel)
theorem q_68 : Cond.selects yX12_isAdopted.cls yX12_isAdopted yX12_isAdopted ∈ lw_good := ts_gd (List.mem_of_getElem? (i := 68) (by decide +kernel)) (by decide +kernel)
theorem q_69 : Cond.selects yX12_yes.cls yX12_yes yX12_yes ∈ lw_good := ts_gd (List.mem_of_getElem? (i := 69) (by decide +kernel)) (by decide +kernel)
theorem q_70 : Cond.selects yX12_isFor.cls yX12_isFor yX12_isFor ∈ lw_good := ts_gd (List.mem_of_getElem? (i := 70) (by decide +kernel)) (by decide +kernel)
theorem q_71 : Cond.selects yX12_likesMain.cls yX12_likesMain yX12_likesMain ∈ lw_good := ts_gd (List.mem_of_getElem? (i := 71) (by decide +kernel)) (by decide +kernel)
theorem q_72 : Cond.selects yX12_mainPosition.cls yX12_mainPosition yX12_mainPosition ∈ lw_good := ts_gd (List.mem_of_getElem? (i := 72) (by decide +kernel)) (by decide +kernel)
theorem q_73 : Cond.selects yX12_positionAt.cls yX12_positionAt yX12_positionAt ∈ lw_good := ts_gd (List.mem_of_getElem? (i := 73) (by decide +kernel)) (by decide +kernel)
theorem q_74 : Cond.selects yX12_changed.cls yX12_changed yX12_changed ∈ lw_good := ts_gd (List.mem_of_getElem? (i := 74) (by decide +kernel)) (by decide +kernel)
theorem q_75 : Cond.selects yX12_weights.cls yX12_weights yX12_weights ∈ lw_good := ts_gd (List.mem_of_getElem? (i := 75) (by decide +kernel)) (by decide +kernel)
theorem q_76 : Cond.selects yX12_decidesMain.cls yX12_decidesMain yX12_decidesMain ∈ lw_good := ts_gd (List.mem_of_getElem? (i := 76) (by decide +kernel)) (by decide +kernel)
theorem q_77 : Cond.selects yX12_takesOff.cls yX12_takesOff yX12_takesOff ∈ lw_good := ts_gd (List.mem_of_getElem? (i := 77) (by decide +kernel)) (by decide +kernel)
theorem q_78 : Cond.selects yX12_empties.cls yX12_empties yX12_empties ∈ lw_good := ts_gd (List.mem_of_getElem? (i := 78) (by decide +kernel)) (by decide +kernel)
theorem q_79 : Cond.selects yX12_removesTop.cls yX12_removesTop yX12_removesTop ∈ lw_good := ts_gd (List.mem_of_getElem? (i := 79) (by decide +kernel)) (by decide +kernel)
theorem q_80 : Cond.selects yX12_postpones.cls yX12_postpones yX12_postpones ∈ lw_good := ts_gd (List.mem_of_getElem? (i := 80) (by decide +kernel)) (by decide +kernel)
theorem q_81 : Cond.selects yX12_adjourns.cls yX12_adjourns yX12_adjourns ∈ lw_good := ts_gd (List.mem_of_getElem? (i := 81) (by decide +kernel)) (by decide +kernel)
theorem q_82 : Cond.selects yX12_spills.cls yX12_spills yX12_spills ∈ lw_good := ts_gd (List.mem_of_getElem? (i := 82) (by decide +kernel)) (by decide +kernel)
theorem q_83 : Cond.selects yX12_wetsNext.cls yX12_wetsNext yX12_wetsNext ∈ lw_good := ts_gd (List.mem_of_getElem? (i := 83) (by decide +kernel)) (by decide +kernel)
theorem q_84 : Cond.selects yX12_largest.cls yX12_largest yX12_largest ∈ lw_good := ts_gd (List.mem_of_getElem? (i := 84) (by decide +kernel)) (by decide +kernel)
theorem q_85 : Cond.selects yX12_marksPuddle.cls yX12_marksPuddle yX12_marksPuddle ∈ lw_good := ts_gd (List.mem_of_getElem? (i := 85) (by decide +kernel)) (by decide +kernel)
theorem q_86 : Cond.selects yX12_isBesideMarked.cls yX12_isBesideMarked yX12_isBesideMarked ∈ lw_good := ts_gd (List.mem_of_getElem? (i := 86) (by decide +kernel)) (by decide +kernel)
theorem q_87 : Cond.selects yX12_wets.cls yX12_wets yX12_wets ∈ lw_good := ts_gd (List.mem_of_getElem? (i := 87) (by decide +kernel)) (by decide +kernel)
theorem q_88 : Cond.selects yX12_notMop.cls yX12_notMop yX12_notMop ∈ lw_good := ts_gd (List.mem_of_getElem? (i := 88) (by decide +kernel)) (by decide +kernel)
theorem q_89 : Cond.selects yX12_mops.cls yX12_mops yX12_mops ∈ lw_good := ts_gd (List.mem_of_getElem? (i := 89) (by decide +kernel)) (by decide +kernel)
theorem q_90 : Cond.selects yX12_notSugar.cls yX12_notSugar yX12_notSugar ∈ lw_good := ts_gd (List.mem_of_getElem? (i := 90) (by decide +kernel)) (by decide +kernel)
theorem q_91 : Cond.selects yX12_gives.cls yX12_gives yX12_gives ∈ lw_good := ts_gd (List.mem_of_getElem? (i := 91) (by decide +kernel)) (by decide +kernel)
theorem q_92 : Cond.selects yX12_told.cls yX12_told yX12_told ∈ lw_good := ts_gd (List.mem_of_getElem? (i := 92) (by decide +kernel)) (by decide +kernel)
theorem q_93 : Cond.selects yX12_tells.cls yX12_tells yX12_tells ∈ lw_good := ts_gd (List.mem_of_getElem? (i := 93) (by decide +kernel)) (by decide +kernel)
theorem q_94 : Cond.selects yX12_isRicher.cls yX12_isRicher yX12_isRicher ∈ lw_good := ts_gd (List.mem_of_getElem? (i := 94) (by decide +kernel)) (by decide +kernel)
theorem q_95 : Cond.selects yX12_lies.cls yX12_lies yX12_lies ∈ lw_good := ts_gd (List.mem_of_getElem? (i := 95) (by decide +kernel)) (by decide +kernel)
theorem q_96 : Cond.selects yX12_supports.cls yX12_supports yX12_supports ∈ lw_good := ts_gd (List.mem_of_getElem? (i := 96) (by decide +kernel)) (by decide +kernel)
theorem q_97 : Cond.selects yX12_ranks.cls yX12_ranks yX12_ranks ∈ lw_good := ts_gd (List.mem_of_getElem? (i := 97) (by decide +kernel)) (by decide +kernel)
theorem q_98 : Cond.selects yX12_costFirst.cls yX12_costFirst yX12_costFirst ∈ lw_good := ts_gd (List.mem_of_getElem? (i := 98) (by decide +kernel)) (by decide +kernel)
theorem q_99 : Cond.selects yX12_beatsOthers.cls yX12_beatsOthers yX12_beatsOthers ∈ lw_good := ts_gd (List.mem_of_getElem? (i := 99) (by decide +kernel)) (by decide +kernel)
theorem q_100 : Cond.selects yX12_writes.cls yX12_writes yX12_writes ∈ lw_good := ts_gd (List.mem_of_getElem? (i := 100) (by decide +kernel)) (by decide +kernel)
theorem q_101 : Cond.selects yX12_writesNumber.cls yX12_writesNumber yX12_writesNumber ∈ lw_good := ts_gd (List.mem_of_getElem? (i := 101) (by decide +kernel)) (by decide +kernel)
theorem q_102 : Cond.selects yX12_readsAll.cls yX12_readsAll yX12_readsAll ∈ lw_good := ts_gd (List.mem_of_getElem? (i := 102) (by decide +kernel)) (by decide +kernel)
theorem q_103 : Cond.selects yX12_readsCommand.cls yX12_readsCommand yX12_readsCommand ∈ lw_good := ts_gd (List.mem_of_getElem? (i := 103) (by decide +kernel)) (by decide +kernel)
theorem q_104 : Cond.selects yX12_nextChar.cls yX12_nextChar yX12_nextChar ∈ lw_good := ts_gd (List.mem_of_getElem? (i := 104) (by decide +kernel)) (by decide +kernel)
theorem q_105 : Cond.selects yX12_reads.cls yX12_reads yX12_reads ∈ lw_good := ts_gd (List.mem_of_getElem? (i := 105) (by decide +kernel)) (by decide +kernel)
theorem q_106 : Cond.selects yX12_readsS.cls yX12_readsS yX12_readsS ∈ lw_good := ts_gd (List.mem_of_getElem? (i := 106) (by decide +kernel)) (by decide +kernel)
theorem q_107 : Cond.selects yX12_readsSp.cls yX12_readsSp yX12_readsSp ∈ lw_good := ts_gd (List.mem_of_getElem? (i := 107) (by decide +kernel)) (by decide +kernel)
theorem q_108 : Cond.selects yX12_readsDigit.cls yX12_readsDigit yX12_readsDigit ∈ lw_good := ts_gd (List.mem_of_getElem? (i := 108) (by decide +kernel)) (by decide +kernel)
theorem q_109 : Cond.selects yX12_readsNumber.cls yX12_readsNumber yX12_readsNumber ∈ lw_good := ts_gd (List.mem_of_getElem? (i := 109) (by decide +kernel)) (by decide +kernel)
theorem q_110 : Cond.selects yX12_readsP.cls yX12_readsP yX12_readsP ∈ lw_good := ts_gd (List.mem_of_getElem? (i := 110) (by decide +kernel)) (by decide +kernel)
theorem q_111 : Cond.selects yX12_readsM.cls yX12_readsM yX12_readsM ∈ lw_good := ts_gd (List.mem_of_getElem? (i := 111) (by decide +kernel)) (by decide +kernel)
theorem q_112 : Cond.selects yX12_readsA.cls yX12_readsA yX12_readsA ∈ lw_good := ts_gd (List.mem_of_getElem? (i := 112) (by decide +kernel)) (by decide +kernel)
theorem q_113 : Cond.selects yX12_doesAll.cls yX12_doesAll yX12_doesAll ∈ lw_good := ts_gd (List.mem_of_getElem? (i := 113) (by decide +kernel)) (by decide +kernel)
theorem q_114 : Cond.selects yX12_notNow.cls yX12_notNow yX12_notNow ∈ lw_good := ts_gd (List.mem_of_getElem? (i := 114) (by decide +kernel)) (by decide +kernel)
theorem q_115 : Cond.selects yX12_notMade.cls yX12_notMade yX12_notMade ∈ lw_good := ts_gd (List.mem_of_getElem? (i := 115) (by decide +kernel)) (by decide +kernel)
theorem q_116 : Cond.selects yX12_doesNow.cls yX12_doesNow yX12_doesNow ∈ lw_good := ts_gd (List.mem_of_getElem? (i := 116) (by decide +kernel)) (by decide +kernel)
theorem q_117 : Cond.selects yX12_goesBack.cls yX12_goesBack yX12_goesBack ∈ lw_good := ts_gd (List.mem_of_getElem? (i := 117) (by decide +kernel)) (by decide +kernel)
theorem q_119 : Cond.initialized "TeaspoonSalon" ∈ lw_good := ts_gd (List.mem_of_getElem? (i := 119) (by decide +kernel)) (by decide +kernel)
theorem q_120 : Cond.initialized "TeaspoonSalon$State" ∈ lw_good := ts_gd (List.mem_of_getElem? (i := 120) (by decide +kernel)) (by decide +kernel)
theorem q_121 : Cond.initialized "TeaspoonSalon$Spoons" ∈ lw_good := ts_gd (List.mem_of_getElem? (i := 121) (by decide +kernel)) (by decide +kernel)
theorem q_122 : Cond.initialized "TeaspoonSalon$Proposals" ∈ lw_good := ts_gd (List.mem_of_getElem? (i := 122) (by decide +kernel)) (by decide +kernel)
theorem q_123 : Cond.initialized "TeaspoonSalon$Table" ∈ lw_good := ts_gd (List.mem_of_getElem? (i := 123) (by decide +kernel)) (by decide +kernel)
theorem q_124 : Cond.initialized "TeaspoonSalon$Cloth" ∈ lw_good := ts_gd (List.mem_of_getElem? (i := 124) (by decide +kernel)) (by decide +kernel)
theorem q_126 : Cond.initialized "TeaspoonSalon$Ranking" ∈ lw_good := ts_gd (List.mem_of_getElem? (i := 126) (by decide +kernel)) (by decide +kernel)
theorem q_127 : Cond.initialized "TeaspoonSalon$Script" ∈ lw_good := ts_gd (List.mem_of_getElem? (i := 127) (by decide +kernel)) (by decide +kernel)
theorem q_132 : Cond.initialized "TeaspoonSalonModel" ∈ lw_good := ts_gd (List.mem_of_getElem? (i := 132) (by decide +kernel)) (by decide +kernel)
theorem q_145 : Cond.initialized "java/lang/Math" ∈ lw_good := ts_gd (List.mem_of_getElem? (i := 145) (by decide +kernel)) (by decide +kernel)
theorem q_148 : Cond.initialized "java/lang/Long" ∈ lw_good := ts_gd (List.mem_of_getElem? (i := 148) (by decide +kernel)) (by decide +kernel)
theorem q_178 : Cond.fieldLink "TeaspoonSalon$Spoons" 11 "TeaspoonSalon$Spoons" "weights" "[I" ∈ lw_good := ts_gd (List.mem_of_getElem? (i := 178) (by decide +kernel)) (by decide +kernel)
theorem q_180 : Cond.fieldLink "TeaspoonSalon$State" 287 "TeaspoonSalon$Spoons" "weights" "[I" ∈ lw_good := ts_gd (List.mem_of_getElem? (i := 180) (by decide +kernel)) (by decide +kernel)
theorem q_181 : Cond.fieldLink "TeaspoonSalon$Spoons" 15 "TeaspoonSalon$Spoons" "stances" "[I" ∈ lw_good := ts_gd (List.mem_of_getElem? (i := 181) (by decide +kernel)) (by decide +kernel)
theorem q_183 : Cond.fieldLink "TeaspoonSalon$State" 293 "TeaspoonSalon$Spoons" "stances" "[I" ∈ lw_good := ts_gd (List.mem_of_getElem? (i := 183) (by decide +kernel)) (by decide +kernel)
theorem q_184 : Cond.fieldLink "TeaspoonSalon$Spoons" 18 "TeaspoonSalon$Spoons" "lumps" "[I" ∈ lw_good := ts_gd (List.mem_of_getElem? (i := 184) (by decide +kernel)) (by decide +kernel)
theorem q_185 : Cond.fieldLink "TeaspoonSalon$State" 157 "TeaspoonSalon$Spoons" "lumps" "[I" ∈ lw_good := ts_gd (List.mem_of_getElem? (i := 185) (by decide +kernel)) (by decide +kernel)
theorem q_187 : Cond.fieldLink "TeaspoonSalon$Spoons" 21 "TeaspoonSalon$Spoons" "spoken" "[I" ∈ lw_good := ts_gd (List.mem_of_getElem? (i := 187) (by decide +kernel)) (by decide +kernel)
theorem q_188 : Cond.fieldLink "TeaspoonSalon$State" 154 "TeaspoonSalon$Spoons" "spoken" "[I" ∈ lw_good := ts_gd (List.mem_of_getElem? (i := 188) (by decide +kernel)) (by decide +kernel)
theorem q_190 : Cond.fieldLink "TeaspoonSalon$Spoons" 28 "TeaspoonSalon$Spoons" "count" "I" ∈ lw_good := ts_gd (List.mem_of_getElem? (i := 190) (by decide +kernel)) (by decide +kernel)
theorem q_191 : Cond.fieldLink "TeaspoonSalon$State" 132 "TeaspoonSalon$Spoons" "count" "I" ∈ lw_good := ts_gd (List.mem_of_getElem? (i := 191) (by decide +kernel)) (by decide +kernel)
theorem q_192 : Cond.fieldLink "TeaspoonSalon" 108 "TeaspoonSalon$Spoons" "count" "I" ∈ lw_good := ts_gd (List.mem_of_getElem? (i := 192) (by decide +kernel)) (by decide +kernel)
theorem q_193 : Cond.fieldLink "TeaspoonSalon$Spoons" 32 "TeaspoonSalon$Spoons" "lumpsGiven" "I" ∈ lw_good := ts_gd (List.mem_of_getElem? (i := 193) (by decide +kernel)) (by decide +kernel)
theorem q_194 : Cond.fieldLink "TeaspoonSalon$Spoons" 35 "TeaspoonSalon$Spoons" "lumpsGained" "I" ∈ lw_good := ts_gd (List.mem_of_getElem? (i := 194) (by decide +kernel)) (by decide +kernel)
theorem q_195 : Cond.fieldLink "TeaspoonSalon$Spoons" 38 "TeaspoonSalon$Spoons" "lumpsSpent" "I" ∈ lw_good := ts_gd (List.mem_of_getElem? (i := 195) (by decide +kernel)) (by decide +kernel)
theorem q_220 : Cond.fieldLink "TeaspoonSalon$Proposals" 11 "TeaspoonSalon$Proposals" "ids" "[I" ∈ lw_good := ts_gd (List.mem_of_getElem? (i := 220) (by decide +kernel)) (by decide +kernel)
theorem q_221 : Cond.fieldLink "TeaspoonSalon$Ranking" 76 "TeaspoonSalon$Proposals" "ids" "[I" ∈ lw_good := ts_gd (List.mem_of_getElem? (i := 221) (by decide +kernel)) (by decide +kernel)
theorem q_223 : Cond.fieldLink "TeaspoonSalon$Proposals" 15 "TeaspoonSalon$Proposals" "positions" "[I" ∈ lw_good := ts_gd (List.mem_of_getElem? (i := 223) (by decide +kernel)) (by decide +kernel)
theorem q_224 : Cond.fieldLink "TeaspoonSalon$Ranking" 41 "TeaspoonSalon$Proposals" "positions" "[I" ∈ lw_good := ts_gd (List.mem_of_getElem? (i := 224) (by decide +kernel)) (by decide +kernel)
theorem q_226 : Cond.fieldLink "TeaspoonSalon$Proposals" 22 "TeaspoonSalon$Proposals" "count" "I" ∈ lw_good := ts_gd (List.mem_of_getElem? (i := 226) (by decide +kernel)) (by decide +kernel)
theorem q_227 : Cond.fieldLink "TeaspoonSalon$Ranking" 26 "TeaspoonSalon$Proposals" "count" "I" ∈ lw_good := ts_gd (List.mem_of_getElem? (i := 227) (by decide +kernel)) (by decide +kernel)
theorem q_229 : Cond.fieldLink "TeaspoonSalon" 134 "TeaspoonSalon$Proposals" "count" "I" ∈ lw_good := ts_gd (List.mem_of_getElem? (i := 229) (by decide +kernel)) (by decide +kernel)
theorem q_230 : Cond.fieldLink "TeaspoonSalon$Proposals" 26 "TeaspoonSalon$Proposals" "nextId" "I" ∈ lw_good := ts_gd (List.mem_of_getElem? (i := 230) (by decide +kernel)) (by decide +kernel)
theorem q_246 : Cond.fieldLink "TeaspoonSalon$Table" 11 "TeaspoonSalon$Table" "ranks" "[I" ∈ lw_good := ts_gd (List.mem_of_getElem? (i := 246) (by decide +kernel)) (by decide +kernel)
theorem q_247 : Cond.fieldLink "TeaspoonSalon$Table" 19 "TeaspoonSalon$Table" "count" "I" ∈ lw_good := ts_gd (List.mem_of_getElem? (i := 247) (by decide +kernel)) (by decide +kernel)
theorem q_248 : Cond.fieldLink "TeaspoonSalon$State" 116 "TeaspoonSalon$Table" "count" "I" ∈ lw_good := ts_gd (List.mem_of_getElem? (i := 248) (by decide +kernel)) (by decide +kernel)
theorem q_249 : Cond.fieldLink "TeaspoonSalon" 154 "TeaspoonSalon$Table" "count" "I" ∈ lw_good := ts_gd (List.mem_of_getElem? (i := 249) (by decide +kernel)) (by decide +kernel)
theorem q_251 : Cond.fieldLink "TeaspoonSalon$State" 174 "TeaspoonSalon$Table" "mainId" "I" ∈ lw_good := ts_gd (List.mem_of_getElem? (i := 251) (by decide +kernel)) (by decide +kernel)
theorem q_252 : Cond.fieldLink "TeaspoonSalon" 179 "TeaspoonSalon$Table" "mainId" "I" ∈ lw_good := ts_gd (List.mem_of_getElem? (i := 252) (by decide +kernel)) (by decide +kernel)
theorem q_254 : Cond.fieldLink "TeaspoonSalon$State" 180 "TeaspoonSalon$Table" "amendingChange" "I" ∈ lw_good := ts_gd (List.mem_of_getElem? (i := 254) (by decide +kernel)) (by decide +kernel)
theorem q_255 : Cond.fieldLink "TeaspoonSalon" 174 "TeaspoonSalon$Table" "amendingChange" "I" ∈ lw_good := ts_gd (List.mem_of_getElem? (i := 255) (by decide +kernel)) (by decide +kernel)
theorem q_256 : Cond.fieldLink "TeaspoonSalon$Table" 29 "TeaspoonSalon$Table" "closed" "Z" ∈ lw_good := ts_gd (List.mem_of_getElem? (i := 256) (by decide +kernel)) (by decide +kernel)
theorem q_257 : Cond.fieldLink "TeaspoonSalon$State" 150 "TeaspoonSalon$Table" "closed" "Z" ∈ lw_good := ts_gd (List.mem_of_getElem? (i := 257) (by decide +kernel)) (by decide +kernel)
theorem q_258 : Cond.fieldLink "TeaspoonSalon" 182 "TeaspoonSalon$Table" "closed" "Z" ∈ lw_good := ts_gd (List.mem_of_getElem? (i := 258) (by decide +kernel)) (by decide +kernel)
theorem q_276 : Cond.fieldLink "TeaspoonSalon$State" 53 "TeaspoonSalon$Cloth" "wet" "J" ∈ lw_good := ts_gd (List.mem_of_getElem? (i := 276) (by decide +kernel)) (by decide +kernel)
theorem q_277 : Cond.fieldLink "TeaspoonSalon$Cloth" 23 "TeaspoonSalon$Cloth" "wet" "J" ∈ lw_good := ts_gd (List.mem_of_getElem? (i := 277) (by decide +kernel)) (by decide +kernel)
theorem q_278 : Cond.fieldLink "TeaspoonSalon" 261 "TeaspoonSalon$Cloth" "wet" "J" ∈ lw_good := ts_gd (List.mem_of_getElem? (i := 278) (by decide +kernel)) (by decide +kernel)
theorem q_279 : Cond.fieldLink "TeaspoonSalon$Cloth" 9 "TeaspoonSalon$Cloth" "groups" "[J" ∈ lw_good := ts_gd (List.mem_of_getElem? (i := 279) (by decide +kernel)) (by decide +kernel)
theorem q_280 : Cond.fieldLink "TeaspoonSalon$Cloth" 70 "TeaspoonSalon$Cloth" "groupCount" "I" ∈ lw_good := ts_gd (List.mem_of_getElem? (i := 280) (by decide +kernel)) (by decide +kernel)
theorem q_289 : Cond.fieldLink "TeaspoonSalon$State" 12 "TeaspoonSalon$State" "spoons" "LTeaspoonSalon$Spoons;" ∈ lw_good := ts_gd (List.mem_of_getElem? (i := 289) (by decide +kernel)) (by decide +kernel)
theorem q_290 : Cond.fieldLink "TeaspoonSalon$Ranking" 37 "TeaspoonSalon$State" "spoons" "LTeaspoonSalon$Spoons;" ∈ lw_good := ts_gd (List.mem_of_getElem? (i := 290) (by decide +kernel)) (by decide +kernel)
theorem q_291 : Cond.fieldLink "TeaspoonSalon" 104 "TeaspoonSalon$State" "spoons" "LTeaspoonSalon$Spoons;" ∈ lw_good := ts_gd (List.mem_of_getElem? (i := 291) (by decide +kernel)) (by decide +kernel)
theorem q_292 : Cond.fieldLink "TeaspoonSalon$State" 21 "TeaspoonSalon$State" "proposals" "LTeaspoonSalon$Proposals;" ∈ lw_good := ts_gd (List.mem_of_getElem? (i := 292) (by decide +kernel)) (by decide +kernel)
theorem q_293 : Cond.fieldLink "TeaspoonSalon$Ranking" 20 "TeaspoonSalon$State" "proposals" "LTeaspoonSalon$Proposals;" ∈ lw_good := ts_gd (List.mem_of_getElem? (i := 293) (by decide +kernel)) (by decide +kernel)
theorem q_294 : Cond.fieldLink "TeaspoonSalon" 130 "TeaspoonSalon$State" "proposals" "LTeaspoonSalon$Proposals;" ∈ lw_good := ts_gd (List.mem_of_getElem? (i := 294) (by decide +kernel)) (by decide +kernel)
theorem q_295 : Cond.fieldLink "TeaspoonSalon$State" 28 "TeaspoonSalon$State" "table" "LTeaspoonSalon$Table;" ∈ lw_good := ts_gd (List.mem_of_getElem? (i := 295) (by decide +kernel)) (by decide +kernel)
theorem q_296 : Cond.fieldLink "TeaspoonSalon" 150 "TeaspoonSalon$State" "table" "LTeaspoonSalon$Table;" ∈ lw_good := ts_gd (List.mem_of_getElem? (i := 296) (by decide +kernel)) (by decide +kernel)
theorem q_297 : Cond.fieldLink "TeaspoonSalon$State" 35 "TeaspoonSalon$State" "cloth" "LTeaspoonSalon$Cloth;" ∈ lw_good := ts_gd (List.mem_of_getElem? (i := 297) (by decide +kernel)) (by decide +kernel)
theorem q_298 : Cond.fieldLink "TeaspoonSalon" 251 "TeaspoonSalon$State" "cloth" "LTeaspoonSalon$Cloth;" ∈ lw_good := ts_gd (List.mem_of_getElem? (i := 298) (by decide +kernel)) (by decide +kernel)
theorem q_299 : Cond.fieldLink "TeaspoonSalon$State" 39 "TeaspoonSalon$State" "minutes" "[I" ∈ lw_good := ts_gd (List.mem_of_getElem? (i := 299) (by decide +kernel)) (by decide +kernel)
theorem q_300 : Cond.fieldLink "TeaspoonSalon$State" 61 "TeaspoonSalon$State" "minutesWritten" "I" ∈ lw_good := ts_gd (List.mem_of_getElem? (i := 300) (by decide +kernel)) (by decide +kernel)
theorem q_301 : Cond.fieldLink "TeaspoonSalon" 295 "TeaspoonSalon$State" "minutesWritten" "I" ∈ lw_good := ts_gd (List.mem_of_getElem? (i := 301) (by decide +kernel)) (by decide +kernel)
theorem q_302 : Cond.fieldLink "TeaspoonSalon$State" 65 "TeaspoonSalon$State" "sittingsEnded" "I" ∈ lw_good := ts_gd (List.mem_of_getElem? (i := 302) (by decide +kernel)) (by decide +kernel)
theorem q_303 : Cond.fieldLink "TeaspoonSalon" 306 "TeaspoonSalon$State" "sittingsEnded" "I" ∈ lw_good := ts_gd (List.mem_of_getElem? (i := 303) (by decide +kernel)) (by decide +kernel)
theorem q_304 : Cond.fieldLink "TeaspoonSalon$State" 68 "TeaspoonSalon$State" "votesTaken" "I" ∈ lw_good := ts_gd (List.mem_of_getElem? (i := 304) (by decide +kernel)) (by decide +kernel)
theorem q_305 : Cond.fieldLink "TeaspoonSalon" 323 "TeaspoonSalon$State" "votesTaken" "I" ∈ lw_good := ts_gd (List.mem_of_getElem? (i := 305) (by decide +kernel)) (by decide +kernel)
theorem q_306 : Cond.fieldLink "TeaspoonSalon$State" 71 "TeaspoonSalon$State" "votesAdopted" "I" ∈ lw_good := ts_gd (List.mem_of_getElem? (i := 306) (by decide +kernel)) (by decide +kernel)
theorem q_307 : Cond.fieldLink "TeaspoonSalon" 328 "TeaspoonSalon$State" "votesAdopted" "I" ∈ lw_good := ts_gd (List.mem_of_getElem? (i := 307) (by decide +kernel)) (by decide +kernel)
theorem q_336 : Cond.fieldLink "TeaspoonSalon$History" 11 "TeaspoonSalon$History" "earlier" "[LTeaspoonSalon$State;" ∈ lw_good := ts_gd (List.mem_of_getElem? (i := 336) (by decide +kernel)) (by decide +kernel)
theorem q_337 : Cond.fieldLink "TeaspoonSalon$History" 16 "TeaspoonSalon$History" "next" "I" ∈ lw_good := ts_gd (List.mem_of_getElem? (i := 337) (by decide +kernel)) (by decide +kernel)
theorem q_338 : Cond.fieldLink "TeaspoonSalon$History" 30 "TeaspoonSalon$History" "count" "I" ∈ lw_good := ts_gd (List.mem_of_getElem? (i := 338) (by decide +kernel)) (by decide +kernel)
theorem q_339 : Cond.fieldLink "TeaspoonSalon" 405 "TeaspoonSalon$History" "count" "I" ∈ lw_good := ts_gd (List.mem_of_getElem? (i := 339) (by decide +kernel)) (by decide +kernel)
theorem q_353 : Cond.fieldLink "TeaspoonSalon$Ranking" 11 "TeaspoonSalon$Ranking" "supports" "[I" ∈ lw_good := ts_gd (List.mem_of_getElem? (i := 353) (by decide +kernel)) (by decide +kernel)
theorem q_354 : Cond.fieldLink "TeaspoonSalon$Ranking" 17 "TeaspoonSalon$Ranking" "fewest" "[I" ∈ lw_good := ts_gd (List.mem_of_getElem? (i := 354) (by decide +kernel)) (by decide +kernel)
theorem q_355 : Cond.fieldLink "TeaspoonSalon$Ranking" 36 "TeaspoonSalon$Ranking" "count" "I" ∈ lw_good := ts_gd (List.mem_of_getElem? (i := 355) (by decide +kernel)) (by decide +kernel)
theorem q_371 : Cond.fieldLink "TeaspoonSalon$Script" 11 "TeaspoonSalon$Script" "text" "[C" ∈ lw_good := ts_gd (List.mem_of_getElem? (i := 371) (by decide +kernel)) (by decide +kernel)
theorem q_373 : Cond.fieldLink "TeaspoonSalon$Script" 21 "TeaspoonSalon$Script" "arguments" "[I" ∈ lw_good := ts_gd (List.mem_of_getElem? (i := 373) (by decide +kernel)) (by decide +kernel)
theorem q_374 : Cond.fieldLink "TeaspoonSalon$Script" 25 "TeaspoonSalon$Script" "length" "I" ∈ lw_good := ts_gd (List.mem_of_getElem? (i := 374) (by decide +kernel)) (by decide +kernel)
theorem q_375 : Cond.fieldLink "TeaspoonSalon$Script" 29 "TeaspoonSalon$Script" "commandCount" "I" ∈ lw_good := ts_gd (List.mem_of_getElem? (i := 375) (by decide +kernel)) (by decide +kernel)
theorem q_377 : Cond.fieldLink "TeaspoonSalon$Script" 32 "TeaspoonSalon$Script" "cursor" "I" ∈ lw_good := ts_gd (List.mem_of_getElem? (i := 377) (by decide +kernel)) (by decide +kernel)
theorem q_378 : Cond.fieldLink "TeaspoonSalon$Script" 64 "TeaspoonSalon$Script" "argumentCount" "I" ∈ lw_good := ts_gd (List.mem_of_getElem? (i := 378) (by decide +kernel)) (by decide +kernel)
theorem q_428 : Cond.fieldLink "TeaspoonSalon" 10 "TeaspoonSalon" "state" "LTeaspoonSalon$State;" ∈ lw_good := ts_gd (List.mem_of_getElem? (i := 428) (by decide +kernel)) (by decide +kernel)
theorem q_429 : Cond.fieldLink "TeaspoonSalon" 16 "TeaspoonSalon" "draft" "LTeaspoonSalon$State;" ∈ lw_good := ts_gd (List.mem_of_getElem? (i := 429) (by decide +kernel)) (by decide +kernel)
theorem q_430 : Cond.fieldLink "TeaspoonSalon" 19 "TeaspoonSalon" "snapshot" "LTeaspoonSalon$State;" ∈ lw_good := ts_gd (List.mem_of_getElem? (i := 430) (by decide +kernel)) (by decide +kernel)
theorem q_431 : Cond.fieldLink "TeaspoonSalon" 25 "TeaspoonSalon" "history" "LTeaspoonSalon$History;" ∈ lw_good := ts_gd (List.mem_of_getElem? (i := 431) (by decide +kernel)) (by decide +kernel)
theorem q_432 : Cond.fieldLink "TeaspoonSalon" 32 "TeaspoonSalon" "ranking" "LTeaspoonSalon$Ranking;" ∈ lw_good := ts_gd (List.mem_of_getElem? (i := 432) (by decide +kernel)) (by decide +kernel)
theorem q_433 : Cond.fieldLink "TeaspoonSalon" 39 "TeaspoonSalon" "script" "LTeaspoonSalon$Script;" ∈ lw_good := ts_gd (List.mem_of_getElem? (i := 433) (by decide +kernel)) (by decide +kernel)
theorem q_434 : Cond.fieldLink "TeaspoonSalon" 46 "TeaspoonSalon" "output" "Ljava/lang/StringBuilder;" ∈ lw_good := ts_gd (List.mem_of_getElem? (i := 434) (by decide +kernel)) (by decide +kernel)
theorem q_435 : Cond.fieldLink "TeaspoonSalon" 50 "TeaspoonSalon" "hasSnapshot" "Z" ∈ lw_good := ts_gd (List.mem_of_getElem? (i := 435) (by decide +kernel)) (by decide +kernel)
theorem q_436 : Cond.fieldLink "TeaspoonSalon" 54 "TeaspoonSalon" "latestError" "I" ∈ lw_good := ts_gd (List.mem_of_getElem? (i := 436) (by decide +kernel)) (by decide +kernel)
theorem q_437 : Cond.fieldLink "TeaspoonSalon" 58 "TeaspoonSalon" "latestFailure" "I" ∈ lw_good := ts_gd (List.mem_of_getElem? (i := 437) (by decide +kernel)) (by decide +kernel)
theorem q_479 : Cond.methodLink "TeaspoonSalon" 221 ⟨"TeaspoonSalon$Ranking", "survey", "(LTeaspoonSalon$State;)V"⟩ ∈ lw_good := ts_gd (List.mem_of_getElem? (i := 479) (by decide +kernel)) (by decide +kernel)
theorem q_480 : Cond.instanceMethod yX5_survey ∈ lw_good := ts_gd (List.mem_of_getElem? (i := 480) (by decide +kernel)) (by decide +kernel)
theorem q_481 : Cond.selects yX5_survey.cls yX5_survey yX5_survey ∈ lw_good := ts_gd (List.mem_of_getElem? (i := 481) (by decide +kernel)) (by decide +kernel)
theorem q_482 : Cond.code yX5_survey cX5_survey 5 none ∈ lw_good := ts_gd (List.mem_of_getElem? (i := 482) (by decide +kernel)) (by decide +kernel)
theorem q_483 : Cond.methodLink "TeaspoonSalon$Ranking" 30 ⟨"java/lang/Math", "min", "(II)I"⟩ ∈ lw_good := ts_gd (List.mem_of_getElem? (i := 483) (by decide +kernel)) (by decide +kernel)
theorem q_484 : Cond.static yJ9_min_7cf53 ∈ lw_good := ts_gd (List.mem_of_getElem? (i := 484) (by decide +kernel)) (by decide +kernel)
theorem q_485 : Cond.code yJ9_min_7cf53 cJ9_min_7cf53 2 (some .int) ∈ lw_good := ts_gd (List.mem_of_getElem? (i := 485) (by decide +kernel)) (by decide +kernel)
theorem q_486 : Cond.methodLink "TeaspoonSalon$Ranking" 44 ⟨"TeaspoonSalon$Spoons", "preferring", "(II)I"⟩ ∈ lw_good := ts_gd (List.mem_of_getElem? (i := 486) (by decide +kernel)) (by decide +kernel)
theorem q_487 : Cond.instanceMethod yX8_preferring ∈ lw_good := ts_gd (List.mem_of_getElem? (i := 487) (by decide +kernel)) (by decide +kernel)
theorem q_488 : Cond.selects yX8_preferring.cls yX8_preferring yX8_preferring ∈ lw_good := ts_gd (List.mem_of_getElem? (i := 488) (by decide +kernel)) (by decide +kernel)
theorem q_489 : Cond.code yX8_preferring cX8_preferring 5 (some .int) ∈ lw_good := ts_gd (List.mem_of_getElem? (i := 489) (by decide +kernel)) (by decide +kernel)
theorem q_490 : Cond.methodLink "TeaspoonSalon$Spoons" 49 ⟨"java/lang/Math", "abs", "(I)I"⟩ ∈ lw_good := ts_gd (List.mem_of_getElem? (i := 490) (by decide +kernel)) (by decide +kernel)
theorem q_491 : Cond.static yJ9_abs_0f7a4 ∈ lw_good := ts_gd (List.mem_of_getElem? (i := 491) (by decide +kernel)) (by decide +kernel)
theorem q_492 : Cond.code yJ9_abs_0f7a4 cJ9_abs_0f7a4 1 (some .int) ∈ lw_good := ts_gd (List.mem_of_getElem? (i := 492) (by decide +kernel)) (by decide +kernel)
theorem q_493 : Cond.methodLink "TeaspoonSalon" 225 ⟨"TeaspoonSalon$Ranking", "fewestByTable", "()I"⟩ ∈ lw_good := ts_gd (List.mem_of_getElem? (i := 493) (by decide +kernel)) (by decide +kernel)
theorem q_494 : Cond.instanceMethod yX5_fewestByTable ∈ lw_good := ts_gd (List.mem_of_getElem? (i := 494) (by decide +kernel)) (by decide +kernel)
theorem q_495 : Cond.selects yX5_fewestByTable.cls yX5_fewestByTable yX5_fewestByTable ∈ lw_good := ts_gd (List.mem_of_getElem? (i := 495) (by decide +kernel)) (by decide +kernel)
theorem q_496 : Cond.code yX5_fewestByTable cX5_fewestByTable 2 (some .int) ∈ lw_good := ts_gd (List.mem_of_getElem? (i := 496) (by decide +kernel)) (by decide +kernel)
theorem q_497 : Cond.methodLink "TeaspoonSalon$Ranking" 53 ⟨"TeaspoonSalon$Ranking", "allPlaces", "()I"⟩ ∈ lw_good := ts_gd (List.mem_of_getElem? (i := 497) (by decide +kernel)) (by decide +kernel)
theorem q_499 : Cond.instanceMethod yX5_allPlaces ∈ lw_good := ts_gd (List.mem_of_getElem? (i := 499) (by decide +kernel)) (by decide +kernel)
theorem q_500 : Cond.code yX5_allPlaces cX5_allPlaces 1 (some .int) ∈ lw_good := ts_gd (List.mem_of_getElem? (i := 500) (by decide +kernel)) (by decide +kernel)
theorem q_501 : Cond.methodLink "TeaspoonSalon$Ranking" 57 ⟨"TeaspoonSalon$Ranking", "fewestOf", "(I)I"⟩ ∈ lw_good := ts_gd (List.mem_of_getElem? (i := 501) (by decide +kernel)) (by decide +kernel)
theorem q_503 : Cond.instanceMethod yX5_fewestOf ∈ lw_good := ts_gd (List.mem_of_getElem? (i := 503) (by decide +kernel)) (by decide +kernel)
theorem q_504 : Cond.code yX5_fewestOf cX5_fewestOf 4 (some .int) ∈ lw_good := ts_gd (List.mem_of_getElem? (i := 504) (by decide +kernel)) (by decide +kernel)
theorem q_505 : Cond.constant "TeaspoonSalon$Ranking" 61 (1000000 : Int32) ∈ lw_good := ts_gd (List.mem_of_getElem? (i := 505) (by decide +kernel)) (by decide +kernel)
theorem q_506 : Cond.methodLink "TeaspoonSalon$Ranking" 49 ⟨"TeaspoonSalon$Ranking", "isIn", "(II)Z"⟩ ∈ lw_good := ts_gd (List.mem_of_getElem? (i := 506) (by decide +kernel)) (by decide +kernel)
theorem q_507 : Cond.static yX5_isIn ∈ lw_good := ts_gd (List.mem_of_getElem? (i := 507) (by decide +kernel)) (by decide +kernel)
theorem q_508 : Cond.code yX5_isIn cX5_isIn 2 (some .boolean) ∈ lw_good := ts_gd (List.mem_of_getElem? (i := 508) (by decide +kernel)) (by decide +kernel)
theorem q_509 : Cond.methodLink "TeaspoonSalon$Ranking" 62 ⟨"TeaspoonSalon$Ranking", "fewestWithFirst", "(II)I"⟩ ∈ lw_good := ts_gd (List.mem_of_getElem? (i := 509) (by decide +kernel)) (by decide +kernel)
theorem q_511 : Cond.instanceMethod yX5_fewestWithFirst ∈ lw_good := ts_gd (List.mem_of_getElem? (i := 511) (by decide +kernel)) (by decide +kernel)
theorem q_512 : Cond.code yX5_fewestWithFirst cX5_fewestWithFirst 4 (some .int) ∈ lw_good := ts_gd (List.mem_of_getElem? (i := 512) (by decide +kernel)) (by decide +kernel)
theorem q_513 : Cond.methodLink "TeaspoonSalon$Ranking" 65 ⟨"TeaspoonSalon$Ranking", "disagreements", "([III)I"⟩ ∈ lw_good := ts_gd (List.mem_of_getElem? (i := 513) (by decide +kernel)) (by decide +kernel)
theorem q_514 : Cond.static yX5_disagreements ∈ lw_good := ts_gd (List.mem_of_getElem? (i := 514) (by decide +kernel)) (by decide +kernel)
theorem q_515 : Cond.code yX5_disagreements cX5_disagreements 6 (some .int) ∈ lw_good := ts_gd (List.mem_of_getElem? (i := 515) (by decide +kernel)) (by decide +kernel)
theorem q_531 : Cond.methodLink "TeaspoonSalon" 265 ⟨"java/lang/Long", "bitCount", "(J)I"⟩ ∈ lw_good := ts_gd (List.mem_of_getElem? (i := 531) (by decide +kernel)) (by decide +kernel)
theorem q_532 : Cond.static yJ13_bitCount_95d88 ∈ lw_good := ts_gd (List.mem_of_getElem? (i := 532) (by decide +kernel)) (by decide +kernel)
theorem q_533 : Cond.code yJ13_bitCount_95d88 cJ13_bitCount_95d88 2 (some .int) ∈ lw_good := ts_gd (List.mem_of_getElem? (i := 533) (by decide +kernel)) (by decide +kernel)
theorem q_534 : Cond.constantLong "java/lang/Long" 314 (6148914691236517205 : Int64) ∈ lw_good := ts_gd (List.mem_of_getElem? (i := 534) (by decide +kernel)) (by decide +kernel)
theorem q_535 : Cond.constantLong "java/lang/Long" 316 (3689348814741910323 : Int64) ∈ lw_good := ts_gd (List.mem_of_getElem? (i := 535) (by decide +kernel)) (by decide +kernel)
theorem q_536 : Cond.constantLong "java/lang/Long" 318 (1085102592571150095 : Int64) ∈ lw_good := ts_gd (List.mem_of_getElem? (i := 536) (by decide +kernel)) (by decide +kernel)
theorem q_541 : Cond.methodLink "TeaspoonSalon" 284 ⟨"TeaspoonSalon$Cloth", "largestSize", "()I"⟩ ∈ lw_good := ts_gd (List.mem_of_getElem? (i := 541) (by decide +kernel)) (by decide +kernel)
theorem q_542 : Cond.instanceMethod yX1_largestSize ∈ lw_good := ts_gd (List.mem_of_getElem? (i := 542) (by decide +kernel)) (by decide +kernel)
theorem q_543 : Cond.selects yX1_largestSize.cls yX1_largestSize yX1_largestSize ∈ lw_good := ts_gd (List.mem_of_getElem? (i := 543) (by decide +kernel)) (by decide +kernel)
theorem q_544 : Cond.code yX1_largestSize cX1_largestSize 7 (some .int) ∈ lw_good := ts_gd (List.mem_of_getElem? (i := 544) (by decide +kernel)) (by decide +kernel)
theorem q_545 : Cond.methodLink "TeaspoonSalon$Cloth" 60 ⟨"TeaspoonSalon$Cloth", "firstOf", "(J)J"⟩ ∈ lw_good := ts_gd (List.mem_of_getElem? (i := 545) (by decide +kernel)) (by decide +kernel)
theorem q_546 : Cond.static yX1_firstOf ∈ lw_good := ts_gd (List.mem_of_getElem? (i := 546) (by decide +kernel)) (by decide +kernel)
theorem q_547 : Cond.code yX1_firstOf cX1_firstOf 2 (some .long) ∈ lw_good := ts_gd (List.mem_of_getElem? (i := 547) (by decide +kernel)) (by decide +kernel)
theorem q_548 : Cond.methodLink "TeaspoonSalon$Cloth" 48 ⟨"TeaspoonSalon$Cloth", "walkFrom", "(J)J"⟩ ∈ lw_good := ts_gd (List.mem_of_getElem? (i := 548) (by decide +kernel)) (by decide +kernel)
theorem q_549 : Cond.instanceMethod yX1_walkFrom ∈ lw_good := ts_gd (List.mem_of_getElem? (i := 549) (by decide +kernel)) (by decide +kernel)
theorem q_550 : Cond.selects yX1_walkFrom.cls yX1_walkFrom yX1_walkFrom ∈ lw_good := ts_gd (List.mem_of_getElem? (i := 550) (by decide +kernel)) (by decide +kernel)
theorem q_551 : Cond.code yX1_walkFrom cX1_walkFrom 10 (some .long) ∈ lw_good := ts_gd (List.mem_of_getElem? (i := 551) (by decide +kernel)) (by decide +kernel)
theorem q_552 : Cond.methodLink "TeaspoonSalon$Cloth" 63 ⟨"TeaspoonSalon$Cloth", "neighbours", "(J)J"⟩ ∈ lw_good := ts_gd (List.mem_of_getElem? (i := 552) (by decide +kernel)) (by decide +kernel)
theorem q_553 : Cond.static yX1_neighbours ∈ lw_good := ts_gd (List.mem_of_getElem? (i := 553) (by decide +kernel)) (by decide +kernel)
theorem q_554 : Cond.code yX1_neighbours cX1_neighbours 2 (some .long) ∈ lw_good := ts_gd (List.mem_of_getElem? (i := 554) (by decide +kernel)) (by decide +kernel)
theorem q_555 : Cond.constantLong "TeaspoonSalon$Cloth" 19 (-72340172838076674 : Int64) ∈ lw_good := ts_gd (List.mem_of_getElem? (i := 555) (by decide +kernel)) (by decide +kernel)
theorem q_556 : Cond.constantLong "TeaspoonSalon$Cloth" 21 (9187201950435737471 : Int64) ∈ lw_good := ts_gd (List.mem_of_getElem? (i := 556) (by decide +kernel)) (by decide +kernel)
theorem q_557 : Cond.constantLong "TeaspoonSalon$Cloth" 52 (-1 : Int64) ∈ lw_good := ts_gd (List.mem_of_getElem? (i := 557) (by decide +kernel)) (by decide +kernel)
theorem q_558 : Cond.methodLink "TeaspoonSalon$Cloth" 54 ⟨"java/lang/Long", "bitCount", "(J)I"⟩ ∈ lw_good := ts_gd (List.mem_of_getElem? (i := 558) (by decide +kernel)) (by decide +kernel)
theorem q_559 : Cond.methodLink "TeaspoonSalon$Cloth" 66 ⟨"java/lang/Math", "max", "(II)I"⟩ ∈ lw_good := ts_gd (List.mem_of_getElem? (i := 559) (by decide +kernel)) (by decide +kernel)
theorem q_560 : Cond.static yJ9_max_7cf53 ∈ lw_good := ts_gd (List.mem_of_getElem? (i := 560) (by decide +kernel)) (by decide +kernel)
theorem q_561 : Cond.code yJ9_max_7cf53 cJ9_max_7cf53 2 (some .int) ∈ lw_good := ts_gd (List.mem_of_getElem? (i := 561) (by decide +kernel)) (by decide +kernel)
theorem q_566 : Cond.methodLink "TeaspoonSalon" 287 ⟨"TeaspoonSalon$Cloth", "countPuddles", "()I"⟩ ∈ lw_good := ts_gd (List.mem_of_getElem? (i := 566) (by decide +kernel)) (by decide +kernel)
theorem q_567 : Cond.instanceMethod yX1_countPuddles ∈ lw_good := ts_gd (List.mem_of_getElem? (i := 567) (by decide +kernel)) (by decide +kernel)
theorem q_568 : Cond.selects yX1_countPuddles.cls yX1_countPuddles yX1_countPuddles ∈ lw_good := ts_gd (List.mem_of_getElem? (i := 568) (by decide +kernel)) (by decide +kernel)
theorem q_569 : Cond.code yX1_countPuddles cX1_countPuddles 5 (some .int) ∈ lw_good := ts_gd (List.mem_of_getElem? (i := 569) (by decide +kernel)) (by decide +kernel)
theorem q_582 : Cond.methodLink "TeaspoonSalon" 309 ⟨"TeaspoonSalon$Spoons", "countedLumps", "()I"⟩ ∈ lw_good := ts_gd (List.mem_of_getElem? (i := 582) (by decide +kernel)) (by decide +kernel)
theorem q_583 : Cond.instanceMethod yX8_countedLumps ∈ lw_good := ts_gd (List.mem_of_getElem? (i := 583) (by decide +kernel)) (by decide +kernel)
theorem q_584 : Cond.selects yX8_countedLumps.cls yX8_countedLumps yX8_countedLumps ∈ lw_good := ts_gd (List.mem_of_getElem? (i := 584) (by decide +kernel)) (by decide +kernel)
theorem q_585 : Cond.code yX8_countedLumps cX8_countedLumps 1 (some .int) ∈ lw_good := ts_gd (List.mem_of_getElem? (i := 585) (by decide +kernel)) (by decide +kernel)
theorem q_586 : Cond.methodLink "TeaspoonSalon$Spoons" 45 ⟨"TeaspoonSalon$Spoons", "sumOf", "([I)I"⟩ ∈ lw_good := ts_gd (List.mem_of_getElem? (i := 586) (by decide +kernel)) (by decide +kernel)
theorem q_588 : Cond.instanceMethod yX8_sumOf ∈ lw_good := ts_gd (List.mem_of_getElem? (i := 588) (by decide +kernel)) (by decide +kernel)
theorem q_589 : Cond.code yX8_sumOf cX8_sumOf 4 (some .int) ∈ lw_good := ts_gd (List.mem_of_getElem? (i := 589) (by decide +kernel)) (by decide +kernel)
theorem q_594 : Cond.methodLink "TeaspoonSalon" 312 ⟨"TeaspoonSalon$Spoons", "accountedLumps", "()I"⟩ ∈ lw_good := ts_gd (List.mem_of_getElem? (i := 594) (by decide +kernel)) (by decide +kernel)
theorem q_595 : Cond.instanceMethod yX8_accountedLumps ∈ lw_good := ts_gd (List.mem_of_getElem? (i := 595) (by decide +kernel)) (by decide +kernel)
theorem q_596 : Cond.selects yX8_accountedLumps.cls yX8_accountedLumps yX8_accountedLumps ∈ lw_good := ts_gd (List.mem_of_getElem? (i := 596) (by decide +kernel)) (by decide +kernel)
theorem q_597 : Cond.code yX8_accountedLumps cX8_accountedLumps 1 (some .int) ∈ lw_good := ts_gd (List.mem_of_getElem? (i := 597) (by decide +kernel)) (by decide +kernel)
theorem q_620 : Cond.methodLink "TeaspoonSalon$Ranking" 86 ⟨"TeaspoonSalon$Ranking", "beats", "(II)Z"⟩ ∈ lw_good := ts_gd (List.mem_of_getElem? (i := 620) (by decide +kernel)) (by decide +kernel)
theorem q_622 : Cond.instanceMethod yX5_beats ∈ lw_good := ts_gd (List.mem_of_getElem? (i := 622) (by decide +kernel)) (by decide +kernel)
theorem q_623 : Cond.code yX5_beats cX5_beats 3 (some .boolean) ∈ lw_good := ts_gd (List.mem_of_getElem? (i := 623) (by decide +kernel)) (by decide +kernel)
theorem q_628 : Cond.methodLink "TeaspoonSalon$Ranking" 83 ⟨"TeaspoonSalon$Ranking", "notBeating", "(I)I"⟩ ∈ lw_good := ts_gd (List.mem_of_getElem? (i := 628) (by decide +kernel)) (by decide +kernel)
theorem q_630 : Cond.instanceMethod yX5_notBeating ∈ lw_good := ts_gd (List.mem_of_getElem? (i := 630) (by decide +kernel)) (by decide +kernel)
theorem q_631 : Cond.code yX5_notBeating cX5_notBeating 4 (some .int) ∈ lw_good := ts_gd (List.mem_of_getElem? (i := 631) (by decide +kernel)) (by decide +kernel)
theorem q_636 : Cond.methodLink "TeaspoonSalon$Cloth" 78 ⟨"TeaspoonSalon$Cloth", "joinGroups", "()V"⟩ ∈ lw_good := ts_gd (List.mem_of_getElem? (i := 636) (by decide +kernel)) (by decide +kernel)
theorem q_637 : Cond.instanceMethod yX1_joinGroups ∈ lw_good := ts_gd (List.mem_of_getElem? (i := 637) (by decide +kernel)) (by decide +kernel)
theorem q_638 : Cond.selects yX1_joinGroups.cls yX1_joinGroups yX1_joinGroups ∈ lw_good := ts_gd (List.mem_of_getElem? (i := 638) (by decide +kernel)) (by decide +kernel)
theorem q_639 : Cond.code yX1_joinGroups cX1_joinGroups 3 none ∈ lw_good := ts_gd (List.mem_of_getElem? (i := 639) (by decide +kernel)) (by decide +kernel)
theorem q_640 : Cond.methodLink "TeaspoonSalon$Cloth" 45 ⟨"TeaspoonSalon$Cloth", "wetAt", "(II)J"⟩ ∈ lw_good := ts_gd (List.mem_of_getElem? (i := 640) (by decide +kernel)) (by decide +kernel)
theorem q_641 : Cond.instanceMethod yX1_wetAt ∈ lw_good := ts_gd (List.mem_of_getElem? (i := 641) (by decide +kernel)) (by decide +kernel)
theorem q_642 : Cond.selects yX1_wetAt.cls yX1_wetAt yX1_wetAt ∈ lw_good := ts_gd (List.mem_of_getElem? (i := 642) (by decide +kernel)) (by decide +kernel)
theorem q_643 : Cond.code yX1_wetAt cX1_wetAt 3 (some .long) ∈ lw_good := ts_gd (List.mem_of_getElem? (i := 643) (by decide +kernel)) (by decide +kernel)
theorem q_644 : Cond.methodLink "TeaspoonSalon$Cloth" 27 ⟨"TeaspoonSalon$Cloth", "cell", "(II)J"⟩ ∈ lw_good := ts_gd (List.mem_of_getElem? (i := 644) (by decide +kernel)) (by decide +kernel)
theorem q_645 : Cond.static yX1_cell ∈ lw_good := ts_gd (List.mem_of_getElem? (i := 645) (by decide +kernel)) (by decide +kernel)
theorem q_646 : Cond.code yX1_cell cX1_cell 2 (some .long) ∈ lw_good := ts_gd (List.mem_of_getElem? (i := 646) (by decide +kernel)) (by decide +kernel)
theorem q_647 : Cond.methodLink "TeaspoonSalon$Cloth" 74 ⟨"TeaspoonSalon$Cloth", "joinCell", "(J)V"⟩ ∈ lw_good := ts_gd (List.mem_of_getElem? (i := 647) (by decide +kernel)) (by decide +kernel)
theorem q_649 : Cond.instanceMethod yX1_joinCell ∈ lw_good := ts_gd (List.mem_of_getElem? (i := 649) (by decide +kernel)) (by decide +kernel)
theorem q_650 : Cond.code yX1_joinCell cX1_joinCell 9 none ∈ lw_good := ts_gd (List.mem_of_getElem? (i := 650) (by decide +kernel)) (by decide +kernel)
theorem q_651 : Cond.methodLink "TeaspoonSalon$Cloth" 81 ⟨"TeaspoonSalon$Cloth", "groupOf", "(J)J"⟩ ∈ lw_good := ts_gd (List.mem_of_getElem? (i := 651) (by decide +kernel)) (by decide +kernel)
theorem q_652 : Cond.instanceMethod yX1_groupOf ∈ lw_good := ts_gd (List.mem_of_getElem? (i := 652) (by decide +kernel)) (by decide +kernel)
theorem q_653 : Cond.selects yX1_groupOf.cls yX1_groupOf yX1_groupOf ∈ lw_good := ts_gd (List.mem_of_getElem? (i := 653) (by decide +kernel)) (by decide +kernel)
theorem q_654 : Cond.code yX1_groupOf cX1_groupOf 4 (some .long) ∈ lw_good := ts_gd (List.mem_of_getElem? (i := 654) (by decide +kernel)) (by decide +kernel)
theorem q_1006 : Cond.methodLink "TeaspoonSalon$Table" 33 ⟨"TeaspoonSalon$Table", "rankAt", "(I)I"⟩ ∈ lw_good := ts_gd (List.mem_of_getElem? (i := 1006) (by decide +kernel)) (by decide +kernel)
theorem q_1007 : Cond.instanceMethod yX10_rankAt ∈ lw_good := ts_gd (List.mem_of_getElem? (i := 1007) (by decide +kernel)) (by decide +kernel)
theorem q_1008 : Cond.selects yX10_rankAt.cls yX10_rankAt yX10_rankAt ∈ lw_good := ts_gd (List.mem_of_getElem? (i := 1008) (by decide +kernel)) (by decide +kernel)
theorem q_1009 : Cond.code yX10_rankAt cX10_rankAt 2 (some .int) ∈ lw_good := ts_gd (List.mem_of_getElem? (i := 1009) (by decide +kernel)) (by decide +kernel)
theorem q_1011 : Cond.static yX11_isBetween ∈ lw_good := ts_gd (List.mem_of_getElem? (i := 1011) (by decide +kernel)) (by decide +kernel)
theorem q_1012 : Cond.code yX11_isBetween cX11_isBetween 3 (some .boolean) ∈ lw_good := ts_gd (List.mem_of_getElem? (i := 1012) (by decide +kernel)) (by decide +kernel)
theorem q_1129 : Cond.instanceMethod yX4_placeOf ∈ lw_good := ts_gd (List.mem_of_getElem? (i := 1129) (by decide +kernel)) (by decide +kernel)
theorem q_1130 : Cond.selects yX4_placeOf.cls yX4_placeOf yX4_placeOf ∈ lw_good := ts_gd (List.mem_of_getElem? (i := 1130) (by decide +kernel)) (by decide +kernel)
theorem q_1131 : Cond.code yX4_placeOf cX4_placeOf 3 (some .int) ∈ lw_good := ts_gd (List.mem_of_getElem? (i := 1131) (by decide +kernel)) (by decide +kernel)
theorem q_1142 : Cond.methodLink "TeaspoonSalon$Table" 49 ⟨"TeaspoonSalon$Table", "topRank", "()I"⟩ ∈ lw_good := ts_gd (List.mem_of_getElem? (i := 1142) (by decide +kernel)) (by decide +kernel)
theorem q_1143 : Cond.instanceMethod yX10_topRank ∈ lw_good := ts_gd (List.mem_of_getElem? (i := 1143) (by decide +kernel)) (by decide +kernel)
theorem q_1144 : Cond.selects yX10_topRank.cls yX10_topRank yX10_topRank ∈ lw_good := ts_gd (List.mem_of_getElem? (i := 1144) (by decide +kernel)) (by decide +kernel)
theorem q_1145 : Cond.code yX10_topRank cX10_topRank 1 (some .int) ∈ lw_good := ts_gd (List.mem_of_getElem? (i := 1145) (by decide +kernel)) (by decide +kernel)
theorem q_1152 : Cond.methodLink "TeaspoonSalon$State" 144 ⟨"TeaspoonSalon$Spoons", "has", "(I)Z"⟩ ∈ lw_good := ts_gd (List.mem_of_getElem? (i := 1152) (by decide +kernel)) (by decide +kernel)
theorem q_1153 : Cond.instanceMethod yX8_has ∈ lw_good := ts_gd (List.mem_of_getElem? (i := 1153) (by decide +kernel)) (by decide +kernel)
theorem q_1154 : Cond.selects yX8_has.cls yX8_has yX8_has ∈ lw_good := ts_gd (List.mem_of_getElem? (i := 1154) (by decide +kernel)) (by decide +kernel)
theorem q_1155 : Cond.code yX8_has cX8_has 2 (some .boolean) ∈ lw_good := ts_gd (List.mem_of_getElem? (i := 1155) (by decide +kernel)) (by decide +kernel)
theorem q_1163 : Cond.static yX1_hasCell ∈ lw_good := ts_gd (List.mem_of_getElem? (i := 1163) (by decide +kernel)) (by decide +kernel)
theorem q_1164 : Cond.code yX1_hasCell cX1_hasCell 2 (some .boolean) ∈ lw_good := ts_gd (List.mem_of_getElem? (i := 1164) (by decide +kernel)) (by decide +kernel)
theorem q_1251 : Cond.methodLink "TeaspoonSalon$History" 20 ⟨"java/lang/Math", "floorMod", "(II)I"⟩ ∈ lw_good := ts_gd (List.mem_of_getElem? (i := 1251) (by decide +kernel)) (by decide +kernel)
theorem q_1252 : Cond.static yJ9_floorMod_7cf53 ∈ lw_good := ts_gd (List.mem_of_getElem? (i := 1252) (by decide +kernel)) (by decide +kernel)
theorem q_1253 : Cond.code yJ9_floorMod_7cf53 cJ9_floorMod_7cf53 3 (some .int) ∈ lw_good := ts_gd (List.mem_of_getElem? (i := 1253) (by decide +kernel)) (by decide +kernel)
theorem q_1268 : Cond.methodLink "TeaspoonSalon$Proposals" 33 ⟨"TeaspoonSalon$Proposals", "append", "(II)V"⟩ ∈ lw_good := ts_gd (List.mem_of_getElem? (i := 1268) (by decide +kernel)) (by decide +kernel)
theorem q_1270 : Cond.instanceMethod yX4_append ∈ lw_good := ts_gd (List.mem_of_getElem? (i := 1270) (by decide +kernel)) (by decide +kernel)
theorem q_1271 : Cond.code yX4_append cX4_append 3 none ∈ lw_good := ts_gd (List.mem_of_getElem? (i := 1271) (by decide +kernel)) (by decide +kernel)
theorem q_1280 : Cond.methodLink "TeaspoonSalon$Spoons" 41 ⟨"TeaspoonSalon$Spoons", "has", "(I)Z"⟩ ∈ lw_good := ts_gd (List.mem_of_getElem? (i := 1280) (by decide +kernel)) (by decide +kernel)
theorem q_1285 : Cond.methodLink "TeaspoonSalon$State" 204 ⟨"TeaspoonSalon$Table", "topRank", "()I"⟩ ∈ lw_good := ts_gd (List.mem_of_getElem? (i := 1285) (by decide +kernel)) (by decide +kernel)
theorem q_1286 : Cond.methodLink "TeaspoonSalon$State" 207 ⟨"TeaspoonSalon$State", "yesWeight", "()I"⟩ ∈ lw_good := ts_gd (List.mem_of_getElem? (i := 1286) (by decide +kernel)) (by decide +kernel)
theorem q_1287 : Cond.instanceMethod yX9_yesWeight ∈ lw_good := ts_gd (List.mem_of_getElem? (i := 1287) (by decide +kernel)) (by decide +kernel)
theorem q_1288 : Cond.selects yX9_yesWeight.cls yX9_yesWeight yX9_yesWeight ∈ lw_good := ts_gd (List.mem_of_getElem? (i := 1288) (by decide +kernel)) (by decide +kernel)
theorem q_1289 : Cond.code yX9_yesWeight cX9_yesWeight 4 (some .int) ∈ lw_good := ts_gd (List.mem_of_getElem? (i := 1289) (by decide +kernel)) (by decide +kernel)
theorem q_1290 : Cond.methodLink "TeaspoonSalon$State" 230 ⟨"TeaspoonSalon$State", "mainPosition", "()I"⟩ ∈ lw_good := ts_gd (List.mem_of_getElem? (i := 1290) (by decide +kernel)) (by decide +kernel)
theorem q_1291 : Cond.instanceMethod yX9_mainPosition ∈ lw_good := ts_gd (List.mem_of_getElem? (i := 1291) (by decide +kernel)) (by decide +kernel)
theorem q_1292 : Cond.selects yX9_mainPosition.cls yX9_mainPosition yX9_mainPosition ∈ lw_good := ts_gd (List.mem_of_getElem? (i := 1292) (by decide +kernel)) (by decide +kernel)
theorem q_1293 : Cond.code yX9_mainPosition cX9_mainPosition 1 (some .int) ∈ lw_good := ts_gd (List.mem_of_getElem? (i := 1293) (by decide +kernel)) (by decide +kernel)
theorem q_1294 : Cond.methodLink "TeaspoonSalon$State" 278 ⟨"TeaspoonSalon$Proposals", "positionOf", "(I)I"⟩ ∈ lw_good := ts_gd (List.mem_of_getElem? (i := 1294) (by decide +kernel)) (by decide +kernel)
theorem q_1295 : Cond.instanceMethod yX4_positionOf ∈ lw_good := ts_gd (List.mem_of_getElem? (i := 1295) (by decide +kernel)) (by decide +kernel)
theorem q_1296 : Cond.selects yX4_positionOf.cls yX4_positionOf yX4_positionOf ∈ lw_good := ts_gd (List.mem_of_getElem? (i := 1296) (by decide +kernel)) (by decide +kernel)
theorem q_1297 : Cond.code yX4_positionOf cX4_positionOf 3 (some .int) ∈ lw_good := ts_gd (List.mem_of_getElem? (i := 1297) (by decide +kernel)) (by decide +kernel)
theorem q_1298 : Cond.methodLink "TeaspoonSalon$Proposals" 29 ⟨"TeaspoonSalon$Proposals", "placeOf", "(I)I"⟩ ∈ lw_good := ts_gd (List.mem_of_getElem? (i := 1298) (by decide +kernel)) (by decide +kernel)
theorem q_1299 : Cond.methodLink "TeaspoonSalon$State" 233 ⟨"TeaspoonSalon$State", "saysYes", "(II)Z"⟩ ∈ lw_good := ts_gd (List.mem_of_getElem? (i := 1299) (by decide +kernel)) (by decide +kernel)
theorem q_1300 : Cond.instanceMethod yX9_saysYes ∈ lw_good := ts_gd (List.mem_of_getElem? (i := 1300) (by decide +kernel)) (by decide +kernel)
theorem q_1301 : Cond.selects yX9_saysYes.cls yX9_saysYes yX9_saysYes ∈ lw_good := ts_gd (List.mem_of_getElem? (i := 1301) (by decide +kernel)) (by decide +kernel)
theorem q_1302 : Cond.code yX9_saysYes cX9_saysYes 4 (some .boolean) ∈ lw_good := ts_gd (List.mem_of_getElem? (i := 1302) (by decide +kernel)) (by decide +kernel)
theorem q_1303 : Cond.methodLink "TeaspoonSalon$State" 296 ⟨"java/lang/Math", "abs", "(I)I"⟩ ∈ lw_good := ts_gd (List.mem_of_getElem? (i := 1303) (by decide +kernel)) (by decide +kernel)
theorem q_1304 : Cond.methodLink "TeaspoonSalon$State" 248 ⟨"TeaspoonSalon$State", "amended", "(I)I"⟩ ∈ lw_good := ts_gd (List.mem_of_getElem? (i := 1304) (by decide +kernel)) (by decide +kernel)
theorem q_1306 : Cond.instanceMethod yX9_amended ∈ lw_good := ts_gd (List.mem_of_getElem? (i := 1306) (by decide +kernel)) (by decide +kernel)
theorem q_1307 : Cond.code yX9_amended cX9_amended 2 (some .int) ∈ lw_good := ts_gd (List.mem_of_getElem? (i := 1307) (by decide +kernel)) (by decide +kernel)
theorem q_1308 : Cond.methodLink "TeaspoonSalon$State" 281 ⟨"java/lang/Math", "min", "(II)I"⟩ ∈ lw_good := ts_gd (List.mem_of_getElem? (i := 1308) (by decide +kernel)) (by decide +kernel)
theorem q_1309 : Cond.methodLink "TeaspoonSalon$State" 284 ⟨"java/lang/Math", "max", "(II)I"⟩ ∈ lw_good := ts_gd (List.mem_of_getElem? (i := 1309) (by decide +kernel)) (by decide +kernel)
theorem q_1310 : Cond.methodLink "TeaspoonSalon$State" 210 ⟨"TeaspoonSalon$State", "isEnough", "(I)Z"⟩ ∈ lw_good := ts_gd (List.mem_of_getElem? (i := 1310) (by decide +kernel)) (by decide +kernel)
theorem q_1311 : Cond.instanceMethod yX9_isEnough ∈ lw_good := ts_gd (List.mem_of_getElem? (i := 1311) (by decide +kernel)) (by decide +kernel)
theorem q_1312 : Cond.selects yX9_isEnough.cls yX9_isEnough yX9_isEnough ∈ lw_good := ts_gd (List.mem_of_getElem? (i := 1312) (by decide +kernel)) (by decide +kernel)
theorem q_1313 : Cond.code yX9_isEnough cX9_isEnough 3 (some .boolean) ∈ lw_good := ts_gd (List.mem_of_getElem? (i := 1313) (by decide +kernel)) (by decide +kernel)
theorem q_1314 : Cond.methodLink "TeaspoonSalon$State" 290 ⟨"TeaspoonSalon$Spoons", "weightSum", "()I"⟩ ∈ lw_good := ts_gd (List.mem_of_getElem? (i := 1314) (by decide +kernel)) (by decide +kernel)
theorem q_1315 : Cond.instanceMethod yX8_weightSum ∈ lw_good := ts_gd (List.mem_of_getElem? (i := 1315) (by decide +kernel)) (by decide +kernel)
theorem q_1316 : Cond.selects yX8_weightSum.cls yX8_weightSum yX8_weightSum ∈ lw_good := ts_gd (List.mem_of_getElem? (i := 1316) (by decide +kernel)) (by decide +kernel)
theorem q_1317 : Cond.code yX8_weightSum cX8_weightSum 1 (some .int) ∈ lw_good := ts_gd (List.mem_of_getElem? (i := 1317) (by decide +kernel)) (by decide +kernel)
theorem q_1318 : Cond.methodLink "TeaspoonSalon$State" 213 ⟨"TeaspoonSalon$State", "rewardYesVoters", "()V"⟩ ∈ lw_good := ts_gd (List.mem_of_getElem? (i := 1318) (by decide +kernel)) (by decide +kernel)
theorem q_1320 : Cond.instanceMethod yX9_rewardYesVoters ∈ lw_good := ts_gd (List.mem_of_getElem? (i := 1320) (by decide +kernel)) (by decide +kernel)
theorem q_1321 : Cond.code yX9_rewardYesVoters cX9_rewardYesVoters 3 none ∈ lw_good := ts_gd (List.mem_of_getElem? (i := 1321) (by decide +kernel)) (by decide +kernel)
theorem q_1322 : Cond.methodLink "TeaspoonSalon$State" 236 ⟨"TeaspoonSalon$Spoons", "gain", "(II)V"⟩ ∈ lw_good := ts_gd (List.mem_of_getElem? (i := 1322) (by decide +kernel)) (by decide +kernel)
theorem q_1323 : Cond.instanceMethod yX8_gain ∈ lw_good := ts_gd (List.mem_of_getElem? (i := 1323) (by decide +kernel)) (by decide +kernel)
theorem q_1324 : Cond.selects yX8_gain.cls yX8_gain yX8_gain ∈ lw_good := ts_gd (List.mem_of_getElem? (i := 1324) (by decide +kernel)) (by decide +kernel)
theorem q_1325 : Cond.code yX8_gain cX8_gain 3 none ∈ lw_good := ts_gd (List.mem_of_getElem? (i := 1325) (by decide +kernel)) (by decide +kernel)
theorem q_1326 : Cond.methodLink "TeaspoonSalon$State" 216 ⟨"TeaspoonSalon$Table", "takeTop", "()V"⟩ ∈ lw_good := ts_gd (List.mem_of_getElem? (i := 1326) (by decide +kernel)) (by decide +kernel)
theorem q_1327 : Cond.instanceMethod yX10_takeTop ∈ lw_good := ts_gd (List.mem_of_getElem? (i := 1327) (by decide +kernel)) (by decide +kernel)
theorem q_1328 : Cond.selects yX10_takeTop.cls yX10_takeTop yX10_takeTop ∈ lw_good := ts_gd (List.mem_of_getElem? (i := 1328) (by decide +kernel)) (by decide +kernel)
theorem q_1329 : Cond.code yX10_takeTop cX10_takeTop 1 none ∈ lw_good := ts_gd (List.mem_of_getElem? (i := 1329) (by decide +kernel)) (by decide +kernel)
theorem q_1330 : Cond.methodLink "TeaspoonSalon$State" 219 ⟨"TeaspoonSalon$State", "settleMain", "(Z)V"⟩ ∈ lw_good := ts_gd (List.mem_of_getElem? (i := 1330) (by decide +kernel)) (by decide +kernel)
theorem q_1332 : Cond.instanceMethod yX9_settleMain ∈ lw_good := ts_gd (List.mem_of_getElem? (i := 1332) (by decide +kernel)) (by decide +kernel)
theorem q_1333 : Cond.code yX9_settleMain cX9_settleMain 2 none ∈ lw_good := ts_gd (List.mem_of_getElem? (i := 1333) (by decide +kernel)) (by decide +kernel)
theorem q_1334 : Cond.methodLink "TeaspoonSalon$State" 240 ⟨"java/lang/Math", "floorMod", "(II)I"⟩ ∈ lw_good := ts_gd (List.mem_of_getElem? (i := 1334) (by decide +kernel)) (by decide +kernel)
theorem q_1335 : Cond.methodLink "TeaspoonSalon$State" 245 ⟨"TeaspoonSalon$Proposals", "remove", "(I)V"⟩ ∈ lw_good := ts_gd (List.mem_of_getElem? (i := 1335) (by decide +kernel)) (by decide +kernel)
theorem q_1336 : Cond.instanceMethod yX4_remove ∈ lw_good := ts_gd (List.mem_of_getElem? (i := 1336) (by decide +kernel)) (by decide +kernel)
theorem q_1337 : Cond.selects yX4_remove.cls yX4_remove yX4_remove ∈ lw_good := ts_gd (List.mem_of_getElem? (i := 1337) (by decide +kernel)) (by decide +kernel)
theorem q_1338 : Cond.code yX4_remove cX4_remove 4 none ∈ lw_good := ts_gd (List.mem_of_getElem? (i := 1338) (by decide +kernel)) (by decide +kernel)
theorem q_1339 : Cond.methodLink "TeaspoonSalon$State" 223 ⟨"TeaspoonSalon$State", "takeEffect", "(I)V"⟩ ∈ lw_good := ts_gd (List.mem_of_getElem? (i := 1339) (by decide +kernel)) (by decide +kernel)
theorem q_1341 : Cond.instanceMethod yX9_takeEffect ∈ lw_good := ts_gd (List.mem_of_getElem? (i := 1341) (by decide +kernel)) (by decide +kernel)
theorem q_1342 : Cond.code yX9_takeEffect cX9_takeEffect 2 none ∈ lw_good := ts_gd (List.mem_of_getElem? (i := 1342) (by decide +kernel)) (by decide +kernel)
theorem q_1343 : Cond.methodLink "TeaspoonSalon$State" 251 ⟨"TeaspoonSalon$Proposals", "setPosition", "(II)V"⟩ ∈ lw_good := ts_gd (List.mem_of_getElem? (i := 1343) (by decide +kernel)) (by decide +kernel)
theorem q_1344 : Cond.instanceMethod yX4_setPosition ∈ lw_good := ts_gd (List.mem_of_getElem? (i := 1344) (by decide +kernel)) (by decide +kernel)
theorem q_1345 : Cond.selects yX4_setPosition.cls yX4_setPosition yX4_setPosition ∈ lw_good := ts_gd (List.mem_of_getElem? (i := 1345) (by decide +kernel)) (by decide +kernel)
theorem q_1346 : Cond.code yX4_setPosition cX4_setPosition 4 none ∈ lw_good := ts_gd (List.mem_of_getElem? (i := 1346) (by decide +kernel)) (by decide +kernel)
theorem q_1347 : Cond.methodLink "TeaspoonSalon$State" 254 ⟨"TeaspoonSalon$Table", "clear", "()V"⟩ ∈ lw_good := ts_gd (List.mem_of_getElem? (i := 1347) (by decide +kernel)) (by decide +kernel)
theorem q_1348 : Cond.instanceMethod yX10_clear ∈ lw_good := ts_gd (List.mem_of_getElem? (i := 1348) (by decide +kernel)) (by decide +kernel)
theorem q_1349 : Cond.selects yX10_clear.cls yX10_clear yX10_clear ∈ lw_good := ts_gd (List.mem_of_getElem? (i := 1349) (by decide +kernel)) (by decide +kernel)
theorem q_1350 : Cond.code yX10_clear cX10_clear 1 none ∈ lw_good := ts_gd (List.mem_of_getElem? (i := 1350) (by decide +kernel)) (by decide +kernel)
theorem q_1351 : Cond.methodLink "TeaspoonSalon$State" 257 ⟨"TeaspoonSalon$Proposals", "moveToEnd", "(I)V"⟩ ∈ lw_good := ts_gd (List.mem_of_getElem? (i := 1351) (by decide +kernel)) (by decide +kernel)
theorem q_1352 : Cond.instanceMethod yX4_moveToEnd ∈ lw_good := ts_gd (List.mem_of_getElem? (i := 1352) (by decide +kernel)) (by decide +kernel)
theorem q_1353 : Cond.selects yX4_moveToEnd.cls yX4_moveToEnd yX4_moveToEnd ∈ lw_good := ts_gd (List.mem_of_getElem? (i := 1353) (by decide +kernel)) (by decide +kernel)
theorem q_1354 : Cond.code yX4_moveToEnd cX4_moveToEnd 3 none ∈ lw_good := ts_gd (List.mem_of_getElem? (i := 1354) (by decide +kernel)) (by decide +kernel)
theorem q_1355 : Cond.methodLink "TeaspoonSalon$Proposals" 37 ⟨"TeaspoonSalon$Proposals", "positionOf", "(I)I"⟩ ∈ lw_good := ts_gd (List.mem_of_getElem? (i := 1355) (by decide +kernel)) (by decide +kernel)
theorem q_1356 : Cond.methodLink "TeaspoonSalon$Proposals" 40 ⟨"TeaspoonSalon$Proposals", "remove", "(I)V"⟩ ∈ lw_good := ts_gd (List.mem_of_getElem? (i := 1356) (by decide +kernel)) (by decide +kernel)
theorem q_1357 : Cond.methodLink "TeaspoonSalon$State" 260 ⟨"TeaspoonSalon$State", "endSitting", "()V"⟩ ∈ lw_good := ts_gd (List.mem_of_getElem? (i := 1357) (by decide +kernel)) (by decide +kernel)
theorem q_1359 : Cond.instanceMethod yX9_endSitting ∈ lw_good := ts_gd (List.mem_of_getElem? (i := 1359) (by decide +kernel)) (by decide +kernel)
theorem q_1360 : Cond.code yX9_endSitting cX9_endSitting 1 none ∈ lw_good := ts_gd (List.mem_of_getElem? (i := 1360) (by decide +kernel)) (by decide +kernel)
theorem q_1361 : Cond.methodLink "TeaspoonSalon$State" 227 ⟨"TeaspoonSalon$State", "startAnewIfTableIsEmpty", "()V"⟩ ∈ lw_good := ts_gd (List.mem_of_getElem? (i := 1361) (by decide +kernel)) (by decide +kernel)
theorem q_1363 : Cond.instanceMethod yX9_startAnewIfTableIsEmpty ∈ lw_good := ts_gd (List.mem_of_getElem? (i := 1363) (by decide +kernel)) (by decide +kernel)
theorem q_1364 : Cond.code yX9_startAnewIfTableIsEmpty cX9_startAnewIfTableIsEmpty 1 none ∈ lw_good := ts_gd (List.mem_of_getElem? (i := 1364) (by decide +kernel)) (by decide +kernel)
theorem q_1365 : Cond.methodLink "TeaspoonSalon$State" 263 ⟨"TeaspoonSalon$Spoons", "forgetSpeeches", "()V"⟩ ∈ lw_good := ts_gd (List.mem_of_getElem? (i := 1365) (by decide +kernel)) (by decide +kernel)
theorem q_1366 : Cond.instanceMethod yX8_forgetSpeeches ∈ lw_good := ts_gd (List.mem_of_getElem? (i := 1366) (by decide +kernel)) (by decide +kernel)
theorem q_1367 : Cond.selects yX8_forgetSpeeches.cls yX8_forgetSpeeches yX8_forgetSpeeches ∈ lw_good := ts_gd (List.mem_of_getElem? (i := 1367) (by decide +kernel)) (by decide +kernel)
theorem q_1368 : Cond.code yX8_forgetSpeeches cX8_forgetSpeeches 2 none ∈ lw_good := ts_gd (List.mem_of_getElem? (i := 1368) (by decide +kernel)) (by decide +kernel)
theorem q_1373 : Cond.methodLink "TeaspoonSalon$State" 266 ⟨"TeaspoonSalon$Cloth", "spread", "(III)V"⟩ ∈ lw_good := ts_gd (List.mem_of_getElem? (i := 1373) (by decide +kernel)) (by decide +kernel)
theorem q_1374 : Cond.instanceMethod yX1_spread ∈ lw_good := ts_gd (List.mem_of_getElem? (i := 1374) (by decide +kernel)) (by decide +kernel)
theorem q_1375 : Cond.selects yX1_spread.cls yX1_spread yX1_spread ∈ lw_good := ts_gd (List.mem_of_getElem? (i := 1375) (by decide +kernel)) (by decide +kernel)
theorem q_1376 : Cond.code yX1_spread cX1_spread 8 none ∈ lw_good := ts_gd (List.mem_of_getElem? (i := 1376) (by decide +kernel)) (by decide +kernel)
theorem q_1377 : Cond.methodLink "TeaspoonSalon$Cloth" 31 ⟨"java/lang/Math", "abs", "(I)I"⟩ ∈ lw_good := ts_gd (List.mem_of_getElem? (i := 1377) (by decide +kernel)) (by decide +kernel)
theorem q_1378 : Cond.methodLink "TeaspoonSalon$Cloth" 37 ⟨"TeaspoonSalon$Cloth", "moisten", "(III)I"⟩ ∈ lw_good := ts_gd (List.mem_of_getElem? (i := 1378) (by decide +kernel)) (by decide +kernel)
theorem q_1380 : Cond.instanceMethod yX1_moisten ∈ lw_good := ts_gd (List.mem_of_getElem? (i := 1380) (by decide +kernel)) (by decide +kernel)
theorem q_1381 : Cond.code yX1_moisten cX1_moisten 4 (some .int) ∈ lw_good := ts_gd (List.mem_of_getElem? (i := 1381) (by decide +kernel)) (by decide +kernel)
theorem q_1382 : Cond.methodLink "TeaspoonSalon$Cloth" 41 ⟨"TeaspoonSalon$Cloth", "hasCell", "(II)Z"⟩ ∈ lw_good := ts_gd (List.mem_of_getElem? (i := 1382) (by decide +kernel)) (by decide +kernel)
theorem q_1383 : Cond.methodLink "TeaspoonSalon$State" 270 ⟨"TeaspoonSalon$Cloth", "largestSize", "()I"⟩ ∈ lw_good := ts_gd (List.mem_of_getElem? (i := 1383) (by decide +kernel)) (by decide +kernel)
theorem q_1384 : Cond.methodLink "TeaspoonSalon$State" 273 ⟨"java/lang/Long", "bitCount", "(J)I"⟩ ∈ lw_good := ts_gd (List.mem_of_getElem? (i := 1384) (by decide +kernel)) (by decide +kernel)
theorem q_1509 : Cond.methodLink "TeaspoonSalon" 468 ⟨"TeaspoonSalon$Spoons", "has", "(I)Z"⟩ ∈ lw_good := ts_gd (List.mem_of_getElem? (i := 1509) (by decide +kernel)) (by decide +kernel)
theorem q_1555 : Cond.methodLink "TeaspoonSalon" 235 ⟨"TeaspoonSalon$Proposals", "placeOf", "(I)I"⟩ ∈ lw_good := ts_gd (List.mem_of_getElem? (i := 1555) (by decide +kernel)) (by decide +kernel)
theorem q_1573 : Cond.methodLink "TeaspoonSalon" 168 ⟨"TeaspoonSalon$Table", "holds", "(I)Z"⟩ ∈ lw_good := ts_gd (List.mem_of_getElem? (i := 1573) (by decide +kernel)) (by decide +kernel)
theorem q_1574 : Cond.instanceMethod yX10_holds ∈ lw_good := ts_gd (List.mem_of_getElem? (i := 1574) (by decide +kernel)) (by decide +kernel)
theorem q_1575 : Cond.selects yX10_holds.cls yX10_holds yX10_holds ∈ lw_good := ts_gd (List.mem_of_getElem? (i := 1575) (by decide +kernel)) (by decide +kernel)
theorem q_1576 : Cond.code yX10_holds cX10_holds 3 (some .boolean) ∈ lw_good := ts_gd (List.mem_of_getElem? (i := 1576) (by decide +kernel)) (by decide +kernel)
theorem q_1691 : Cond.methodLink "TeaspoonSalon$Ranking" 69 ⟨"TeaspoonSalon$Ranking", "fewestByTable", "()I"⟩ ∈ lw_good := ts_gd (List.mem_of_getElem? (i := 1691) (by decide +kernel)) (by decide +kernel)
theorem q_1692 : Cond.methodLink "TeaspoonSalon$Ranking" 72 ⟨"TeaspoonSalon$Ranking", "bestFirst", "(ILTeaspoonSalon$Proposals;)I"⟩ ∈ lw_good := ts_gd (List.mem_of_getElem? (i := 1692) (by decide +kernel)) (by decide +kernel)
theorem q_1694 : Cond.instanceMethod yX5_bestFirst ∈ lw_good := ts_gd (List.mem_of_getElem? (i := 1694) (by decide +kernel)) (by decide +kernel)
theorem q_1695 : Cond.code yX5_bestFirst cX5_bestFirst 5 (some .int) ∈ lw_good := ts_gd (List.mem_of_getElem? (i := 1695) (by decide +kernel)) (by decide +kernel)
theorem q_1724 : Cond.methodLink "TeaspoonSalon" 473 ⟨"TeaspoonSalon$Cloth", "hasCell", "(II)Z"⟩ ∈ lw_good := ts_gd (List.mem_of_getElem? (i := 1724) (by decide +kernel)) (by decide +kernel)
theorem q_1757 : Cond.methodLink "TeaspoonSalon$Spoons" 55 ⟨"TeaspoonSalon$Spoons", "comesBefore", "(II)Z"⟩ ∈ lw_good := ts_gd (List.mem_of_getElem? (i := 1757) (by decide +kernel)) (by decide +kernel)
theorem q_1759 : Cond.instanceMethod yX8_comesBefore ∈ lw_good := ts_gd (List.mem_of_getElem? (i := 1759) (by decide +kernel)) (by decide +kernel)
theorem q_1760 : Cond.code yX8_comesBefore cX8_comesBefore 3 (some .boolean) ∈ lw_good := ts_gd (List.mem_of_getElem? (i := 1760) (by decide +kernel)) (by decide +kernel)
theorem q_1768 : Cond.methodLink "TeaspoonSalon" 298 ⟨"TeaspoonSalon$State", "keepsMinute", "(I)Z"⟩ ∈ lw_good := ts_gd (List.mem_of_getElem? (i := 1768) (by decide +kernel)) (by decide +kernel)
theorem q_1769 : Cond.instanceMethod yX9_keepsMinute ∈ lw_good := ts_gd (List.mem_of_getElem? (i := 1769) (by decide +kernel)) (by decide +kernel)
theorem q_1770 : Cond.selects yX9_keepsMinute.cls yX9_keepsMinute yX9_keepsMinute ∈ lw_good := ts_gd (List.mem_of_getElem? (i := 1770) (by decide +kernel)) (by decide +kernel)
theorem q_1771 : Cond.code yX9_keepsMinute cX9_keepsMinute 2 (some .boolean) ∈ lw_good := ts_gd (List.mem_of_getElem? (i := 1771) (by decide +kernel)) (by decide +kernel)
theorem q_1773 : Cond.methodLink "TeaspoonSalon" 303 ⟨"TeaspoonSalon$State", "minuteAt", "(I)I"⟩ ∈ lw_good := ts_gd (List.mem_of_getElem? (i := 1773) (by decide +kernel)) (by decide +kernel)
theorem q_1774 : Cond.instanceMethod yX9_minuteAt ∈ lw_good := ts_gd (List.mem_of_getElem? (i := 1774) (by decide +kernel)) (by decide +kernel)
theorem q_1775 : Cond.selects yX9_minuteAt.cls yX9_minuteAt yX9_minuteAt ∈ lw_good := ts_gd (List.mem_of_getElem? (i := 1775) (by decide +kernel)) (by decide +kernel)
theorem q_1776 : Cond.code yX9_minuteAt cX9_minuteAt 2 (some .int) ∈ lw_good := ts_gd (List.mem_of_getElem? (i := 1776) (by decide +kernel)) (by decide +kernel)
theorem q_1801 : Cond.methodLink "TeaspoonSalon" 320 ⟨"TeaspoonSalon$Spoons", "stanceSum", "()I"⟩ ∈ lw_good := ts_gd (List.mem_of_getElem? (i := 1801) (by decide +kernel)) (by decide +kernel)
theorem q_1802 : Cond.instanceMethod yX8_stanceSum ∈ lw_good := ts_gd (List.mem_of_getElem? (i := 1802) (by decide +kernel)) (by decide +kernel)
theorem q_1803 : Cond.selects yX8_stanceSum.cls yX8_stanceSum yX8_stanceSum ∈ lw_good := ts_gd (List.mem_of_getElem? (i := 1803) (by decide +kernel)) (by decide +kernel)
theorem q_1804 : Cond.code yX8_stanceSum cX8_stanceSum 1 (some .int) ∈ lw_good := ts_gd (List.mem_of_getElem? (i := 1804) (by decide +kernel)) (by decide +kernel)
theorem q_1875 : Cond.methodLink "TeaspoonSalon$Script" 79 ⟨"TeaspoonSalon$Script", "takeNumber", "(II)Z"⟩ ∈ lw_good := ts_gd (List.mem_of_getElem? (i := 1875) (by decide +kernel)) (by decide +kernel)
theorem q_1877 : Cond.instanceMethod yX7_takeNumber ∈ lw_good := ts_gd (List.mem_of_getElem? (i := 1877) (by decide +kernel)) (by decide +kernel)
theorem q_1878 : Cond.code yX7_takeNumber cX7_takeNumber 5 (some .boolean) ∈ lw_good := ts_gd (List.mem_of_getElem? (i := 1878) (by decide +kernel)) (by decide +kernel)
theorem q_1880 : Cond.methodLink "TeaspoonSalon$Script" 87 ⟨"TeaspoonSalon$Script", "keepArgument", "(I)V"⟩ ∈ lw_good := ts_gd (List.mem_of_getElem? (i := 1880) (by decide +kernel)) (by decide +kernel)
theorem q_1882 : Cond.instanceMethod yX7_keepArgument ∈ lw_good := ts_gd (List.mem_of_getElem? (i := 1882) (by decide +kernel)) (by decide +kernel)
theorem q_1883 : Cond.code yX7_keepArgument cX7_keepArgument 3 none ∈ lw_good := ts_gd (List.mem_of_getElem? (i := 1883) (by decide +kernel)) (by decide +kernel)
theorem q_1884 : Cond.methodLink "TeaspoonSalon$Script" 39 ⟨"TeaspoonSalon$Script", "take", "(C)Z"⟩ ∈ lw_good := ts_gd (List.mem_of_getElem? (i := 1884) (by decide +kernel)) (by decide +kernel)
theorem q_1886 : Cond.instanceMethod yX7_take ∈ lw_good := ts_gd (List.mem_of_getElem? (i := 1886) (by decide +kernel)) (by decide +kernel)
theorem q_1887 : Cond.code yX7_take cX7_take 2 (some .boolean) ∈ lw_good := ts_gd (List.mem_of_getElem? (i := 1887) (by decide +kernel)) (by decide +kernel)
theorem q_1958 : Cond.fieldLink "TeaspoonSalonModel" 48 "TeaspoonSalonModel" "thrown" "I" ∈ lw_good := ts_gd (List.mem_of_getElem? (i := 1958) (by decide +kernel)) (by decide +kernel)
theorem q_1959 : Cond.fieldLink "TeaspoonSalonModel" 7 "TeaspoonSalonModel" "w" "[I" ∈ lw_good := ts_gd (List.mem_of_getElem? (i := 1959) (by decide +kernel)) (by decide +kernel)
theorem q_1960 : Cond.fieldLink "TeaspoonSalonModel" 13 "TeaspoonSalonModel" "undos" "[I" ∈ lw_good := ts_gd (List.mem_of_getElem? (i := 1960) (by decide +kernel)) (by decide +kernel)
theorem q_1961 : Cond.fieldLink "TeaspoonSalonModel" 16 "TeaspoonSalonModel" "savedRow" "[I" ∈ lw_good := ts_gd (List.mem_of_getElem? (i := 1961) (by decide +kernel)) (by decide +kernel)
theorem q_1962 : Cond.fieldLink "TeaspoonSalonModel" 19 "TeaspoonSalonModel" "before" "[I" ∈ lw_good := ts_gd (List.mem_of_getElem? (i := 1962) (by decide +kernel)) (by decide +kernel)
theorem q_1963 : Cond.fieldLink "TeaspoonSalonModel" 51 "TeaspoonSalonModel" "changes" "I" ∈ lw_good := ts_gd (List.mem_of_getElem? (i := 1963) (by decide +kernel)) (by decide +kernel)
theorem q_1964 : Cond.fieldLink "TeaspoonSalonModel" 54 "TeaspoonSalonModel" "firstChange" "I" ∈ lw_good := ts_gd (List.mem_of_getElem? (i := 1964) (by decide +kernel)) (by decide +kernel)
theorem q_1965 : Cond.fieldLink "TeaspoonSalonModel" 345 "TeaspoonSalonModel" "isSaved" "Z" ∈ lw_good := ts_gd (List.mem_of_getElem? (i := 1965) (by decide +kernel)) (by decide +kernel)
theorem q_1966 : Cond.fieldLink "TeaspoonSalonModel" 22 "TeaspoonSalonModel" "marks" "[I" ∈ lw_good := ts_gd (List.mem_of_getElem? (i := 1966) (by decide +kernel)) (by decide +kernel)
theorem q_1967 : Cond.fieldLink "TeaspoonSalonModel" 25 "TeaspoonSalonModel" "costs" "[I" ∈ lw_good := ts_gd (List.mem_of_getElem? (i := 1967) (by decide +kernel)) (by decide +kernel)
theorem q_1968 : Cond.fieldLink "TeaspoonSalonModel" 28 "TeaspoonSalonModel" "firsts" "[I" ∈ lw_good := ts_gd (List.mem_of_getElem? (i := 1968) (by decide +kernel)) (by decide +kernel)
theorem q_1969 : Cond.fieldLink "TeaspoonSalonModel" 31 "TeaspoonSalonModel" "line" "[C" ∈ lw_good := ts_gd (List.mem_of_getElem? (i := 1969) (by decide +kernel)) (by decide +kernel)
theorem q_1970 : Cond.fieldLink "TeaspoonSalonModel" 276 "TeaspoonSalonModel" "lineLength" "I" ∈ lw_good := ts_gd (List.mem_of_getElem? (i := 1970) (by decide +kernel)) (by decide +kernel)
theorem q_1971 : Cond.fieldLink "TeaspoonSalonModel" 35 "TeaspoonSalonModel" "text" "[C" ∈ lw_good := ts_gd (List.mem_of_getElem? (i := 1971) (by decide +kernel)) (by decide +kernel)
theorem q_1972 : Cond.fieldLink "TeaspoonSalonModel" 285 "TeaspoonSalonModel" "textLength" "I" ∈ lw_good := ts_gd (List.mem_of_getElem? (i := 1972) (by decide +kernel)) (by decide +kernel)
theorem q_1973 : Cond.fieldLink "TeaspoonSalonModel" 288 "TeaspoonSalonModel" "textAt" "I" ∈ lw_good := ts_gd (List.mem_of_getElem? (i := 1973) (by decide +kernel)) (by decide +kernel)
theorem q_1974 : Cond.fieldLink "TeaspoonSalonModel" 38 "TeaspoonSalonModel" "errorAt" "I" ∈ lw_good := ts_gd (List.mem_of_getElem? (i := 1974) (by decide +kernel)) (by decide +kernel)
theorem q_1975 : Cond.fieldLink "TeaspoonSalonModel" 42 "TeaspoonSalonModel" "failedAt" "I" ∈ lw_good := ts_gd (List.mem_of_getElem? (i := 1975) (by decide +kernel)) (by decide +kernel)
theorem q_1976 : Cond.fieldLink "TeaspoonSalonModel" 45 "TeaspoonSalonModel" "numbers" "[I" ∈ lw_good := ts_gd (List.mem_of_getElem? (i := 1976) (by decide +kernel)) (by decide +kernel)
theorem q_1977 : Cond.fieldLink "TeaspoonSalonModel" 303 "TeaspoonSalonModel" "sort" "I" ∈ lw_good := ts_gd (List.mem_of_getElem? (i := 1977) (by decide +kernel)) (by decide +kernel)
theorem q_1978 : Cond.fieldLink "TeaspoonSalonModel" 327 "TeaspoonSalonModel" "done" "I" ∈ lw_good := ts_gd (List.mem_of_getElem? (i := 1978) (by decide +kernel)) (by decide +kernel)
theorem q_2030 : Cond.methodLink "TeaspoonSalonModel" 79 ⟨"TeaspoonSalonModel", "notSpoon", "(II)I"⟩ ∈ lw_good := ts_gd (List.mem_of_getElem? (i := 2030) (by decide +kernel)) (by decide +kernel)
theorem q_2032 : Cond.instanceMethod yX12_notSpoon ∈ lw_good := ts_gd (List.mem_of_getElem? (i := 2032) (by decide +kernel)) (by decide +kernel)
theorem q_2033 : Cond.code yX12_notSpoon cX12_notSpoon 3 (some .int) ∈ lw_good := ts_gd (List.mem_of_getElem? (i := 2033) (by decide +kernel)) (by decide +kernel)
theorem q_2034 : Cond.methodLink "TeaspoonSalonModel" 63 ⟨"TeaspoonSalonModel", "isBetween", "(III)Z"⟩ ∈ lw_good := ts_gd (List.mem_of_getElem? (i := 2034) (by decide +kernel)) (by decide +kernel)
theorem q_2035 : Cond.static yX12_isBetween ∈ lw_good := ts_gd (List.mem_of_getElem? (i := 2035) (by decide +kernel)) (by decide +kernel)
theorem q_2036 : Cond.code yX12_isBetween cX12_isBetween 3 (some .boolean) ∈ lw_good := ts_gd (List.mem_of_getElem? (i := 2036) (by decide +kernel)) (by decide +kernel)
theorem q_2037 : Cond.methodLink "TeaspoonSalonModel" 82 ⟨"TeaspoonSalonModel", "fails", "(I)I"⟩ ∈ lw_good := ts_gd (List.mem_of_getElem? (i := 2037) (by decide +kernel)) (by decide +kernel)
theorem q_2039 : Cond.instanceMethod yX12_fails ∈ lw_good := ts_gd (List.mem_of_getElem? (i := 2039) (by decide +kernel)) (by decide +kernel)
theorem q_2040 : Cond.code yX12_fails cX12_fails 2 (some .int) ∈ lw_good := ts_gd (List.mem_of_getElem? (i := 2040) (by decide +kernel)) (by decide +kernel)
theorem q_2041 : Cond.methodLink "TeaspoonSalonModel" 85 ⟨"TeaspoonSalonModel", "remembers", "()V"⟩ ∈ lw_good := ts_gd (List.mem_of_getElem? (i := 2041) (by decide +kernel)) (by decide +kernel)
theorem q_2043 : Cond.instanceMethod yX12_remembers ∈ lw_good := ts_gd (List.mem_of_getElem? (i := 2043) (by decide +kernel)) (by decide +kernel)
theorem q_2044 : Cond.code yX12_remembers cX12_remembers 1 none ∈ lw_good := ts_gd (List.mem_of_getElem? (i := 2044) (by decide +kernel)) (by decide +kernel)
theorem q_2045 : Cond.methodLink "TeaspoonSalonModel" 57 ⟨"TeaspoonSalonModel", "copies", "()V"⟩ ∈ lw_good := ts_gd (List.mem_of_getElem? (i := 2045) (by decide +kernel)) (by decide +kernel)
theorem q_2047 : Cond.instanceMethod yX12_copies ∈ lw_good := ts_gd (List.mem_of_getElem? (i := 2047) (by decide +kernel)) (by decide +kernel)
theorem q_2048 : Cond.code yX12_copies cX12_copies 2 none ∈ lw_good := ts_gd (List.mem_of_getElem? (i := 2048) (by decide +kernel)) (by decide +kernel)
theorem q_2049 : Cond.methodLink "TeaspoonSalonModel" 60 ⟨"TeaspoonSalonModel", "keeps", "()V"⟩ ∈ lw_good := ts_gd (List.mem_of_getElem? (i := 2049) (by decide +kernel)) (by decide +kernel)
theorem q_2051 : Cond.instanceMethod yX12_keeps ∈ lw_good := ts_gd (List.mem_of_getElem? (i := 2051) (by decide +kernel)) (by decide +kernel)
theorem q_2052 : Cond.code yX12_keeps cX12_keeps 3 none ∈ lw_good := ts_gd (List.mem_of_getElem? (i := 2052) (by decide +kernel)) (by decide +kernel)
theorem q_2053 : Cond.methodLink "TeaspoonSalonModel" 88 ⟨"TeaspoonSalonModel", "addsSpoon", "(II)I"⟩ ∈ lw_good := ts_gd (List.mem_of_getElem? (i := 2053) (by decide +kernel)) (by decide +kernel)
theorem q_2055 : Cond.instanceMethod yX12_addsSpoon ∈ lw_good := ts_gd (List.mem_of_getElem? (i := 2055) (by decide +kernel)) (by decide +kernel)
theorem q_2056 : Cond.code yX12_addsSpoon cX12_addsSpoon 4 (some .int) ∈ lw_good := ts_gd (List.mem_of_getElem? (i := 2056) (by decide +kernel)) (by decide +kernel)
theorem q_2057 : Cond.methodLink "TeaspoonSalonModel" 75 ⟨"TeaspoonSalonModel", "puts", "(III)V"⟩ ∈ lw_good := ts_gd (List.mem_of_getElem? (i := 2057) (by decide +kernel)) (by decide +kernel)
theorem q_2059 : Cond.instanceMethod yX12_puts ∈ lw_good := ts_gd (List.mem_of_getElem? (i := 2059) (by decide +kernel)) (by decide +kernel)
theorem q_2060 : Cond.code yX12_puts cX12_puts 4 none ∈ lw_good := ts_gd (List.mem_of_getElem? (i := 2060) (by decide +kernel)) (by decide +kernel)
theorem q_2065 : Cond.methodLink "TeaspoonSalonModel" 94 ⟨"TeaspoonSalonModel", "notPropose", "(I)I"⟩ ∈ lw_good := ts_gd (List.mem_of_getElem? (i := 2065) (by decide +kernel)) (by decide +kernel)
theorem q_2067 : Cond.instanceMethod yX12_notPropose ∈ lw_good := ts_gd (List.mem_of_getElem? (i := 2067) (by decide +kernel)) (by decide +kernel)
theorem q_2068 : Cond.code yX12_notPropose cX12_notPropose 2 (some .int) ∈ lw_good := ts_gd (List.mem_of_getElem? (i := 2068) (by decide +kernel)) (by decide +kernel)
theorem q_2069 : Cond.methodLink "TeaspoonSalonModel" 97 ⟨"TeaspoonSalonModel", "proposes", "(I)I"⟩ ∈ lw_good := ts_gd (List.mem_of_getElem? (i := 2069) (by decide +kernel)) (by decide +kernel)
theorem q_2071 : Cond.instanceMethod yX12_proposes ∈ lw_good := ts_gd (List.mem_of_getElem? (i := 2071) (by decide +kernel)) (by decide +kernel)
theorem q_2072 : Cond.code yX12_proposes cX12_proposes 2 (some .int) ∈ lw_good := ts_gd (List.mem_of_getElem? (i := 2072) (by decide +kernel)) (by decide +kernel)
theorem q_2073 : Cond.methodLink "TeaspoonSalonModel" 91 ⟨"TeaspoonSalonModel", "lists", "(II)I"⟩ ∈ lw_good := ts_gd (List.mem_of_getElem? (i := 2073) (by decide +kernel)) (by decide +kernel)
theorem q_2075 : Cond.instanceMethod yX12_lists ∈ lw_good := ts_gd (List.mem_of_getElem? (i := 2075) (by decide +kernel)) (by decide +kernel)
theorem q_2076 : Cond.code yX12_lists cX12_lists 3 (some .int) ∈ lw_good := ts_gd (List.mem_of_getElem? (i := 2076) (by decide +kernel)) (by decide +kernel)
theorem q_2081 : Cond.methodLink "TeaspoonSalonModel" 114 ⟨"TeaspoonSalonModel", "notMain", "(I)I"⟩ ∈ lw_good := ts_gd (List.mem_of_getElem? (i := 2081) (by decide +kernel)) (by decide +kernel)
theorem q_2083 : Cond.instanceMethod yX12_notMain ∈ lw_good := ts_gd (List.mem_of_getElem? (i := 2083) (by decide +kernel)) (by decide +kernel)
theorem q_2084 : Cond.code yX12_notMain cX12_notMain 2 (some .int) ∈ lw_good := ts_gd (List.mem_of_getElem? (i := 2084) (by decide +kernel)) (by decide +kernel)
theorem q_2085 : Cond.methodLink "TeaspoonSalonModel" 104 ⟨"TeaspoonSalonModel", "place", "(I)I"⟩ ∈ lw_good := ts_gd (List.mem_of_getElem? (i := 2085) (by decide +kernel)) (by decide +kernel)
theorem q_2087 : Cond.instanceMethod yX12_place ∈ lw_good := ts_gd (List.mem_of_getElem? (i := 2087) (by decide +kernel)) (by decide +kernel)
theorem q_2088 : Cond.code yX12_place cX12_place 3 (some .int) ∈ lw_good := ts_gd (List.mem_of_getElem? (i := 2088) (by decide +kernel)) (by decide +kernel)
theorem q_2089 : Cond.methodLink "TeaspoonSalonModel" 67 ⟨"TeaspoonSalonModel", "idAt", "(I)I"⟩ ∈ lw_good := ts_gd (List.mem_of_getElem? (i := 2089) (by decide +kernel)) (by decide +kernel)
theorem q_2091 : Cond.instanceMethod yX12_idAt ∈ lw_good := ts_gd (List.mem_of_getElem? (i := 2091) (by decide +kernel)) (by decide +kernel)
theorem q_2092 : Cond.code yX12_idAt cX12_idAt 2 (some .int) ∈ lw_good := ts_gd (List.mem_of_getElem? (i := 2092) (by decide +kernel)) (by decide +kernel)
theorem q_2093 : Cond.methodLink "TeaspoonSalonModel" 107 ⟨"TeaspoonSalonModel", "canMake", "(I)Z"⟩ ∈ lw_good := ts_gd (List.mem_of_getElem? (i := 2093) (by decide +kernel)) (by decide +kernel)
theorem q_2095 : Cond.instanceMethod yX12_canMake ∈ lw_good := ts_gd (List.mem_of_getElem? (i := 2095) (by decide +kernel)) (by decide +kernel)
theorem q_2096 : Cond.code yX12_canMake cX12_canMake 2 (some .boolean) ∈ lw_good := ts_gd (List.mem_of_getElem? (i := 2096) (by decide +kernel)) (by decide +kernel)
theorem q_2097 : Cond.methodLink "TeaspoonSalonModel" 100 ⟨"TeaspoonSalonModel", "top", "()I"⟩ ∈ lw_good := ts_gd (List.mem_of_getElem? (i := 2097) (by decide +kernel)) (by decide +kernel)
theorem q_2099 : Cond.instanceMethod yX12_top ∈ lw_good := ts_gd (List.mem_of_getElem? (i := 2099) (by decide +kernel)) (by decide +kernel)
theorem q_2100 : Cond.code yX12_top cX12_top 1 (some .int) ∈ lw_good := ts_gd (List.mem_of_getElem? (i := 2100) (by decide +kernel)) (by decide +kernel)
theorem q_2101 : Cond.methodLink "TeaspoonSalonModel" 117 ⟨"TeaspoonSalonModel", "makesMain", "(I)I"⟩ ∈ lw_good := ts_gd (List.mem_of_getElem? (i := 2101) (by decide +kernel)) (by decide +kernel)
theorem q_2103 : Cond.instanceMethod yX12_makesMain ∈ lw_good := ts_gd (List.mem_of_getElem? (i := 2103) (by decide +kernel)) (by decide +kernel)
theorem q_2104 : Cond.code yX12_makesMain cX12_makesMain 2 (some .int) ∈ lw_good := ts_gd (List.mem_of_getElem? (i := 2104) (by decide +kernel)) (by decide +kernel)
theorem q_2105 : Cond.methodLink "TeaspoonSalonModel" 111 ⟨"TeaspoonSalonModel", "makes", "(I)I"⟩ ∈ lw_good := ts_gd (List.mem_of_getElem? (i := 2105) (by decide +kernel)) (by decide +kernel)
theorem q_2107 : Cond.instanceMethod yX12_makes ∈ lw_good := ts_gd (List.mem_of_getElem? (i := 2107) (by decide +kernel)) (by decide +kernel)
theorem q_2108 : Cond.code yX12_makes cX12_makes 2 (some .int) ∈ lw_good := ts_gd (List.mem_of_getElem? (i := 2108) (by decide +kernel)) (by decide +kernel)
theorem q_2113 : Cond.methodLink "TeaspoonSalonModel" 120 ⟨"TeaspoonSalonModel", "notAmend", "(I)I"⟩ ∈ lw_good := ts_gd (List.mem_of_getElem? (i := 2113) (by decide +kernel)) (by decide +kernel)
theorem q_2115 : Cond.instanceMethod yX12_notAmend ∈ lw_good := ts_gd (List.mem_of_getElem? (i := 2115) (by decide +kernel)) (by decide +kernel)
theorem q_2116 : Cond.code yX12_notAmend cX12_notAmend 2 (some .int) ∈ lw_good := ts_gd (List.mem_of_getElem? (i := 2116) (by decide +kernel)) (by decide +kernel)
theorem q_2117 : Cond.methodLink "TeaspoonSalonModel" 123 ⟨"TeaspoonSalonModel", "makesAmendment", "(I)I"⟩ ∈ lw_good := ts_gd (List.mem_of_getElem? (i := 2117) (by decide +kernel)) (by decide +kernel)
theorem q_2119 : Cond.instanceMethod yX12_makesAmendment ∈ lw_good := ts_gd (List.mem_of_getElem? (i := 2119) (by decide +kernel)) (by decide +kernel)
theorem q_2120 : Cond.code yX12_makesAmendment cX12_makesAmendment 2 (some .int) ∈ lw_good := ts_gd (List.mem_of_getElem? (i := 2120) (by decide +kernel)) (by decide +kernel)
theorem q_2125 : Cond.methodLink "TeaspoonSalonModel" 126 ⟨"TeaspoonSalonModel", "moves", "(I)I"⟩ ∈ lw_good := ts_gd (List.mem_of_getElem? (i := 2125) (by decide +kernel)) (by decide +kernel)
theorem q_2127 : Cond.instanceMethod yX12_moves ∈ lw_good := ts_gd (List.mem_of_getElem? (i := 2127) (by decide +kernel)) (by decide +kernel)
theorem q_2128 : Cond.code yX12_moves cX12_moves 2 (some .int) ∈ lw_good := ts_gd (List.mem_of_getElem? (i := 2128) (by decide +kernel)) (by decide +kernel)
theorem q_2141 : Cond.methodLink "TeaspoonSalonModel" 135 ⟨"TeaspoonSalonModel", "notSpeak", "(I)I"⟩ ∈ lw_good := ts_gd (List.mem_of_getElem? (i := 2141) (by decide +kernel)) (by decide +kernel)
theorem q_2143 : Cond.instanceMethod yX12_notSpeak ∈ lw_good := ts_gd (List.mem_of_getElem? (i := 2143) (by decide +kernel)) (by decide +kernel)
theorem q_2144 : Cond.code yX12_notSpeak cX12_notSpeak 2 (some .int) ∈ lw_good := ts_gd (List.mem_of_getElem? (i := 2144) (by decide +kernel)) (by decide +kernel)
theorem q_2145 : Cond.methodLink "TeaspoonSalonModel" 132 ⟨"TeaspoonSalonModel", "isSpoon", "(I)Z"⟩ ∈ lw_good := ts_gd (List.mem_of_getElem? (i := 2145) (by decide +kernel)) (by decide +kernel)
theorem q_2147 : Cond.instanceMethod yX12_isSpoon ∈ lw_good := ts_gd (List.mem_of_getElem? (i := 2147) (by decide +kernel)) (by decide +kernel)
theorem q_2148 : Cond.code yX12_isSpoon cX12_isSpoon 2 (some .boolean) ∈ lw_good := ts_gd (List.mem_of_getElem? (i := 2148) (by decide +kernel)) (by decide +kernel)
theorem q_2149 : Cond.methodLink "TeaspoonSalonModel" 71 ⟨"TeaspoonSalonModel", "spoon", "(II)I"⟩ ∈ lw_good := ts_gd (List.mem_of_getElem? (i := 2149) (by decide +kernel)) (by decide +kernel)
theorem q_2151 : Cond.instanceMethod yX12_spoon ∈ lw_good := ts_gd (List.mem_of_getElem? (i := 2151) (by decide +kernel)) (by decide +kernel)
theorem q_2152 : Cond.code yX12_spoon cX12_spoon 3 (some .int) ∈ lw_good := ts_gd (List.mem_of_getElem? (i := 2152) (by decide +kernel)) (by decide +kernel)
theorem q_2153 : Cond.methodLink "TeaspoonSalonModel" 138 ⟨"TeaspoonSalonModel", "speaks", "(I)I"⟩ ∈ lw_good := ts_gd (List.mem_of_getElem? (i := 2153) (by decide +kernel)) (by decide +kernel)
theorem q_2155 : Cond.instanceMethod yX12_speaks ∈ lw_good := ts_gd (List.mem_of_getElem? (i := 2155) (by decide +kernel)) (by decide +kernel)
theorem q_2156 : Cond.code yX12_speaks cX12_speaks 2 (some .int) ∈ lw_good := ts_gd (List.mem_of_getElem? (i := 2156) (by decide +kernel)) (by decide +kernel)
theorem q_2161 : Cond.methodLink "TeaspoonSalonModel" 186 ⟨"TeaspoonSalonModel", "notVote", "()I"⟩ ∈ lw_good := ts_gd (List.mem_of_getElem? (i := 2161) (by decide +kernel)) (by decide +kernel)
theorem q_2163 : Cond.instanceMethod yX12_notVote ∈ lw_good := ts_gd (List.mem_of_getElem? (i := 2163) (by decide +kernel)) (by decide +kernel)
theorem q_2164 : Cond.code yX12_notVote cX12_notVote 1 (some .int) ∈ lw_good := ts_gd (List.mem_of_getElem? (i := 2164) (by decide +kernel)) (by decide +kernel)
theorem q_2165 : Cond.methodLink "TeaspoonSalonModel" 189 ⟨"TeaspoonSalonModel", "votes", "()I"⟩ ∈ lw_good := ts_gd (List.mem_of_getElem? (i := 2165) (by decide +kernel)) (by decide +kernel)
theorem q_2167 : Cond.instanceMethod yX12_votes ∈ lw_good := ts_gd (List.mem_of_getElem? (i := 2167) (by decide +kernel)) (by decide +kernel)
theorem q_2168 : Cond.code yX12_votes cX12_votes 3 (some .int) ∈ lw_good := ts_gd (List.mem_of_getElem? (i := 2168) (by decide +kernel)) (by decide +kernel)
theorem q_2169 : Cond.methodLink "TeaspoonSalonModel" 169 ⟨"TeaspoonSalonModel", "isAdopted", "()Z"⟩ ∈ lw_good := ts_gd (List.mem_of_getElem? (i := 2169) (by decide +kernel)) (by decide +kernel)
theorem q_2171 : Cond.instanceMethod yX12_isAdopted ∈ lw_good := ts_gd (List.mem_of_getElem? (i := 2171) (by decide +kernel)) (by decide +kernel)
theorem q_2172 : Cond.code yX12_isAdopted cX12_isAdopted 1 (some .boolean) ∈ lw_good := ts_gd (List.mem_of_getElem? (i := 2172) (by decide +kernel)) (by decide +kernel)
theorem q_2173 : Cond.methodLink "TeaspoonSalonModel" 159 ⟨"TeaspoonSalonModel", "yes", "()I"⟩ ∈ lw_good := ts_gd (List.mem_of_getElem? (i := 2173) (by decide +kernel)) (by decide +kernel)
theorem q_2175 : Cond.instanceMethod yX12_yes ∈ lw_good := ts_gd (List.mem_of_getElem? (i := 2175) (by decide +kernel)) (by decide +kernel)
theorem q_2176 : Cond.code yX12_yes cX12_yes 3 (some .int) ∈ lw_good := ts_gd (List.mem_of_getElem? (i := 2176) (by decide +kernel)) (by decide +kernel)
theorem q_2177 : Cond.methodLink "TeaspoonSalonModel" 156 ⟨"TeaspoonSalonModel", "isFor", "(I)Z"⟩ ∈ lw_good := ts_gd (List.mem_of_getElem? (i := 2177) (by decide +kernel)) (by decide +kernel)
theorem q_2179 : Cond.instanceMethod yX12_isFor ∈ lw_good := ts_gd (List.mem_of_getElem? (i := 2179) (by decide +kernel)) (by decide +kernel)
theorem q_2180 : Cond.code yX12_isFor cX12_isFor 2 (some .boolean) ∈ lw_good := ts_gd (List.mem_of_getElem? (i := 2180) (by decide +kernel)) (by decide +kernel)
theorem q_2181 : Cond.methodLink "TeaspoonSalonModel" 150 ⟨"TeaspoonSalonModel", "likesMain", "(I)Z"⟩ ∈ lw_good := ts_gd (List.mem_of_getElem? (i := 2181) (by decide +kernel)) (by decide +kernel)
theorem q_2183 : Cond.instanceMethod yX12_likesMain ∈ lw_good := ts_gd (List.mem_of_getElem? (i := 2183) (by decide +kernel)) (by decide +kernel)
theorem q_2184 : Cond.code yX12_likesMain cX12_likesMain 2 (some .boolean) ∈ lw_good := ts_gd (List.mem_of_getElem? (i := 2184) (by decide +kernel)) (by decide +kernel)
theorem q_2185 : Cond.methodLink "TeaspoonSalonModel" 144 ⟨"TeaspoonSalonModel", "mainPosition", "()I"⟩ ∈ lw_good := ts_gd (List.mem_of_getElem? (i := 2185) (by decide +kernel)) (by decide +kernel)
theorem q_2187 : Cond.instanceMethod yX12_mainPosition ∈ lw_good := ts_gd (List.mem_of_getElem? (i := 2187) (by decide +kernel)) (by decide +kernel)
theorem q_2188 : Cond.code yX12_mainPosition cX12_mainPosition 1 (some .int) ∈ lw_good := ts_gd (List.mem_of_getElem? (i := 2188) (by decide +kernel)) (by decide +kernel)
theorem q_2189 : Cond.methodLink "TeaspoonSalonModel" 141 ⟨"TeaspoonSalonModel", "positionAt", "(I)I"⟩ ∈ lw_good := ts_gd (List.mem_of_getElem? (i := 2189) (by decide +kernel)) (by decide +kernel)
theorem q_2191 : Cond.instanceMethod yX12_positionAt ∈ lw_good := ts_gd (List.mem_of_getElem? (i := 2191) (by decide +kernel)) (by decide +kernel)
theorem q_2192 : Cond.code yX12_positionAt cX12_positionAt 2 (some .int) ∈ lw_good := ts_gd (List.mem_of_getElem? (i := 2192) (by decide +kernel)) (by decide +kernel)
theorem q_2193 : Cond.methodLink "TeaspoonSalonModel" 147 ⟨"TeaspoonSalonModel", "difference", "(II)I"⟩ ∈ lw_good := ts_gd (List.mem_of_getElem? (i := 2193) (by decide +kernel)) (by decide +kernel)
theorem q_2194 : Cond.static yX12_difference ∈ lw_good := ts_gd (List.mem_of_getElem? (i := 2194) (by decide +kernel)) (by decide +kernel)
theorem q_2195 : Cond.code yX12_difference cX12_difference 2 (some .int) ∈ lw_good := ts_gd (List.mem_of_getElem? (i := 2195) (by decide +kernel)) (by decide +kernel)
theorem q_2196 : Cond.methodLink "TeaspoonSalonModel" 153 ⟨"TeaspoonSalonModel", "changed", "()I"⟩ ∈ lw_good := ts_gd (List.mem_of_getElem? (i := 2196) (by decide +kernel)) (by decide +kernel)
theorem q_2198 : Cond.instanceMethod yX12_changed ∈ lw_good := ts_gd (List.mem_of_getElem? (i := 2198) (by decide +kernel)) (by decide +kernel)
theorem q_2199 : Cond.code yX12_changed cX12_changed 2 (some .int) ∈ lw_good := ts_gd (List.mem_of_getElem? (i := 2199) (by decide +kernel)) (by decide +kernel)
theorem q_2200 : Cond.methodLink "TeaspoonSalonModel" 162 ⟨"TeaspoonSalonModel", "weights", "()I"⟩ ∈ lw_good := ts_gd (List.mem_of_getElem? (i := 2200) (by decide +kernel)) (by decide +kernel)
theorem q_2202 : Cond.instanceMethod yX12_weights ∈ lw_good := ts_gd (List.mem_of_getElem? (i := 2202) (by decide +kernel)) (by decide +kernel)
theorem q_2203 : Cond.code yX12_weights cX12_weights 3 (some .int) ∈ lw_good := ts_gd (List.mem_of_getElem? (i := 2203) (by decide +kernel)) (by decide +kernel)
theorem q_2204 : Cond.methodLink "TeaspoonSalonModel" 173 ⟨"TeaspoonSalonModel", "decidesMain", "(Z)V"⟩ ∈ lw_good := ts_gd (List.mem_of_getElem? (i := 2204) (by decide +kernel)) (by decide +kernel)
theorem q_2206 : Cond.instanceMethod yX12_decidesMain ∈ lw_good := ts_gd (List.mem_of_getElem? (i := 2206) (by decide +kernel)) (by decide +kernel)
theorem q_2207 : Cond.code yX12_decidesMain cX12_decidesMain 3 none ∈ lw_good := ts_gd (List.mem_of_getElem? (i := 2207) (by decide +kernel)) (by decide +kernel)
theorem q_2208 : Cond.methodLink "TeaspoonSalonModel" 165 ⟨"TeaspoonSalonModel", "takesOff", "(I)V"⟩ ∈ lw_good := ts_gd (List.mem_of_getElem? (i := 2208) (by decide +kernel)) (by decide +kernel)
theorem q_2210 : Cond.instanceMethod yX12_takesOff ∈ lw_good := ts_gd (List.mem_of_getElem? (i := 2210) (by decide +kernel)) (by decide +kernel)
theorem q_2211 : Cond.code yX12_takesOff cX12_takesOff 4 none ∈ lw_good := ts_gd (List.mem_of_getElem? (i := 2211) (by decide +kernel)) (by decide +kernel)
theorem q_2212 : Cond.methodLink "TeaspoonSalonModel" 129 ⟨"TeaspoonSalonModel", "empties", "()V"⟩ ∈ lw_good := ts_gd (List.mem_of_getElem? (i := 2212) (by decide +kernel)) (by decide +kernel)
theorem q_2214 : Cond.instanceMethod yX12_empties ∈ lw_good := ts_gd (List.mem_of_getElem? (i := 2214) (by decide +kernel)) (by decide +kernel)
theorem q_2215 : Cond.code yX12_empties cX12_empties 2 none ∈ lw_good := ts_gd (List.mem_of_getElem? (i := 2215) (by decide +kernel)) (by decide +kernel)
theorem q_2216 : Cond.methodLink "TeaspoonSalonModel" 177 ⟨"TeaspoonSalonModel", "removesTop", "()V"⟩ ∈ lw_good := ts_gd (List.mem_of_getElem? (i := 2216) (by decide +kernel)) (by decide +kernel)
theorem q_2218 : Cond.instanceMethod yX12_removesTop ∈ lw_good := ts_gd (List.mem_of_getElem? (i := 2218) (by decide +kernel)) (by decide +kernel)
theorem q_2219 : Cond.code yX12_removesTop cX12_removesTop 1 none ∈ lw_good := ts_gd (List.mem_of_getElem? (i := 2219) (by decide +kernel)) (by decide +kernel)
theorem q_2220 : Cond.methodLink "TeaspoonSalonModel" 180 ⟨"TeaspoonSalonModel", "postpones", "()V"⟩ ∈ lw_good := ts_gd (List.mem_of_getElem? (i := 2220) (by decide +kernel)) (by decide +kernel)
theorem q_2222 : Cond.instanceMethod yX12_postpones ∈ lw_good := ts_gd (List.mem_of_getElem? (i := 2222) (by decide +kernel)) (by decide +kernel)
theorem q_2223 : Cond.code yX12_postpones cX12_postpones 3 none ∈ lw_good := ts_gd (List.mem_of_getElem? (i := 2223) (by decide +kernel)) (by decide +kernel)
theorem q_2224 : Cond.methodLink "TeaspoonSalonModel" 183 ⟨"TeaspoonSalonModel", "adjourns", "()V"⟩ ∈ lw_good := ts_gd (List.mem_of_getElem? (i := 2224) (by decide +kernel)) (by decide +kernel)
theorem q_2226 : Cond.instanceMethod yX12_adjourns ∈ lw_good := ts_gd (List.mem_of_getElem? (i := 2226) (by decide +kernel)) (by decide +kernel)
theorem q_2227 : Cond.code yX12_adjourns cX12_adjourns 1 none ∈ lw_good := ts_gd (List.mem_of_getElem? (i := 2227) (by decide +kernel)) (by decide +kernel)
theorem q_2232 : Cond.methodLink "TeaspoonSalonModel" 212 ⟨"TeaspoonSalonModel", "notSpill", "(III)I"⟩ ∈ lw_good := ts_gd (List.mem_of_getElem? (i := 2232) (by decide +kernel)) (by decide +kernel)
theorem q_2233 : Cond.static yX12_notSpill ∈ lw_good := ts_gd (List.mem_of_getElem? (i := 2233) (by decide +kernel)) (by decide +kernel)
theorem q_2234 : Cond.code yX12_notSpill cX12_notSpill 3 (some .int) ∈ lw_good := ts_gd (List.mem_of_getElem? (i := 2234) (by decide +kernel)) (by decide +kernel)
theorem q_2235 : Cond.methodLink "TeaspoonSalonModel" 198 ⟨"TeaspoonSalonModel", "isCell", "(II)Z"⟩ ∈ lw_good := ts_gd (List.mem_of_getElem? (i := 2235) (by decide +kernel)) (by decide +kernel)
theorem q_2236 : Cond.static yX12_isCell ∈ lw_good := ts_gd (List.mem_of_getElem? (i := 2236) (by decide +kernel)) (by decide +kernel)
theorem q_2237 : Cond.code yX12_isCell cX12_isCell 2 (some .boolean) ∈ lw_good := ts_gd (List.mem_of_getElem? (i := 2237) (by decide +kernel)) (by decide +kernel)
theorem q_2238 : Cond.methodLink "TeaspoonSalonModel" 216 ⟨"TeaspoonSalonModel", "spills", "(III)I"⟩ ∈ lw_good := ts_gd (List.mem_of_getElem? (i := 2238) (by decide +kernel)) (by decide +kernel)
theorem q_2240 : Cond.instanceMethod yX12_spills ∈ lw_good := ts_gd (List.mem_of_getElem? (i := 2240) (by decide +kernel)) (by decide +kernel)
theorem q_2241 : Cond.code yX12_spills cX12_spills 5 (some .int) ∈ lw_good := ts_gd (List.mem_of_getElem? (i := 2241) (by decide +kernel)) (by decide +kernel)
theorem q_2242 : Cond.methodLink "TeaspoonSalonModel" 202 ⟨"TeaspoonSalonModel", "wetsNext", "(II)V"⟩ ∈ lw_good := ts_gd (List.mem_of_getElem? (i := 2242) (by decide +kernel)) (by decide +kernel)
theorem q_2244 : Cond.instanceMethod yX12_wetsNext ∈ lw_good := ts_gd (List.mem_of_getElem? (i := 2244) (by decide +kernel)) (by decide +kernel)
theorem q_2245 : Cond.code yX12_wetsNext cX12_wetsNext 7 none ∈ lw_good := ts_gd (List.mem_of_getElem? (i := 2245) (by decide +kernel)) (by decide +kernel)
theorem q_2246 : Cond.methodLink "TeaspoonSalonModel" 206 ⟨"TeaspoonSalonModel", "largest", "()I"⟩ ∈ lw_good := ts_gd (List.mem_of_getElem? (i := 2246) (by decide +kernel)) (by decide +kernel)
theorem q_2248 : Cond.instanceMethod yX12_largest ∈ lw_good := ts_gd (List.mem_of_getElem? (i := 2248) (by decide +kernel)) (by decide +kernel)
theorem q_2249 : Cond.code yX12_largest cX12_largest 4 (some .int) ∈ lw_good := ts_gd (List.mem_of_getElem? (i := 2249) (by decide +kernel)) (by decide +kernel)
theorem q_2250 : Cond.methodLink "TeaspoonSalonModel" 195 ⟨"TeaspoonSalonModel", "marksPuddle", "(I)I"⟩ ∈ lw_good := ts_gd (List.mem_of_getElem? (i := 2250) (by decide +kernel)) (by decide +kernel)
theorem q_2252 : Cond.instanceMethod yX12_marksPuddle ∈ lw_good := ts_gd (List.mem_of_getElem? (i := 2252) (by decide +kernel)) (by decide +kernel)
theorem q_2253 : Cond.code yX12_marksPuddle cX12_marksPuddle 5 (some .int) ∈ lw_good := ts_gd (List.mem_of_getElem? (i := 2253) (by decide +kernel)) (by decide +kernel)
theorem q_2254 : Cond.methodLink "TeaspoonSalonModel" 192 ⟨"TeaspoonSalonModel", "isBesideMarked", "(I)Z"⟩ ∈ lw_good := ts_gd (List.mem_of_getElem? (i := 2254) (by decide +kernel)) (by decide +kernel)
theorem q_2256 : Cond.instanceMethod yX12_isBesideMarked ∈ lw_good := ts_gd (List.mem_of_getElem? (i := 2256) (by decide +kernel)) (by decide +kernel)
theorem q_2257 : Cond.code yX12_isBesideMarked cX12_isBesideMarked 4 (some .boolean) ∈ lw_good := ts_gd (List.mem_of_getElem? (i := 2257) (by decide +kernel)) (by decide +kernel)
theorem q_2258 : Cond.methodLink "TeaspoonSalonModel" 209 ⟨"TeaspoonSalonModel", "wets", "()I"⟩ ∈ lw_good := ts_gd (List.mem_of_getElem? (i := 2258) (by decide +kernel)) (by decide +kernel)
theorem q_2260 : Cond.instanceMethod yX12_wets ∈ lw_good := ts_gd (List.mem_of_getElem? (i := 2260) (by decide +kernel)) (by decide +kernel)
theorem q_2261 : Cond.code yX12_wets cX12_wets 3 (some .int) ∈ lw_good := ts_gd (List.mem_of_getElem? (i := 2261) (by decide +kernel)) (by decide +kernel)
theorem q_2266 : Cond.methodLink "TeaspoonSalonModel" 219 ⟨"TeaspoonSalonModel", "notMop", "(II)I"⟩ ∈ lw_good := ts_gd (List.mem_of_getElem? (i := 2266) (by decide +kernel)) (by decide +kernel)
theorem q_2268 : Cond.instanceMethod yX12_notMop ∈ lw_good := ts_gd (List.mem_of_getElem? (i := 2268) (by decide +kernel)) (by decide +kernel)
theorem q_2269 : Cond.code yX12_notMop cX12_notMop 3 (some .int) ∈ lw_good := ts_gd (List.mem_of_getElem? (i := 2269) (by decide +kernel)) (by decide +kernel)
theorem q_2270 : Cond.methodLink "TeaspoonSalonModel" 222 ⟨"TeaspoonSalonModel", "mops", "(II)I"⟩ ∈ lw_good := ts_gd (List.mem_of_getElem? (i := 2270) (by decide +kernel)) (by decide +kernel)
theorem q_2272 : Cond.instanceMethod yX12_mops ∈ lw_good := ts_gd (List.mem_of_getElem? (i := 2272) (by decide +kernel)) (by decide +kernel)
theorem q_2273 : Cond.code yX12_mops cX12_mops 5 (some .int) ∈ lw_good := ts_gd (List.mem_of_getElem? (i := 2273) (by decide +kernel)) (by decide +kernel)
theorem q_2278 : Cond.methodLink "TeaspoonSalonModel" 225 ⟨"TeaspoonSalonModel", "notSugar", "(II)I"⟩ ∈ lw_good := ts_gd (List.mem_of_getElem? (i := 2278) (by decide +kernel)) (by decide +kernel)
theorem q_2280 : Cond.instanceMethod yX12_notSugar ∈ lw_good := ts_gd (List.mem_of_getElem? (i := 2280) (by decide +kernel)) (by decide +kernel)
theorem q_2281 : Cond.code yX12_notSugar cX12_notSugar 3 (some .int) ∈ lw_good := ts_gd (List.mem_of_getElem? (i := 2281) (by decide +kernel)) (by decide +kernel)
theorem q_2282 : Cond.methodLink "TeaspoonSalonModel" 228 ⟨"TeaspoonSalonModel", "gives", "(II)I"⟩ ∈ lw_good := ts_gd (List.mem_of_getElem? (i := 2282) (by decide +kernel)) (by decide +kernel)
theorem q_2284 : Cond.instanceMethod yX12_gives ∈ lw_good := ts_gd (List.mem_of_getElem? (i := 2284) (by decide +kernel)) (by decide +kernel)
theorem q_2285 : Cond.code yX12_gives cX12_gives 3 (some .int) ∈ lw_good := ts_gd (List.mem_of_getElem? (i := 2285) (by decide +kernel)) (by decide +kernel)
theorem q_2290 : Cond.methodLink "TeaspoonSalonModel" 231 ⟨"TeaspoonSalonModel", "told", "(I)I"⟩ ∈ lw_good := ts_gd (List.mem_of_getElem? (i := 2290) (by decide +kernel)) (by decide +kernel)
theorem q_2292 : Cond.instanceMethod yX12_told ∈ lw_good := ts_gd (List.mem_of_getElem? (i := 2292) (by decide +kernel)) (by decide +kernel)
theorem q_2293 : Cond.code yX12_told cX12_told 2 (some .int) ∈ lw_good := ts_gd (List.mem_of_getElem? (i := 2293) (by decide +kernel)) (by decide +kernel)
theorem q_2298 : Cond.methodLink "TeaspoonSalonModel" 234 ⟨"TeaspoonSalonModel", "tells", "(II)I"⟩ ∈ lw_good := ts_gd (List.mem_of_getElem? (i := 2298) (by decide +kernel)) (by decide +kernel)
theorem q_2300 : Cond.instanceMethod yX12_tells ∈ lw_good := ts_gd (List.mem_of_getElem? (i := 2300) (by decide +kernel)) (by decide +kernel)
theorem q_2301 : Cond.code yX12_tells cX12_tells 3 (some .int) ∈ lw_good := ts_gd (List.mem_of_getElem? (i := 2301) (by decide +kernel)) (by decide +kernel)
theorem q_2318 : Cond.methodLink "TeaspoonSalonModel" 237 ⟨"TeaspoonSalonModel", "isRicher", "(II)Z"⟩ ∈ lw_good := ts_gd (List.mem_of_getElem? (i := 2318) (by decide +kernel)) (by decide +kernel)
theorem q_2320 : Cond.instanceMethod yX12_isRicher ∈ lw_good := ts_gd (List.mem_of_getElem? (i := 2320) (by decide +kernel)) (by decide +kernel)
theorem q_2321 : Cond.code yX12_isRicher cX12_isRicher 3 (some .boolean) ∈ lw_good := ts_gd (List.mem_of_getElem? (i := 2321) (by decide +kernel)) (by decide +kernel)
theorem q_2342 : Cond.methodLink "TeaspoonSalonModel" 240 ⟨"TeaspoonSalonModel", "signOf", "(I)I"⟩ ∈ lw_good := ts_gd (List.mem_of_getElem? (i := 2342) (by decide +kernel)) (by decide +kernel)
theorem q_2343 : Cond.static yX12_signOf ∈ lw_good := ts_gd (List.mem_of_getElem? (i := 2343) (by decide +kernel)) (by decide +kernel)
theorem q_2344 : Cond.code yX12_signOf cX12_signOf 1 (some .int) ∈ lw_good := ts_gd (List.mem_of_getElem? (i := 2344) (by decide +kernel)) (by decide +kernel)
theorem q_2349 : Cond.methodLink "TeaspoonSalonModel" 243 ⟨"TeaspoonSalonModel", "lies", "(I)Z"⟩ ∈ lw_good := ts_gd (List.mem_of_getElem? (i := 2349) (by decide +kernel)) (by decide +kernel)
theorem q_2351 : Cond.instanceMethod yX12_lies ∈ lw_good := ts_gd (List.mem_of_getElem? (i := 2351) (by decide +kernel)) (by decide +kernel)
theorem q_2352 : Cond.code yX12_lies cX12_lies 3 (some .boolean) ∈ lw_good := ts_gd (List.mem_of_getElem? (i := 2352) (by decide +kernel)) (by decide +kernel)
theorem q_2381 : Cond.methodLink "TeaspoonSalonModel" 246 ⟨"TeaspoonSalonModel", "supports", "(II)I"⟩ ∈ lw_good := ts_gd (List.mem_of_getElem? (i := 2381) (by decide +kernel)) (by decide +kernel)
theorem q_2383 : Cond.instanceMethod yX12_supports ∈ lw_good := ts_gd (List.mem_of_getElem? (i := 2383) (by decide +kernel)) (by decide +kernel)
theorem q_2384 : Cond.code yX12_supports cX12_supports 6 (some .int) ∈ lw_good := ts_gd (List.mem_of_getElem? (i := 2384) (by decide +kernel)) (by decide +kernel)
theorem q_2386 : Cond.instanceMethod yX12_fewestDisagreements ∈ lw_good := ts_gd (List.mem_of_getElem? (i := 2386) (by decide +kernel)) (by decide +kernel)
theorem q_2387 : Cond.selects yX12_fewestDisagreements.cls yX12_fewestDisagreements yX12_fewestDisagreements ∈ lw_good := ts_gd (List.mem_of_getElem? (i := 2387) (by decide +kernel)) (by decide +kernel)
theorem q_2388 : Cond.code yX12_fewestDisagreements cX12_fewestDisagreements 1 (some .int) ∈ lw_good := ts_gd (List.mem_of_getElem? (i := 2388) (by decide +kernel)) (by decide +kernel)
theorem q_2389 : Cond.methodLink "TeaspoonSalonModel" 252 ⟨"TeaspoonSalonModel", "ranks", "()V"⟩ ∈ lw_good := ts_gd (List.mem_of_getElem? (i := 2389) (by decide +kernel)) (by decide +kernel)
theorem q_2391 : Cond.instanceMethod yX12_ranks ∈ lw_good := ts_gd (List.mem_of_getElem? (i := 2391) (by decide +kernel)) (by decide +kernel)
theorem q_2392 : Cond.code yX12_ranks cX12_ranks 5 none ∈ lw_good := ts_gd (List.mem_of_getElem? (i := 2392) (by decide +kernel)) (by decide +kernel)
theorem q_2393 : Cond.methodLink "TeaspoonSalonModel" 249 ⟨"TeaspoonSalonModel", "costFirst", "(II)I"⟩ ∈ lw_good := ts_gd (List.mem_of_getElem? (i := 2393) (by decide +kernel)) (by decide +kernel)
theorem q_2395 : Cond.instanceMethod yX12_costFirst ∈ lw_good := ts_gd (List.mem_of_getElem? (i := 2395) (by decide +kernel)) (by decide +kernel)
theorem q_2396 : Cond.code yX12_costFirst cX12_costFirst 5 (some .int) ∈ lw_good := ts_gd (List.mem_of_getElem? (i := 2396) (by decide +kernel)) (by decide +kernel)
theorem q_2401 : Cond.methodLink "TeaspoonSalonModel" 255 ⟨"TeaspoonSalonModel", "fewestDisagreements", "()I"⟩ ∈ lw_good := ts_gd (List.mem_of_getElem? (i := 2401) (by decide +kernel)) (by decide +kernel)
theorem q_2407 : Cond.instanceMethod yX12_isInTop ∈ lw_good := ts_gd (List.mem_of_getElem? (i := 2407) (by decide +kernel)) (by decide +kernel)
theorem q_2408 : Cond.selects yX12_isInTop.cls yX12_isInTop yX12_isInTop ∈ lw_good := ts_gd (List.mem_of_getElem? (i := 2408) (by decide +kernel)) (by decide +kernel)
theorem q_2409 : Cond.code yX12_isInTop cX12_isInTop 4 (some .boolean) ∈ lw_good := ts_gd (List.mem_of_getElem? (i := 2409) (by decide +kernel)) (by decide +kernel)
theorem q_2410 : Cond.methodLink "TeaspoonSalonModel" 258 ⟨"TeaspoonSalonModel", "many", "(I)I"⟩ ∈ lw_good := ts_gd (List.mem_of_getElem? (i := 2410) (by decide +kernel)) (by decide +kernel)
theorem q_2411 : Cond.static yX12_many ∈ lw_good := ts_gd (List.mem_of_getElem? (i := 2411) (by decide +kernel)) (by decide +kernel)
theorem q_2412 : Cond.code yX12_many cX12_many 3 (some .int) ∈ lw_good := ts_gd (List.mem_of_getElem? (i := 2412) (by decide +kernel)) (by decide +kernel)
theorem q_2413 : Cond.methodLink "TeaspoonSalonModel" 261 ⟨"TeaspoonSalonModel", "beatsOthers", "(I)Z"⟩ ∈ lw_good := ts_gd (List.mem_of_getElem? (i := 2413) (by decide +kernel)) (by decide +kernel)
theorem q_2415 : Cond.instanceMethod yX12_beatsOthers ∈ lw_good := ts_gd (List.mem_of_getElem? (i := 2415) (by decide +kernel)) (by decide +kernel)
theorem q_2416 : Cond.code yX12_beatsOthers cX12_beatsOthers 4 (some .boolean) ∈ lw_good := ts_gd (List.mem_of_getElem? (i := 2416) (by decide +kernel)) (by decide +kernel)
theorem q_2421 : Cond.methodLink "TeaspoonSalonModel" 264 ⟨"TeaspoonSalonModel", "isInTop", "(I)Z"⟩ ∈ lw_good := ts_gd (List.mem_of_getElem? (i := 2421) (by decide +kernel)) (by decide +kernel)
theorem q_2431 : Cond.instanceMethod yX12_puddle ∈ lw_good := ts_gd (List.mem_of_getElem? (i := 2431) (by decide +kernel)) (by decide +kernel)
theorem q_2432 : Cond.selects yX12_puddle.cls yX12_puddle yX12_puddle ∈ lw_good := ts_gd (List.mem_of_getElem? (i := 2432) (by decide +kernel)) (by decide +kernel)
theorem q_2433 : Cond.code yX12_puddle cX12_puddle 3 (some .int) ∈ lw_good := ts_gd (List.mem_of_getElem? (i := 2433) (by decide +kernel)) (by decide +kernel)
theorem q_2438 : Cond.methodLink "TeaspoonSalonModel" 267 ⟨"TeaspoonSalonModel", "puddle", "(II)I"⟩ ∈ lw_good := ts_gd (List.mem_of_getElem? (i := 2438) (by decide +kernel)) (by decide +kernel)
theorem q_2460 : Cond.instanceMethod yX12_sugarTotal ∈ lw_good := ts_gd (List.mem_of_getElem? (i := 2460) (by decide +kernel)) (by decide +kernel)
theorem q_2461 : Cond.selects yX12_sugarTotal.cls yX12_sugarTotal yX12_sugarTotal ∈ lw_good := ts_gd (List.mem_of_getElem? (i := 2461) (by decide +kernel)) (by decide +kernel)
theorem q_2462 : Cond.code yX12_sugarTotal cX12_sugarTotal 3 (some .int) ∈ lw_good := ts_gd (List.mem_of_getElem? (i := 2462) (by decide +kernel)) (by decide +kernel)
theorem q_2464 : Cond.instanceMethod yX12_sugarByAccounts ∈ lw_good := ts_gd (List.mem_of_getElem? (i := 2464) (by decide +kernel)) (by decide +kernel)
theorem q_2465 : Cond.selects yX12_sugarByAccounts.cls yX12_sugarByAccounts yX12_sugarByAccounts ∈ lw_good := ts_gd (List.mem_of_getElem? (i := 2465) (by decide +kernel)) (by decide +kernel)
theorem q_2466 : Cond.code yX12_sugarByAccounts cX12_sugarByAccounts 1 (some .int) ∈ lw_good := ts_gd (List.mem_of_getElem? (i := 2466) (by decide +kernel)) (by decide +kernel)
theorem q_2479 : Cond.methodLink "TeaspoonSalonModel" 270 ⟨"TeaspoonSalonModel", "sugarTotal", "()I"⟩ ∈ lw_good := ts_gd (List.mem_of_getElem? (i := 2479) (by decide +kernel)) (by decide +kernel)
theorem q_2480 : Cond.methodLink "TeaspoonSalonModel" 273 ⟨"TeaspoonSalonModel", "sugarByAccounts", "()I"⟩ ∈ lw_good := ts_gd (List.mem_of_getElem? (i := 2480) (by decide +kernel)) (by decide +kernel)
theorem q_2485 : Cond.methodLink "TeaspoonSalonModel" 279 ⟨"TeaspoonSalonModel", "writes", "(I)V"⟩ ∈ lw_good := ts_gd (List.mem_of_getElem? (i := 2485) (by decide +kernel)) (by decide +kernel)
theorem q_2487 : Cond.instanceMethod yX12_writes ∈ lw_good := ts_gd (List.mem_of_getElem? (i := 2487) (by decide +kernel)) (by decide +kernel)
theorem q_2488 : Cond.code yX12_writes cX12_writes 2 none ∈ lw_good := ts_gd (List.mem_of_getElem? (i := 2488) (by decide +kernel)) (by decide +kernel)
theorem q_2489 : Cond.methodLink "TeaspoonSalonModel" 282 ⟨"TeaspoonSalonModel", "writesNumber", "(I)V"⟩ ∈ lw_good := ts_gd (List.mem_of_getElem? (i := 2489) (by decide +kernel)) (by decide +kernel)
theorem q_2491 : Cond.instanceMethod yX12_writesNumber ∈ lw_good := ts_gd (List.mem_of_getElem? (i := 2491) (by decide +kernel)) (by decide +kernel)
theorem q_2492 : Cond.code yX12_writesNumber cX12_writesNumber 5 none ∈ lw_good := ts_gd (List.mem_of_getElem? (i := 2492) (by decide +kernel)) (by decide +kernel)
theorem q_2509 : Cond.methodLink "TeaspoonSalonModel" 336 ⟨"TeaspoonSalonModel", "readsAll", "()Z"⟩ ∈ lw_good := ts_gd (List.mem_of_getElem? (i := 2509) (by decide +kernel)) (by decide +kernel)
theorem q_2511 : Cond.instanceMethod yX12_readsAll ∈ lw_good := ts_gd (List.mem_of_getElem? (i := 2511) (by decide +kernel)) (by decide +kernel)
theorem q_2512 : Cond.code yX12_readsAll cX12_readsAll 2 (some .boolean) ∈ lw_good := ts_gd (List.mem_of_getElem? (i := 2512) (by decide +kernel)) (by decide +kernel)
theorem q_2513 : Cond.methodLink "TeaspoonSalonModel" 321 ⟨"TeaspoonSalonModel", "readsCommand", "()Z"⟩ ∈ lw_good := ts_gd (List.mem_of_getElem? (i := 2513) (by decide +kernel)) (by decide +kernel)
theorem q_2515 : Cond.instanceMethod yX12_readsCommand ∈ lw_good := ts_gd (List.mem_of_getElem? (i := 2515) (by decide +kernel)) (by decide +kernel)
theorem q_2516 : Cond.code yX12_readsCommand cX12_readsCommand 1 (some .boolean) ∈ lw_good := ts_gd (List.mem_of_getElem? (i := 2516) (by decide +kernel)) (by decide +kernel)
theorem q_2517 : Cond.methodLink "TeaspoonSalonModel" 291 ⟨"TeaspoonSalonModel", "nextChar", "()I"⟩ ∈ lw_good := ts_gd (List.mem_of_getElem? (i := 2517) (by decide +kernel)) (by decide +kernel)
theorem q_2519 : Cond.instanceMethod yX12_nextChar ∈ lw_good := ts_gd (List.mem_of_getElem? (i := 2519) (by decide +kernel)) (by decide +kernel)
theorem q_2520 : Cond.code yX12_nextChar cX12_nextChar 1 (some .int) ∈ lw_good := ts_gd (List.mem_of_getElem? (i := 2520) (by decide +kernel)) (by decide +kernel)
theorem q_2521 : Cond.methodLink "TeaspoonSalonModel" 297 ⟨"TeaspoonSalonModel", "reads", "(I)Z"⟩ ∈ lw_good := ts_gd (List.mem_of_getElem? (i := 2521) (by decide +kernel)) (by decide +kernel)
theorem q_2523 : Cond.instanceMethod yX12_reads ∈ lw_good := ts_gd (List.mem_of_getElem? (i := 2523) (by decide +kernel)) (by decide +kernel)
theorem q_2524 : Cond.code yX12_reads cX12_reads 2 (some .boolean) ∈ lw_good := ts_gd (List.mem_of_getElem? (i := 2524) (by decide +kernel)) (by decide +kernel)
theorem q_2525 : Cond.methodLink "TeaspoonSalonModel" 309 ⟨"TeaspoonSalonModel", "readsS", "()Z"⟩ ∈ lw_good := ts_gd (List.mem_of_getElem? (i := 2525) (by decide +kernel)) (by decide +kernel)
theorem q_2527 : Cond.instanceMethod yX12_readsS ∈ lw_good := ts_gd (List.mem_of_getElem? (i := 2527) (by decide +kernel)) (by decide +kernel)
theorem q_2528 : Cond.code yX12_readsS cX12_readsS 1 (some .boolean) ∈ lw_good := ts_gd (List.mem_of_getElem? (i := 2528) (by decide +kernel)) (by decide +kernel)
theorem q_2529 : Cond.methodLink "TeaspoonSalonModel" 306 ⟨"TeaspoonSalonModel", "readsSp", "()Z"⟩ ∈ lw_good := ts_gd (List.mem_of_getElem? (i := 2529) (by decide +kernel)) (by decide +kernel)
theorem q_2531 : Cond.instanceMethod yX12_readsSp ∈ lw_good := ts_gd (List.mem_of_getElem? (i := 2531) (by decide +kernel)) (by decide +kernel)
theorem q_2532 : Cond.code yX12_readsSp cX12_readsSp 1 (some .boolean) ∈ lw_good := ts_gd (List.mem_of_getElem? (i := 2532) (by decide +kernel)) (by decide +kernel)
theorem q_2533 : Cond.methodLink "TeaspoonSalonModel" 294 ⟨"TeaspoonSalonModel", "readsDigit", "(I)Z"⟩ ∈ lw_good := ts_gd (List.mem_of_getElem? (i := 2533) (by decide +kernel)) (by decide +kernel)
theorem q_2535 : Cond.instanceMethod yX12_readsDigit ∈ lw_good := ts_gd (List.mem_of_getElem? (i := 2535) (by decide +kernel)) (by decide +kernel)
theorem q_2536 : Cond.code yX12_readsDigit cX12_readsDigit 2 (some .boolean) ∈ lw_good := ts_gd (List.mem_of_getElem? (i := 2536) (by decide +kernel)) (by decide +kernel)
theorem q_2537 : Cond.methodLink "TeaspoonSalonModel" 300 ⟨"TeaspoonSalonModel", "readsNumber", "(I)Z"⟩ ∈ lw_good := ts_gd (List.mem_of_getElem? (i := 2537) (by decide +kernel)) (by decide +kernel)
theorem q_2539 : Cond.instanceMethod yX12_readsNumber ∈ lw_good := ts_gd (List.mem_of_getElem? (i := 2539) (by decide +kernel)) (by decide +kernel)
theorem q_2540 : Cond.code yX12_readsNumber cX12_readsNumber 2 (some .boolean) ∈ lw_good := ts_gd (List.mem_of_getElem? (i := 2540) (by decide +kernel)) (by decide +kernel)
theorem q_2541 : Cond.methodLink "TeaspoonSalonModel" 312 ⟨"TeaspoonSalonModel", "readsP", "()Z"⟩ ∈ lw_good := ts_gd (List.mem_of_getElem? (i := 2541) (by decide +kernel)) (by decide +kernel)
theorem q_2543 : Cond.instanceMethod yX12_readsP ∈ lw_good := ts_gd (List.mem_of_getElem? (i := 2543) (by decide +kernel)) (by decide +kernel)
theorem q_2544 : Cond.code yX12_readsP cX12_readsP 1 (some .boolean) ∈ lw_good := ts_gd (List.mem_of_getElem? (i := 2544) (by decide +kernel)) (by decide +kernel)
theorem q_2545 : Cond.methodLink "TeaspoonSalonModel" 315 ⟨"TeaspoonSalonModel", "readsM", "()Z"⟩ ∈ lw_good := ts_gd (List.mem_of_getElem? (i := 2545) (by decide +kernel)) (by decide +kernel)
theorem q_2547 : Cond.instanceMethod yX12_readsM ∈ lw_good := ts_gd (List.mem_of_getElem? (i := 2547) (by decide +kernel)) (by decide +kernel)
theorem q_2548 : Cond.code yX12_readsM cX12_readsM 1 (some .boolean) ∈ lw_good := ts_gd (List.mem_of_getElem? (i := 2548) (by decide +kernel)) (by decide +kernel)
theorem q_2549 : Cond.methodLink "TeaspoonSalonModel" 318 ⟨"TeaspoonSalonModel", "readsA", "()Z"⟩ ∈ lw_good := ts_gd (List.mem_of_getElem? (i := 2549) (by decide +kernel)) (by decide +kernel)
theorem q_2551 : Cond.instanceMethod yX12_readsA ∈ lw_good := ts_gd (List.mem_of_getElem? (i := 2551) (by decide +kernel)) (by decide +kernel)
theorem q_2552 : Cond.code yX12_readsA cX12_readsA 2 (some .boolean) ∈ lw_good := ts_gd (List.mem_of_getElem? (i := 2552) (by decide +kernel)) (by decide +kernel)
theorem q_2553 : Cond.methodLink "TeaspoonSalonModel" 339 ⟨"TeaspoonSalonModel", "doesAll", "()Z"⟩ ∈ lw_good := ts_gd (List.mem_of_getElem? (i := 2553) (by decide +kernel)) (by decide +kernel)
theorem q_2555 : Cond.instanceMethod yX12_doesAll ∈ lw_good := ts_gd (List.mem_of_getElem? (i := 2555) (by decide +kernel)) (by decide +kernel)
theorem q_2556 : Cond.code yX12_doesAll cX12_doesAll 2 (some .boolean) ∈ lw_good := ts_gd (List.mem_of_getElem? (i := 2556) (by decide +kernel)) (by decide +kernel)
theorem q_2557 : Cond.methodLink "TeaspoonSalonModel" 330 ⟨"TeaspoonSalonModel", "notNow", "()I"⟩ ∈ lw_good := ts_gd (List.mem_of_getElem? (i := 2557) (by decide +kernel)) (by decide +kernel)
theorem q_2559 : Cond.instanceMethod yX12_notNow ∈ lw_good := ts_gd (List.mem_of_getElem? (i := 2559) (by decide +kernel)) (by decide +kernel)
theorem q_2560 : Cond.code yX12_notNow cX12_notNow 3 (some .int) ∈ lw_good := ts_gd (List.mem_of_getElem? (i := 2560) (by decide +kernel)) (by decide +kernel)
theorem q_2561 : Cond.methodLink "TeaspoonSalonModel" 324 ⟨"TeaspoonSalonModel", "notMade", "(I)I"⟩ ∈ lw_good := ts_gd (List.mem_of_getElem? (i := 2561) (by decide +kernel)) (by decide +kernel)
theorem q_2563 : Cond.instanceMethod yX12_notMade ∈ lw_good := ts_gd (List.mem_of_getElem? (i := 2563) (by decide +kernel)) (by decide +kernel)
theorem q_2564 : Cond.code yX12_notMade cX12_notMade 2 (some .int) ∈ lw_good := ts_gd (List.mem_of_getElem? (i := 2564) (by decide +kernel)) (by decide +kernel)
theorem q_2565 : Cond.methodLink "TeaspoonSalonModel" 333 ⟨"TeaspoonSalonModel", "doesNow", "()I"⟩ ∈ lw_good := ts_gd (List.mem_of_getElem? (i := 2565) (by decide +kernel)) (by decide +kernel)
theorem q_2567 : Cond.instanceMethod yX12_doesNow ∈ lw_good := ts_gd (List.mem_of_getElem? (i := 2567) (by decide +kernel)) (by decide +kernel)
theorem q_2568 : Cond.code yX12_doesNow cX12_doesNow 3 (some .int) ∈ lw_good := ts_gd (List.mem_of_getElem? (i := 2568) (by decide +kernel)) (by decide +kernel)
theorem q_2569 : Cond.methodLink "TeaspoonSalonModel" 342 ⟨"TeaspoonSalonModel", "goesBack", "()V"⟩ ∈ lw_good := ts_gd (List.mem_of_getElem? (i := 2569) (by decide +kernel)) (by decide +kernel)
theorem q_2571 : Cond.instanceMethod yX12_goesBack ∈ lw_good := ts_gd (List.mem_of_getElem? (i := 2571) (by decide +kernel)) (by decide +kernel)
theorem q_2572 : Cond.code yX12_goesBack cX12_goesBack 2 none ∈ lw_good := ts_gd (List.mem_of_getElem? (i := 2572) (by decide +kernel)) (by decide +kernel)
theorem qn_14 : Cond.methodLinkNest "TeaspoonSalon$Cloth" 13 ⟨"TeaspoonSalon", "isBetween", "(III)Z"⟩ "TeaspoonSalon" ∈ ts_nw := List.mem_of_getElem? (i := 26) (by decide +kernel)
theorem qn_15 : Cond.methodLinkNest "TeaspoonSalon$Script" 83 ⟨"TeaspoonSalon", "isBetween", "(III)Z"⟩ "TeaspoonSalon" ∈ ts_nw := List.mem_of_getElem? (i := 33) (by decide +kernel)
theorem qn_8 : Cond.methodLinkNest "TeaspoonSalon$Table" 37 ⟨"TeaspoonSalon", "isBetween", "(III)Z"⟩ "TeaspoonSalon" ∈ ts_nw := List.mem_of_getElem? (i := 19) (by decide +kernel)
theorem tb_m20 : (Int8.ofInt (-20)).toInt32 = ts_I (-20) := by decide +kernel
theorem tb_6 : (Int8.ofInt 6).toInt32 = ts_I 6 := by decide +kernel
theorem tb_7 : (Int8.ofInt 7).toInt32 = ts_I 7 := by decide +kernel
theorem tb_8 : (Int8.ofInt 8).toInt32 = ts_I 8 := by decide +kernel
theorem tb_9 : (Int8.ofInt 9).toInt32 = ts_I 9 := by decide +kernel
theorem tb_10 : (Int8.ofInt 10).toInt32 = ts_I 10 := by decide +kernel
theorem tb_11 : (Int8.ofInt 11).toInt32 = ts_I 11 := by decide +kernel
theorem tb_12 : (Int8.ofInt 12).toInt32 = ts_I 12 := by decide +kernel
theorem tb_14 : (Int8.ofInt 14).toInt32 = ts_I 14 := by decide +kernel
theorem tb_16 : (Int8.ofInt 16).toInt32 = ts_I 16 := by decide +kernel
theorem tb_20 : (Int8.ofInt 20).toInt32 = ts_I 20 := by decide +kernel
theorem tb_25 : (Int8.ofInt 25).toInt32 = ts_I 25 := by decide +kernel
theorem tb_30 : (Int8.ofInt 30).toInt32 = ts_I 30 := by decide +kernel
theorem tb_32 : (Int8.ofInt 32).toInt32 = ts_I 32 := by decide +kernel
theorem tb_33 : (Int8.ofInt 33).toInt32 = ts_I 33 := by decide +kernel
theorem tb_43 : (Int8.ofInt 43).toInt32 = ts_I 43 := by decide +kernel
theorem tb_44 : (Int8.ofInt 44).toInt32 = ts_I 44 := by decide +kernel
theorem tb_45 : (Int8.ofInt 45).toInt32 = ts_I 45 := by decide +kernel
theorem tb_48 : (Int8.ofInt 48).toInt32 = ts_I 48 := by decide +kernel
theorem tb_55 : (Int8.ofInt 55).toInt32 = ts_I 55 := by decide +kernel
theorem tb_57 : (Int8.ofInt 57).toInt32 = ts_I 57 := by decide +kernel
theorem tb_59 : (Int8.ofInt 59).toInt32 = ts_I 59 := by decide +kernel
theorem tb_60 : (Int8.ofInt 60).toInt32 = ts_I 60 := by decide +kernel
theorem tb_61 : (Int8.ofInt 61).toInt32 = ts_I 61 := by decide +kernel
theorem tb_62 : (Int8.ofInt 62).toInt32 = ts_I 62 := by decide +kernel
theorem tb_64 : (Int8.ofInt 64).toInt32 = ts_I 64 := by decide +kernel
theorem tb_82 : (Int8.ofInt 82).toInt32 = ts_I 82 := by decide +kernel
theorem tb_97 : (Int8.ofInt 97).toInt32 = ts_I 97 := by decide +kernel
theorem tb_99 : (Int8.ofInt 99).toInt32 = ts_I 99 := by decide +kernel
theorem tb_100 : (Int8.ofInt 100).toInt32 = ts_I 100 := by decide +kernel
theorem tb_101 : (Int8.ofInt 101).toInt32 = ts_I 101 := by decide +kernel
theorem tb_103 : (Int8.ofInt 103).toInt32 = ts_I 103 := by decide +kernel
theorem tb_105 : (Int8.ofInt 105).toInt32 = ts_I 105 := by decide +kernel
theorem tb_106 : (Int8.ofInt 106).toInt32 = ts_I 106 := by decide +kernel
theorem tb_107 : (Int8.ofInt 107).toInt32 = ts_I 107 := by decide +kernel
theorem tb_108 : (Int8.ofInt 108).toInt32 = ts_I 108 := by decide +kernel
theorem tb_109 : (Int8.ofInt 109).toInt32 = ts_I 109 := by decide +kernel
theorem tb_110 : (Int8.ofInt 110).toInt32 = ts_I 110 := by decide +kernel
theorem tb_111 : (Int8.ofInt 111).toInt32 = ts_I 111 := by decide +kernel
theorem tb_112 : (Int8.ofInt 112).toInt32 = ts_I 112 := by decide +kernel
theorem tb_113 : (Int8.ofInt 113).toInt32 = ts_I 113 := by decide +kernel
theorem tb_114 : (Int8.ofInt 114).toInt32 = ts_I 114 := by decide +kernel
theorem tb_115 : (Int8.ofInt 115).toInt32 = ts_I 115 := by decide +kernel
theorem tb_116 : (Int8.ofInt 116).toInt32 = ts_I 116 := by decide +kernel
theorem tb_117 : (Int8.ofInt 117).toInt32 = ts_I 117 := by decide +kernel
theorem tb_118 : (Int8.ofInt 118).toInt32 = ts_I 118 := by decide +kernel
theorem tb_126 : (Int8.ofInt 126).toInt32 = ts_I 126 := by decide +kernel
theorem tb_127 : (Int8.ofInt 127).toInt32 = ts_I 127 := by decide +kernel
theorem tw_m1 : ts_w (-1) = (-1) := by decide +kernel
theorem tw_0 : ts_w 0 = 0 := by decide +kernel
theorem tw_1 : ts_w 1 = 1 := by decide +kernel
theorem tw_2 : ts_w 2 = 2 := by decide +kernel
theorem tw_3 : ts_w 3 = 3 := by decide +kernel
theorem tw_4 : ts_w 4 = 4 := by decide +kernel
theorem tw_5 : ts_w 5 = 5 := by decide +kernel
theorem tw_6 : ts_w 6 = 6 := by decide +kernel
theorem tw_7 : ts_w 7 = 7 := by decide +kernel
theorem tw_8 : ts_w 8 = 8 := by decide +kernel
theorem tw_9 : ts_w 9 = 9 := by decide +kernel
theorem tw_10 : ts_w 10 = 10 := by decide +kernel
theorem tw_12 : ts_w 12 = 12 := by decide +kernel
theorem tw_14 : ts_w 14 = 14 := by decide +kernel
theorem tw_20 : ts_w 20 = 20 := by decide +kernel
theorem tw_25 : ts_w 25 = 25 := by decide +kernel
theorem tw_32 : ts_w 32 = 32 := by decide +kernel
theorem tw_60 : ts_w 60 = 60 := by decide +kernel
theorem tw_61 : ts_w 61 = 61 := by decide +kernel
theorem tw_64 : ts_w 64 = 64 := by decide +kernel
theorem tw_99 : ts_w 99 = 99 := by decide +kernel
theorem tw_146 : ts_w 146 = 146 := by decide +kernel
theorem tsp_146 : (Int16.ofInt 146).toInt32 = ts_I 146 := by decide +kernel
theorem kX12_copies : ts_Yv yX12_copies cX12_copies 2 none 0 := ⟨q_2047, q_45, q_132, q_2048, by decide +kernel, by decide +kernel⟩
theorem kX12_keeps : ts_Yv yX12_keeps cX12_keeps 3 none 0 := ⟨q_2051, q_46, q_132, q_2052, by decide +kernel, by decide +kernel⟩
theorem kX12_isBetween : ts_Ys yX12_isBetween cX12_isBetween 3 (some .boolean) 3 := ⟨q_2035, q_132, q_2036, by decide +kernel, by decide +kernel⟩
theorem kX12_idAt : ts_Yv yX12_idAt cX12_idAt 2 (some .int) 1 := ⟨q_2091, q_54, q_132, q_2092, by decide +kernel, by decide +kernel⟩
theorem kX12_spoon : ts_Yv yX12_spoon cX12_spoon 3 (some .int) 2 := ⟨q_2151, q_64, q_132, q_2152, by decide +kernel, by decide +kernel⟩
theorem kX12_puts : ts_Yv yX12_puts cX12_puts 4 none 3 := ⟨q_2059, q_48, q_132, q_2060, by decide +kernel, by decide +kernel⟩
theorem kX12_notSpoon : ts_Yv yX12_notSpoon cX12_notSpoon 3 (some .int) 2 := ⟨q_2032, q_42, q_132, q_2033, by decide +kernel, by decide +kernel⟩
theorem kX12_remembers : ts_Yv yX12_remembers cX12_remembers 1 none 0 := ⟨q_2043, q_44, q_132, q_2044, by decide +kernel, by decide +kernel⟩
theorem kX12_addsSpoon : ts_Yv yX12_addsSpoon cX12_addsSpoon 4 (some .int) 2 := ⟨q_2055, q_47, q_132, q_2056, by decide +kernel, by decide +kernel⟩
theorem kX12_fails : ts_Yv yX12_fails cX12_fails 2 (some .int) 1 := ⟨q_2039, q_43, q_132, q_2040, by decide +kernel, by decide +kernel⟩
theorem kX12_lists : ts_Yv yX12_lists cX12_lists 3 (some .int) 2 := ⟨q_2075, q_51, q_132, q_2076, by decide +kernel, by decide +kernel⟩
theorem kX12_notPropose : ts_Yv yX12_notPropose cX12_notPropose 2 (some .int) 1 := ⟨q_2067, q_49, q_132, q_2068, by decide +kernel, by decide +kernel⟩
theorem kX12_proposes : ts_Yv yX12_proposes cX12_proposes 2 (some .int) 1 := ⟨q_2071, q_50, q_132, q_2072, by decide +kernel, by decide +kernel⟩
theorem kX12_top : ts_Yv yX12_top cX12_top 1 (some .int) 0 := ⟨q_2099, q_56, q_132, q_2100, by decide +kernel, by decide +kernel⟩
theorem kX12_place : ts_Yv yX12_place cX12_place 3 (some .int) 1 := ⟨q_2087, q_53, q_132, q_2088, by decide +kernel, by decide +kernel⟩
theorem kX12_canMake : ts_Yv yX12_canMake cX12_canMake 2 (some .boolean) 1 := ⟨q_2095, q_55, q_132, q_2096, by decide +kernel, by decide +kernel⟩
theorem kX12_makes : ts_Yv yX12_makes cX12_makes 2 (some .int) 1 := ⟨q_2107, q_58, q_132, q_2108, by decide +kernel, by decide +kernel⟩
theorem kX12_notMain : ts_Yv yX12_notMain cX12_notMain 2 (some .int) 1 := ⟨q_2083, q_52, q_132, q_2084, by decide +kernel, by decide +kernel⟩
theorem kX12_makesMain : ts_Yv yX12_makesMain cX12_makesMain 2 (some .int) 1 := ⟨q_2103, q_57, q_132, q_2104, by decide +kernel, by decide +kernel⟩
theorem kX12_notAmend : ts_Yv yX12_notAmend cX12_notAmend 2 (some .int) 1 := ⟨q_2115, q_59, q_132, q_2116, by decide +kernel, by decide +kernel⟩
theorem kX12_makesAmendment : ts_Yv yX12_makesAmendment cX12_makesAmendment 2 (some .int) 1 := ⟨q_2119, q_60, q_132, q_2120, by decide +kernel, by decide +kernel⟩
theorem kX12_moves : ts_Yv yX12_moves cX12_moves 2 (some .int) 1 := ⟨q_2127, q_61, q_132, q_2128, by decide +kernel, by decide +kernel⟩
theorem kX12_empties : ts_Yv yX12_empties cX12_empties 2 none 0 := ⟨q_2214, q_78, q_132, q_2215, by decide +kernel, by decide +kernel⟩
theorem kX12_isSpoon : ts_Yv yX12_isSpoon cX12_isSpoon 2 (some .boolean) 1 := ⟨q_2147, q_63, q_132, q_2148, by decide +kernel, by decide +kernel⟩
theorem kX12_notSpeak : ts_Yv yX12_notSpeak cX12_notSpeak 2 (some .int) 1 := ⟨q_2143, q_62, q_132, q_2144, by decide +kernel, by decide +kernel⟩
theorem kX12_speaks : ts_Yv yX12_speaks cX12_speaks 2 (some .int) 1 := ⟨q_2155, q_65, q_132, q_2156, by decide +kernel, by decide +kernel⟩
theorem kX12_positionAt : ts_Yv yX12_positionAt cX12_positionAt 2 (some .int) 1 := ⟨q_2191, q_73, q_132, q_2192, by decide +kernel, by decide +kernel⟩
theorem kX12_mainPosition : ts_Yv yX12_mainPosition cX12_mainPosition 1 (some .int) 0 := ⟨q_2187, q_72, q_132, q_2188, by decide +kernel, by decide +kernel⟩
theorem kX12_difference : ts_Ys yX12_difference cX12_difference 2 (some .int) 2 := ⟨q_2194, q_132, q_2195, by decide +kernel, by decide +kernel⟩
theorem kX12_likesMain : ts_Yv yX12_likesMain cX12_likesMain 2 (some .boolean) 1 := ⟨q_2183, q_71, q_132, q_2184, by decide +kernel, by decide +kernel⟩
theorem kX12_changed : ts_Yv yX12_changed cX12_changed 2 (some .int) 0 := ⟨q_2198, q_74, q_132, q_2199, by decide +kernel, by decide +kernel⟩
theorem kX12_isFor : ts_Yv yX12_isFor cX12_isFor 2 (some .boolean) 1 := ⟨q_2179, q_70, q_132, q_2180, by decide +kernel, by decide +kernel⟩
theorem kX12_yes : ts_Yv yX12_yes cX12_yes 3 (some .int) 0 := ⟨q_2175, q_69, q_132, q_2176, by decide +kernel, by decide +kernel⟩
theorem kX12_weights : ts_Yv yX12_weights cX12_weights 3 (some .int) 0 := ⟨q_2202, q_75, q_132, q_2203, by decide +kernel, by decide +kernel⟩
theorem kX12_takesOff : ts_Yv yX12_takesOff cX12_takesOff 4 none 1 := ⟨q_2210, q_77, q_132, q_2211, by decide +kernel, by decide +kernel⟩
theorem kX12_isAdopted : ts_Yv yX12_isAdopted cX12_isAdopted 1 (some .boolean) 0 := ⟨q_2171, q_68, q_132, q_2172, by decide +kernel, by decide +kernel⟩
theorem kX12_removesTop : ts_Yv yX12_removesTop cX12_removesTop 1 none 0 := ⟨q_2218, q_79, q_132, q_2219, by decide +kernel, by decide +kernel⟩
theorem kX12_adjourns : ts_Yv yX12_adjourns cX12_adjourns 1 none 0 := ⟨q_2226, q_81, q_132, q_2227, by decide +kernel, by decide +kernel⟩
theorem kX12_postpones : ts_Yv yX12_postpones cX12_postpones 3 none 0 := ⟨q_2222, q_80, q_132, q_2223, by decide +kernel, by decide +kernel⟩
theorem kX12_decidesMain : ts_Yv yX12_decidesMain cX12_decidesMain 3 none 1 := ⟨q_2206, q_76, q_132, q_2207, by decide +kernel, by decide +kernel⟩
theorem kX12_notVote : ts_Yv yX12_notVote cX12_notVote 1 (some .int) 0 := ⟨q_2163, q_66, q_132, q_2164, by decide +kernel, by decide +kernel⟩
theorem kX12_votes : ts_Yv yX12_votes cX12_votes 3 (some .int) 0 := ⟨q_2167, q_67, q_132, q_2168, by decide +kernel, by decide +kernel⟩
theorem kX12_isCell : ts_Ys yX12_isCell cX12_isCell 2 (some .boolean) 2 := ⟨q_2236, q_132, q_2237, by decide +kernel, by decide +kernel⟩
theorem kX12_notSpill : ts_Ys yX12_notSpill cX12_notSpill 3 (some .int) 3 := ⟨q_2233, q_132, q_2234, by decide +kernel, by decide +kernel⟩
theorem kX12_notMop : ts_Yv yX12_notMop cX12_notMop 3 (some .int) 2 := ⟨q_2268, q_88, q_132, q_2269, by decide +kernel, by decide +kernel⟩
theorem kX12_notSugar : ts_Yv yX12_notSugar cX12_notSugar 3 (some .int) 2 := ⟨q_2280, q_90, q_132, q_2281, by decide +kernel, by decide +kernel⟩
theorem kX12_gives : ts_Yv yX12_gives cX12_gives 3 (some .int) 2 := ⟨q_2284, q_91, q_132, q_2285, by decide +kernel, by decide +kernel⟩
theorem kX12_told : ts_Yv yX12_told cX12_told 2 (some .int) 1 := ⟨q_2292, q_92, q_132, q_2293, by decide +kernel, by decide +kernel⟩
theorem kX12_tells : ts_Yv yX12_tells cX12_tells 3 (some .int) 2 := ⟨q_2300, q_93, q_132, q_2301, by decide +kernel, by decide +kernel⟩
theorem kX12_isRicher : ts_Yv yX12_isRicher cX12_isRicher 3 (some .boolean) 2 := ⟨q_2320, q_94, q_132, q_2321, by decide +kernel, by decide +kernel⟩
theorem kX12_signOf : ts_Ys yX12_signOf cX12_signOf 1 (some .int) 1 := ⟨q_2343, q_132, q_2344, by decide +kernel, by decide +kernel⟩
theorem kX12_lies : ts_Yv yX12_lies cX12_lies 3 (some .boolean) 1 := ⟨q_2351, q_95, q_132, q_2352, by decide +kernel, by decide +kernel⟩
theorem kX12_supports : ts_Yv yX12_supports cX12_supports 6 (some .int) 2 := ⟨q_2383, q_96, q_132, q_2384, by decide +kernel, by decide +kernel⟩
theorem kX12_costFirst : ts_Yv yX12_costFirst cX12_costFirst 5 (some .int) 2 := ⟨q_2395, q_98, q_132, q_2396, by decide +kernel, by decide +kernel⟩
theorem kX12_ranks : ts_Yv yX12_ranks cX12_ranks 5 none 0 := ⟨q_2391, q_97, q_132, q_2392, by decide +kernel, by decide +kernel⟩
theorem kX12_fewestDisagreements : ts_Yv yX12_fewestDisagreements cX12_fewestDisagreements 1 (some .int) 0 := ⟨q_2386, q_2387, q_132, q_2388, by decide +kernel, by decide +kernel⟩
theorem kX12_many : ts_Ys yX12_many cX12_many 3 (some .int) 1 := ⟨q_2411, q_132, q_2412, by decide +kernel, by decide +kernel⟩
theorem kX12_beatsOthers : ts_Yv yX12_beatsOthers cX12_beatsOthers 4 (some .boolean) 1 := ⟨q_2415, q_99, q_132, q_2416, by decide +kernel, by decide +kernel⟩
theorem kX12_isInTop : ts_Yv yX12_isInTop cX12_isInTop 4 (some .boolean) 1 := ⟨q_2407, q_2408, q_132, q_2409, by decide +kernel, by decide +kernel⟩
theorem kX12_wets : ts_Yv yX12_wets cX12_wets 3 (some .int) 0 := ⟨q_2260, q_87, q_132, q_2261, by decide +kernel, by decide +kernel⟩
theorem kX12_sugarTotal : ts_Yv yX12_sugarTotal cX12_sugarTotal 3 (some .int) 0 := ⟨q_2460, q_2461, q_132, q_2462, by decide +kernel, by decide +kernel⟩
theorem kX12_sugarByAccounts : ts_Yv yX12_sugarByAccounts cX12_sugarByAccounts 1 (some .int) 0 := ⟨q_2464, q_2465, q_132, q_2466, by decide +kernel, by decide +kernel⟩
theorem kX12_writes : ts_Yv yX12_writes cX12_writes 2 none 1 := ⟨q_2487, q_100, q_132, q_2488, by decide +kernel, by decide +kernel⟩
theorem kX12_writesNumber : ts_Yv yX12_writesNumber cX12_writesNumber 5 none 1 := ⟨q_2491, q_101, q_132, q_2492, by decide +kernel, by decide +kernel⟩
theorem kX12_nextChar : ts_Yv yX12_nextChar cX12_nextChar 1 (some .int) 0 := ⟨q_2519, q_104, q_132, q_2520, by decide +kernel, by decide +kernel⟩
theorem kX12_readsDigit : ts_Yv yX12_readsDigit cX12_readsDigit 2 (some .boolean) 1 := ⟨q_2535, q_108, q_132, q_2536, by decide +kernel, by decide +kernel⟩
theorem kX12_reads : ts_Yv yX12_reads cX12_reads 2 (some .boolean) 1 := ⟨q_2523, q_105, q_132, q_2524, by decide +kernel, by decide +kernel⟩
theorem kX12_readsNumber : ts_Yv yX12_readsNumber cX12_readsNumber 2 (some .boolean) 1 := ⟨q_2539, q_109, q_132, q_2540, by decide +kernel, by decide +kernel⟩
theorem kX12_readsSp : ts_Yv yX12_readsSp cX12_readsSp 1 (some .boolean) 0 := ⟨q_2531, q_107, q_132, q_2532, by decide +kernel, by decide +kernel⟩
theorem kX12_readsA : ts_Yv yX12_readsA cX12_readsA 2 (some .boolean) 0 := ⟨q_2551, q_112, q_132, q_2552, by decide +kernel, by decide +kernel⟩
theorem kX12_readsM : ts_Yv yX12_readsM cX12_readsM 1 (some .boolean) 0 := ⟨q_2547, q_111, q_132, q_2548, by decide +kernel, by decide +kernel⟩
theorem kX12_readsP : ts_Yv yX12_readsP cX12_readsP 1 (some .boolean) 0 := ⟨q_2543, q_110, q_132, q_2544, by decide +kernel, by decide +kernel⟩
theorem kX12_readsS : ts_Yv yX12_readsS cX12_readsS 1 (some .boolean) 0 := ⟨q_2527, q_106, q_132, q_2528, by decide +kernel, by decide +kernel⟩
theorem kX12_readsCommand : ts_Yv yX12_readsCommand cX12_readsCommand 1 (some .boolean) 0 := ⟨q_2515, q_103, q_132, q_2516, by decide +kernel, by decide +kernel⟩
theorem kX12_notMade : ts_Yv yX12_notMade cX12_notMade 2 (some .int) 1 := ⟨q_2563, q_115, q_132, q_2564, by decide +kernel, by decide +kernel⟩
theorem kX12_notNow : ts_Yv yX12_notNow cX12_notNow 3 (some .int) 0 := ⟨q_2559, q_114, q_132, q_2560, by decide +kernel, by decide +kernel⟩
theorem kX12_readsAll : ts_Yv yX12_readsAll cX12_readsAll 2 (some .boolean) 0 := ⟨q_2511, q_102, q_132, q_2512, by decide +kernel, by decide +kernel⟩
theorem kX11_isBetween : ts_Ys yX11_isBetween cX11_isBetween 3 (some .boolean) 3 := ⟨q_1011, q_119, q_1012, by decide +kernel, by decide +kernel⟩
theorem kX1_cell : ts_Ys yX1_cell cX1_cell 2 (some .long) 2 := ⟨q_645, q_124, q_646, by decide +kernel, by decide +kernel⟩
theorem kX1_hasCell : ts_Ys yX1_hasCell cX1_hasCell 2 (some .boolean) 2 := ⟨q_1163, q_124, q_1164, by decide +kernel, by decide +kernel⟩
theorem kX1_wetAt : ts_Yv yX1_wetAt cX1_wetAt 3 (some .long) 2 := ⟨q_641, q_642, q_124, q_643, by decide +kernel, by decide +kernel⟩
theorem kX1_firstOf : ts_Ys yX1_firstOf cX1_firstOf 2 (some .long) 1 := ⟨q_546, q_124, q_547, by decide +kernel, by decide +kernel⟩
theorem kX1_neighbours : ts_Ys yX1_neighbours cX1_neighbours 2 (some .long) 1 := ⟨q_553, q_124, q_554, by decide +kernel, by decide +kernel⟩
theorem kX1_walkFrom : ts_Yv yX1_walkFrom cX1_walkFrom 10 (some .long) 1 := ⟨q_549, q_550, q_124, q_551, by decide +kernel, by decide +kernel⟩
theorem kX4_placeOf : ts_Yv yX4_placeOf cX4_placeOf 3 (some .int) 1 := ⟨q_1129, q_1130, q_122, q_1131, by decide +kernel, by decide +kernel⟩
theorem kX4_positionOf : ts_Yv yX4_positionOf cX4_positionOf 3 (some .int) 1 := ⟨q_1295, q_1296, q_122, q_1297, by decide +kernel, by decide +kernel⟩
theorem kX4_remove : ts_Yv yX4_remove cX4_remove 4 none 1 := ⟨q_1336, q_1337, q_122, q_1338, by decide +kernel, by decide +kernel⟩
theorem kX4_append : ts_Yv yX4_append cX4_append 3 none 2 := ⟨q_1270, q_17, q_122, q_1271, by decide +kernel, by decide +kernel⟩
theorem kX5_isIn : ts_Ys yX5_isIn cX5_isIn 2 (some .boolean) 2 := ⟨q_507, q_126, q_508, by decide +kernel, by decide +kernel⟩
theorem kX5_allPlaces : ts_Yv yX5_allPlaces cX5_allPlaces 1 (some .int) 0 := ⟨q_499, q_0, q_126, q_500, by decide +kernel, by decide +kernel⟩
theorem kX5_disagreements : ts_Ys yX5_disagreements cX5_disagreements 6 (some .int) 3 := ⟨q_514, q_126, q_515, by decide +kernel, by decide +kernel⟩
theorem kX5_fewestWithFirst : ts_Yv yX5_fewestWithFirst cX5_fewestWithFirst 4 (some .int) 2 := ⟨q_511, q_2, q_126, q_512, by decide +kernel, by decide +kernel⟩
theorem kX5_beats : ts_Yv yX5_beats cX5_beats 3 (some .boolean) 2 := ⟨q_622, q_5, q_126, q_623, by decide +kernel, by decide +kernel⟩
theorem kX8_has : ts_Yv yX8_has cX8_has 2 (some .boolean) 1 := ⟨q_1153, q_1154, q_121, q_1155, by decide +kernel, by decide +kernel⟩
theorem kX8_forgetSpeeches : ts_Yv yX8_forgetSpeeches cX8_forgetSpeeches 2 none 0 := ⟨q_1366, q_1367, q_121, q_1368, by decide +kernel, by decide +kernel⟩
theorem kX9_mainPosition : ts_Yv yX9_mainPosition cX9_mainPosition 1 (some .int) 0 := ⟨q_1291, q_1292, q_120, q_1293, by decide +kernel, by decide +kernel⟩
theorem kX10_rankAt : ts_Yv yX10_rankAt cX10_rankAt 2 (some .int) 1 := ⟨q_1007, q_1008, q_123, q_1009, by decide +kernel, by decide +kernel⟩
theorem kX10_topRank : ts_Yv yX10_topRank cX10_topRank 1 (some .int) 0 := ⟨q_1143, q_1144, q_123, q_1145, by decide +kernel, by decide +kernel⟩
theorem kX10_holds : ts_Yv yX10_holds cX10_holds 3 (some .boolean) 1 := ⟨q_1574, q_1575, q_123, q_1576, by decide +kernel, by decide +kernel⟩
theorem kJ13_bitCount_95d88 : ts_Ys yJ13_bitCount_95d88 cJ13_bitCount_95d88 2 (some .int) 1 := ⟨q_532, q_148, q_533, by decide +kernel, by decide +kernel⟩
theorem kX1_countPuddles : ts_Yv yX1_countPuddles cX1_countPuddles 5 (some .int) 0 := ⟨q_567, q_568, q_124, q_569, by decide +kernel, by decide +kernel⟩
theorem kX9_keepsMinute : ts_Yv yX9_keepsMinute cX9_keepsMinute 2 (some .boolean) 1 := ⟨q_1769, q_1770, q_120, q_1771, by decide +kernel, by decide +kernel⟩
theorem kX8_accountedLumps : ts_Yv yX8_accountedLumps cX8_accountedLumps 1 (some .int) 0 := ⟨q_595, q_596, q_121, q_597, by decide +kernel, by decide +kernel⟩
theorem kX12_isBesideMarked : ts_Yv yX12_isBesideMarked cX12_isBesideMarked 4 (some .boolean) 1 := ⟨q_2256, q_86, q_132, q_2257, by decide +kernel, by decide +kernel⟩
theorem kX12_marksPuddle : ts_Yv yX12_marksPuddle cX12_marksPuddle 5 (some .int) 1 := ⟨q_2252, q_85, q_132, q_2253, by decide +kernel, by decide +kernel⟩
theorem kX12_largest : ts_Yv yX12_largest cX12_largest 4 (some .int) 0 := ⟨q_2248, q_84, q_132, q_2249, by decide +kernel, by decide +kernel⟩
theorem kX12_wetsNext : ts_Yv yX12_wetsNext cX12_wetsNext 7 none 2 := ⟨q_2244, q_83, q_132, q_2245, by decide +kernel, by decide +kernel⟩
theorem kX12_spills : ts_Yv yX12_spills cX12_spills 5 (some .int) 3 := ⟨q_2240, q_82, q_132, q_2241, by decide +kernel, by decide +kernel⟩
theorem kX12_mops : ts_Yv yX12_mops cX12_mops 5 (some .int) 2 := ⟨q_2272, q_89, q_132, q_2273, by decide +kernel, by decide +kernel⟩
theorem kX12_puddle : ts_Yv yX12_puddle cX12_puddle 3 (some .int) 2 := ⟨q_2431, q_2432, q_132, q_2433, by decide +kernel, by decide +kernel⟩
theorem kX12_doesNow : ts_Yv yX12_doesNow cX12_doesNow 3 (some .int) 0 := ⟨q_2567, q_116, q_132, q_2568, by decide +kernel, by decide +kernel⟩
theorem kX12_doesAll : ts_Yv yX12_doesAll cX12_doesAll 2 (some .boolean) 0 := ⟨q_2555, q_113, q_132, q_2556, by decide +kernel, by decide +kernel⟩
theorem kX12_goesBack : ts_Yv yX12_goesBack cX12_goesBack 2 none 0 := ⟨q_2571, q_117, q_132, q_2572, by decide +kernel, by decide +kernel⟩
theorem kJ9_abs_0f7a4 : ts_Ys yJ9_abs_0f7a4 cJ9_abs_0f7a4 1 (some .int) 1 := ⟨q_491, q_145, q_492, by decide +kernel, by decide +kernel⟩
theorem kX1_moisten : ts_Yv yX1_moisten cX1_moisten 4 (some .int) 3 := ⟨q_1380, q_26, q_124, q_1381, by decide +kernel, by decide +kernel⟩
theorem kJ9_max_7cf53 : ts_Ys yJ9_max_7cf53 cJ9_max_7cf53 2 (some .int) 2 := ⟨q_560, q_145, q_561, by decide +kernel, by decide +kernel⟩
theorem kX1_joinCell : ts_Yv yX1_joinCell cX1_joinCell 9 none 1 := ⟨q_649, q_7, q_124, q_650, by decide +kernel, by decide +kernel⟩
theorem kX1_joinGroups : ts_Yv yX1_joinGroups cX1_joinGroups 3 none 0 := ⟨q_637, q_638, q_124, q_639, by decide +kernel, by decide +kernel⟩
theorem kX1_groupOf : ts_Yv yX1_groupOf cX1_groupOf 4 (some .long) 1 := ⟨q_652, q_653, q_124, q_654, by decide +kernel, by decide +kernel⟩
theorem kJ9_floorMod_7cf53 : ts_Ys yJ9_floorMod_7cf53 cJ9_floorMod_7cf53 3 (some .int) 2 := ⟨q_1252, q_145, q_1253, by decide +kernel, by decide +kernel⟩
theorem kJ9_min_7cf53 : ts_Ys yJ9_min_7cf53 cJ9_min_7cf53 2 (some .int) 2 := ⟨q_484, q_145, q_485, by decide +kernel, by decide +kernel⟩
theorem kX5_notBeating : ts_Yv yX5_notBeating cX5_notBeating 4 (some .int) 1 := ⟨q_630, q_6, q_126, q_631, by decide +kernel, by decide +kernel⟩
theorem kX7_keepArgument : ts_Yv yX7_keepArgument cX7_keepArgument 3 none 1 := ⟨q_1882, q_38, q_127, q_1883, by decide +kernel, by decide +kernel⟩
theorem kX8_sumOf : ts_Yv yX8_sumOf cX8_sumOf 4 (some .int) 1 := ⟨q_588, q_3, q_121, q_589, by decide +kernel, by decide +kernel⟩
theorem kX8_comesBefore : ts_Yv yX8_comesBefore cX8_comesBefore 3 (some .boolean) 2 := ⟨q_1759, q_33, q_121, q_1760, by decide +kernel, by decide +kernel⟩
theorem kX10_clear : ts_Yv yX10_clear cX10_clear 1 none 0 := ⟨q_1348, q_1349, q_123, q_1350, by decide +kernel, by decide +kernel⟩
theorem kX1_spread : ts_Yv yX1_spread cX1_spread 8 none 3 := ⟨q_1374, q_1375, q_124, q_1376, by decide +kernel, by decide +kernel⟩
theorem kX1_largestSize : ts_Yv yX1_largestSize cX1_largestSize 7 (some .int) 0 := ⟨q_542, q_543, q_124, q_544, by decide +kernel, by decide +kernel⟩
theorem kX9_endSitting : ts_Yv yX9_endSitting cX9_endSitting 1 none 0 := ⟨q_1359, q_23, q_120, q_1360, by decide +kernel, by decide +kernel⟩
theorem kX9_startAnewIfTableIsEmpty : ts_Yv yX9_startAnewIfTableIsEmpty cX9_startAnewIfTableIsEmpty 1 none 0 := ⟨q_1363, q_24, q_120, q_1364, by decide +kernel, by decide +kernel⟩
theorem kX8_weightSum : ts_Yv yX8_weightSum cX8_weightSum 1 (some .int) 0 := ⟨q_1315, q_1316, q_121, q_1317, by decide +kernel, by decide +kernel⟩
theorem kX9_amended : ts_Yv yX9_amended cX9_amended 2 (some .int) 1 := ⟨q_1306, q_19, q_120, q_1307, by decide +kernel, by decide +kernel⟩
theorem kX9_minuteAt : ts_Yv yX9_minuteAt cX9_minuteAt 2 (some .int) 1 := ⟨q_1774, q_1775, q_120, q_1776, by decide +kernel, by decide +kernel⟩
theorem kX8_countedLumps : ts_Yv yX8_countedLumps cX8_countedLumps 1 (some .int) 0 := ⟨q_583, q_584, q_121, q_585, by decide +kernel, by decide +kernel⟩
theorem kX8_stanceSum : ts_Yv yX8_stanceSum cX8_stanceSum 1 (some .int) 0 := ⟨q_1802, q_1803, q_121, q_1804, by decide +kernel, by decide +kernel⟩
theorem kX8_preferring : ts_Yv yX8_preferring cX8_preferring 5 (some .int) 2 := ⟨q_487, q_488, q_121, q_489, by decide +kernel, by decide +kernel⟩
theorem kX5_fewestOf : ts_Yv yX5_fewestOf cX5_fewestOf 4 (some .int) 1 := ⟨q_503, q_1, q_126, q_504, by decide +kernel, by decide +kernel⟩
theorem kX5_fewestByTable : ts_Yv yX5_fewestByTable cX5_fewestByTable 2 (some .int) 0 := ⟨q_494, q_495, q_126, q_496, by decide +kernel, by decide +kernel⟩
theorem kX5_bestFirst : ts_Yv yX5_bestFirst cX5_bestFirst 5 (some .int) 2 := ⟨q_1694, q_31, q_126, q_1695, by decide +kernel, by decide +kernel⟩
theorem kX7_takeNumber : ts_Yv yX7_takeNumber cX7_takeNumber 5 (some .boolean) 2 := ⟨q_1877, q_37, q_127, q_1878, by decide +kernel, by decide +kernel⟩
theorem kX7_take : ts_Yv yX7_take cX7_take 2 (some .boolean) 1 := ⟨q_1886, q_39, q_127, q_1887, by decide +kernel, by decide +kernel⟩
theorem kX9_saysYes : ts_Yv yX9_saysYes cX9_saysYes 4 (some .boolean) 2 := ⟨q_1300, q_1301, q_120, q_1302, by decide +kernel, by decide +kernel⟩
theorem kX8_gain : ts_Yv yX8_gain cX8_gain 3 none 2 := ⟨q_1323, q_1324, q_121, q_1325, by decide +kernel, by decide +kernel⟩
theorem kX4_setPosition : ts_Yv yX4_setPosition cX4_setPosition 4 none 2 := ⟨q_1344, q_1345, q_122, q_1346, by decide +kernel, by decide +kernel⟩
theorem kX4_moveToEnd : ts_Yv yX4_moveToEnd cX4_moveToEnd 3 none 1 := ⟨q_1352, q_1353, q_122, q_1354, by decide +kernel, by decide +kernel⟩
theorem kX5_survey : ts_Yv yX5_survey cX5_survey 5 none 1 := ⟨q_480, q_481, q_126, q_482, by decide +kernel, by decide +kernel⟩
theorem kX9_yesWeight : ts_Yv yX9_yesWeight cX9_yesWeight 4 (some .int) 0 := ⟨q_1287, q_1288, q_120, q_1289, by decide +kernel, by decide +kernel⟩
theorem kX9_isEnough : ts_Yv yX9_isEnough cX9_isEnough 3 (some .boolean) 1 := ⟨q_1311, q_1312, q_120, q_1313, by decide +kernel, by decide +kernel⟩
theorem kX10_takeTop : ts_Yv yX10_takeTop cX10_takeTop 1 none 0 := ⟨q_1327, q_1328, q_123, q_1329, by decide +kernel, by decide +kernel⟩
theorem kX9_takeEffect : ts_Yv yX9_takeEffect cX9_takeEffect 2 none 1 := ⟨q_1341, q_22, q_120, q_1342, by decide +kernel, by decide +kernel⟩
theorem kX9_settleMain : ts_Yv yX9_settleMain cX9_settleMain 2 none 1 := ⟨q_1332, q_21, q_120, q_1333, by decide +kernel, by decide +kernel⟩
theorem kX9_rewardYesVoters : ts_Yv yX9_rewardYesVoters cX9_rewardYesVoters 3 none 0 := ⟨q_1320, q_20, q_120, q_1321, by decide +kernel, by decide +kernel⟩
