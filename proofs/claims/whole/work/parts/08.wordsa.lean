theorem tgm {w : Cond} (h : w ∈ lw_tbl) (hg : goodWord w = true) : w ∈ tblG := List.mem_filter.mpr ⟨h, hg⟩
theorem in_t1 : ∀ w ∈ tables_1_1, w ∈ lw_tbl := fun w h => List.mem_append_right _ (List.mem_append_left _ h)
theorem in_t2 : ∀ w ∈ tables_1_2, w ∈ lw_tbl := fun w h => List.mem_append_right _ (List.mem_append_right _ (List.mem_append_left _ h))
theorem in_t3 : ∀ w ∈ tables_1_3, w ∈ lw_tbl := fun w h => List.mem_append_right _ (List.mem_append_right _ (List.mem_append_right _ (List.mem_append_left _ h)))
theorem in_t4 : ∀ w ∈ tables_1_4, w ∈ lw_tbl := fun w h => List.mem_append_right _ (List.mem_append_right _ (List.mem_append_right _ (List.mem_append_right _ (List.mem_append_left _ h))))
theorem in_t5 : ∀ w ∈ tables_1_5, w ∈ lw_tbl := fun w h => List.mem_append_right _ (List.mem_append_right _ (List.mem_append_right _ (List.mem_append_right _ (List.mem_append_right _ (List.mem_append_left _ h)))))
theorem in_t6 : ∀ w ∈ tables_1_6, w ∈ lw_tbl := fun w h => List.mem_append_right _ (List.mem_append_right _ (List.mem_append_right _ (List.mem_append_right _ (List.mem_append_right _ (List.mem_append_right _ (List.mem_append_left _ h))))))
theorem in_t7 : ∀ w ∈ tables_1_7, w ∈ lw_tbl := fun w h => List.mem_append_right _ (List.mem_append_right _ (List.mem_append_right _ (List.mem_append_right _ (List.mem_append_right _ (List.mem_append_right _ (List.mem_append_right _ (List.mem_append_left _ h)))))))
theorem in_t8 : ∀ w ∈ tables_1_8, w ∈ lw_tbl := fun w h => List.mem_append_right _ (List.mem_append_right _ (List.mem_append_right _ (List.mem_append_right _ (List.mem_append_right _ (List.mem_append_right _ (List.mem_append_right _ (List.mem_append_right _ (List.mem_append_left _ h))))))))
theorem in_t9 : ∀ w ∈ tables_1_9, w ∈ lw_tbl := fun w h => List.mem_append_right _ (List.mem_append_right _ (List.mem_append_right _ (List.mem_append_right _ (List.mem_append_right _ (List.mem_append_right _ (List.mem_append_right _ (List.mem_append_right _ (List.mem_append_right _ (List.mem_append_left _ h)))))))))
theorem in_t10 : ∀ w ∈ tables_1_10, w ∈ lw_tbl := fun w h => List.mem_append_right _ (List.mem_append_right _ (List.mem_append_right _ (List.mem_append_right _ (List.mem_append_right _ (List.mem_append_right _ (List.mem_append_right _ (List.mem_append_right _ (List.mem_append_right _ (List.mem_append_right _ h)))))))))
theorem w_0 : Cond.selects RX11 yX11_refuse yX11_refuse ∈ tblG := tgm (List.mem_append_left _ (List.mem_of_getElem? (i := 0) rfl)) rfl
theorem w_1 : Cond.selects RX8 yX8_cutOne yX8_cutOne ∈ tblG := tgm (List.mem_append_left _ (List.mem_of_getElem? (i := 1) rfl)) rfl
theorem w_2 : Cond.selects RX8 yX8_addWord yX8_addWord ∈ tblG := tgm (List.mem_append_left _ (List.mem_of_getElem? (i := 2) rfl)) rfl
theorem w_3 : Cond.selects RX8 yX8_addToken yX8_addToken ∈ tblG := tgm (List.mem_append_left _ (List.mem_of_getElem? (i := 3) rfl)) rfl
theorem w_4 : Cond.selects RX8 yX8_addWhole yX8_addWhole ∈ tblG := tgm (List.mem_append_left _ (List.mem_of_getElem? (i := 4) rfl)) rfl
theorem w_5 : Cond.selects RX8 yX8_ends yX8_ends ∈ tblG := tgm (List.mem_append_left _ (List.mem_of_getElem? (i := 5) rfl)) rfl
theorem w_6 : Cond.selects RX5 yX5_readsLine yX5_readsLine ∈ tblG := tgm (List.mem_append_left _ (List.mem_of_getElem? (i := 6) rfl)) rfl
theorem w_7 : Cond.selects RX5 yX5_advance yX5_advance ∈ tblG := tgm (List.mem_append_left _ (List.mem_of_getElem? (i := 7) rfl)) rfl
theorem w_8 : Cond.selects RX5 yX5_isWord yX5_isWord ∈ tblG := tgm (List.mem_append_left _ (List.mem_of_getElem? (i := 8) rfl)) rfl
theorem w_9 : Cond.selects RX5 yX5_readsTangle yX5_readsTangle ∈ tblG := tgm (List.mem_append_left _ (List.mem_of_getElem? (i := 9) rfl)) rfl
theorem w_10 : Cond.selects RX5 yX5_isFaulty yX5_isFaulty ∈ tblG := tgm (List.mem_append_left _ (List.mem_of_getElem? (i := 10) rfl)) rfl
theorem w_11 : Cond.selects RX5 yX5_takesWord yX5_takesWord ∈ tblG := tgm (List.mem_append_left _ (List.mem_of_getElem? (i := 11) rfl)) rfl
theorem w_12 : Cond.selects RX5 yX5_takesWhole yX5_takesWhole ∈ tblG := tgm (List.mem_append_left _ (List.mem_of_getElem? (i := 12) rfl)) rfl
theorem w_13 : Cond.selects RX5 yX5_kind yX5_kind ∈ tblG := tgm (List.mem_append_left _ (List.mem_of_getElem? (i := 13) rfl)) rfl
theorem w_14 : Cond.selects RX5 yX5_readsPerson yX5_readsPerson ∈ tblG := tgm (List.mem_append_left _ (List.mem_of_getElem? (i := 14) rfl)) rfl
theorem w_15 : Cond.selects RX5 yX5_takesNewName yX5_takesNewName ∈ tblG := tgm (List.mem_append_left _ (List.mem_of_getElem? (i := 15) rfl)) rfl
theorem w_16 : Cond.selects RX5 yX5_takesName yX5_takesName ∈ tblG := tgm (List.mem_append_left _ (List.mem_of_getElem? (i := 16) rfl)) rfl
theorem w_17 : Cond.selects RX5 yX5_readsHold yX5_readsHold ∈ tblG := tgm (List.mem_append_left _ (List.mem_of_getElem? (i := 17) rfl)) rfl
theorem w_18 : Cond.selects RX5 yX5_takesPerson yX5_takesPerson ∈ tblG := tgm (List.mem_append_left _ (List.mem_of_getElem? (i := 18) rfl)) rfl
theorem w_19 : Cond.selects RX5 yX5_takesHand yX5_takesHand ∈ tblG := tgm (List.mem_append_left _ (List.mem_of_getElem? (i := 19) rfl)) rfl
theorem w_20 : Cond.selects RX5 yX5_readsCross yX5_readsCross ∈ tblG := tgm (List.mem_append_left _ (List.mem_of_getElem? (i := 20) rfl)) rfl
theorem w_21 : Cond.selects RX5 yX5_takesPass yX5_takesPass ∈ tblG := tgm (List.mem_append_left _ (List.mem_of_getElem? (i := 21) rfl)) rfl
theorem w_22 : Cond.selects RX5 yX5_takesLink yX5_takesLink ∈ tblG := tgm (List.mem_append_left _ (List.mem_of_getElem? (i := 22) rfl)) rfl
theorem w_23 : Cond.selects RX6 yX6_traceHands yX6_traceHands ∈ tblG := tgm (List.mem_append_left _ (List.mem_of_getElem? (i := 23) rfl)) rfl
theorem w_24 : Cond.selects RX6 yX6_traceRing yX6_traceRing ∈ tblG := tgm (List.mem_append_left _ (List.mem_of_getElem? (i := 24) rfl)) rfl
theorem w_25 : Cond.selects RX6 yX6_traceLink yX6_traceLink ∈ tblG := tgm (List.mem_append_left _ (List.mem_of_getElem? (i := 25) rfl)) rfl
theorem w_26 : Cond.selects RX6 yX6_traceSigns yX6_traceSigns ∈ tblG := tgm (List.mem_append_left _ (List.mem_of_getElem? (i := 26) rfl)) rfl
theorem w_27 : Cond.selects RX0 yX0_walkRound yX0_walkRound ∈ tblG := tgm (List.mem_append_left _ (List.mem_of_getElem? (i := 27) rfl)) rfl
theorem w_28 : Cond.selects RX0 yX0_join yX0_join ∈ tblG := tgm (List.mem_append_left _ (List.mem_of_getElem? (i := 28) rfl)) rfl
theorem w_29 : Cond.selects RX0 yX0_listTurn yX0_listTurn ∈ tblG := tgm (List.mem_append_left _ (List.mem_of_getElem? (i := 29) rfl)) rfl
theorem w_30 : Cond.selects RX0 yX0_addNumber yX0_addNumber ∈ tblG := tgm (List.mem_append_left _ (List.mem_of_getElem? (i := 30) rfl)) rfl
theorem w_31 : Cond.selects RX0 yX0_listSlips yX0_listSlips ∈ tblG := tgm (List.mem_append_left _ (List.mem_of_getElem? (i := 31) rfl)) rfl
theorem w_32 : Cond.selects RX0 yX0_slipsWith yX0_slipsWith ∈ tblG := tgm (List.mem_append_left _ (List.mem_of_getElem? (i := 32) rfl)) rfl
theorem w_33 : Cond.selects RX0 yX0_fits yX0_fits ∈ tblG := tgm (List.mem_append_left _ (List.mem_of_getElem? (i := 33) rfl)) rfl
theorem w_34 : Cond.selects RX0 yX0_lowLink yX0_lowLink ∈ tblG := tgm (List.mem_append_left _ (List.mem_of_getElem? (i := 34) rfl)) rfl
theorem w_35 : Cond.selects RX0 yX0_listSteps yX0_listSteps ∈ tblG := tgm (List.mem_append_left _ (List.mem_of_getElem? (i := 35) rfl)) rfl
theorem w_36 : Cond.selects RX0 yX0_stepsWith yX0_stepsWith ∈ tblG := tgm (List.mem_append_left _ (List.mem_of_getElem? (i := 36) rfl)) rfl
theorem w_37 : Cond.selects RX11 yX11_grant yX11_grant ∈ tblG := tgm (List.mem_append_left _ (List.mem_of_getElem? (i := 37) rfl)) rfl
theorem w_38 : Cond.selects RX11 yX11_isPerson yX11_isPerson ∈ tblG := tgm (List.mem_append_left _ (List.mem_of_getElem? (i := 38) rfl)) rfl
theorem w_39 : Cond.selects RX11 yX11_isRing yX11_isRing ∈ tblG := tgm (List.mem_append_left _ (List.mem_of_getElem? (i := 39) rfl)) rfl
theorem w_40 : Cond.selects RX11 yX11_isLink yX11_isLink ∈ tblG := tgm (List.mem_append_left _ (List.mem_of_getElem? (i := 40) rfl)) rfl
theorem w_41 : Cond.selects RX11 yX11_isStanding yX11_isStanding ∈ tblG := tgm (List.mem_append_left _ (List.mem_of_getElem? (i := 41) rfl)) rfl
theorem w_42 : Cond.selects RX11 yX11_isCrossing yX11_isCrossing ∈ tblG := tgm (List.mem_append_left _ (List.mem_of_getElem? (i := 42) rfl)) rfl
theorem w_43 : Cond.selects RX11 yX11_refuseSigned yX11_refuseSigned ∈ tblG := tgm (List.mem_append_left _ (List.mem_of_getElem? (i := 43) rfl)) rfl
theorem w_44 : Cond.selects RX11 yX11_isMove yX11_isMove ∈ tblG := tgm (List.mem_append_left _ (List.mem_of_getElem? (i := 44) rfl)) rfl
theorem w_45 : Cond.selects RX0 yX0_goerLink yX0_goerLink ∈ tblG := tgm (List.mem_append_left _ (List.mem_of_getElem? (i := 45) rfl)) rfl
theorem w_46 : Cond.selects RX7 yX7_forget yX7_forget ∈ tblG := tgm (List.mem_append_left _ (List.mem_of_getElem? (i := 46) rfl)) rfl
theorem w_47 : Cond.selects RX7 yX7_add yX7_add ∈ tblG := tgm (List.mem_append_left _ (List.mem_of_getElem? (i := 47) rfl)) rfl
theorem w_48 : Cond.selects RX7 yX7_slotFor yX7_slotFor ∈ tblG := tgm (List.mem_append_left _ (List.mem_of_getElem? (i := 48) rfl)) rfl
theorem w_49 : Cond.selects RX7 yX7_spreadFrom yX7_spreadFrom ∈ tblG := tgm (List.mem_append_left _ (List.mem_of_getElem? (i := 49) rfl)) rfl
theorem w_50 : Cond.selects RX0 yX0_placesOf yX0_placesOf ∈ tblG := tgm (List.mem_append_left _ (List.mem_of_getElem? (i := 50) rfl)) rfl
theorem w_51 : Cond.selects RX0 yX0_exchange yX0_exchange ∈ tblG := tgm (List.mem_append_left _ (List.mem_of_getElem? (i := 51) rfl)) rfl
theorem w_52 : Cond.selects RX0 yX0_ringOfPass yX0_ringOfPass ∈ tblG := tgm (List.mem_append_left _ (List.mem_of_getElem? (i := 52) rfl)) rfl
theorem w_53 : Cond.selects RX2 yX2_traceArcs yX2_traceArcs ∈ tblG := tgm (List.mem_append_left _ (List.mem_of_getElem? (i := 53) rfl)) rfl
theorem w_54 : Cond.selects RX2 yX2_fillRow yX2_fillRow ∈ tblG := tgm (List.mem_append_left _ (List.mem_of_getElem? (i := 54) rfl)) rfl
theorem w_55 : Cond.selects RX2 yX2_rank yX2_rank ∈ tblG := tgm (List.mem_append_left _ (List.mem_of_getElem? (i := 55) rfl)) rfl
theorem w_56 : Cond.selects RX2 yX2_bringsUp yX2_bringsUp ∈ tblG := tgm (List.mem_append_left _ (List.mem_of_getElem? (i := 56) rfl)) rfl
theorem w_57 : Cond.selects RX11 yX11_isProvedTight yX11_isProvedTight ∈ tblG := tgm (List.mem_append_left _ (List.mem_of_getElem? (i := 57) rfl)) rfl
theorem w_58 : Cond.selects RX11 yX11_bestPart yX11_bestPart ∈ tblG := tgm (List.mem_append_left _ (List.mem_of_getElem? (i := 58) rfl)) rfl
theorem w_59 : Cond.selects RX11 yX11_bestLift yX11_bestLift ∈ tblG := tgm (List.mem_append_left _ (List.mem_of_getElem? (i := 59) rfl)) rfl
theorem w_60 : Cond.selects RX11 yX11_makeMove yX11_makeMove ∈ tblG := tgm (List.mem_append_left _ (List.mem_of_getElem? (i := 60) rfl)) rfl
theorem w_61 : Cond.selects RX11 yX11_refuseFlatly yX11_refuseFlatly ∈ tblG := tgm (List.mem_append_left _ (List.mem_of_getElem? (i := 61) rfl)) rfl
theorem w_62 : Cond.selects RX11 yX11_toldSize yX11_toldSize ∈ tblG := tgm (List.mem_append_left _ (List.mem_of_getElem? (i := 62) rfl)) rfl
theorem w_63 : Cond.selects RX11 yX11_changingSize yX11_changingSize ∈ tblG := tgm (List.mem_append_left _ (List.mem_of_getElem? (i := 63) rfl)) rfl
theorem w_65 : Cond.selects RX13 yX13_refused yX13_refused ∈ tblG := tgm (List.mem_append_left _ (List.mem_of_getElem? (i := 65) rfl)) rfl
theorem w_66 : Cond.selects RX13 yX13_goesOn yX13_goesOn ∈ tblG := tgm (List.mem_append_left _ (List.mem_of_getElem? (i := 66) rfl)) rfl
theorem w_67 : Cond.selects RX13 yX13_byteAt yX13_byteAt ∈ tblG := tgm (List.mem_append_left _ (List.mem_of_getElem? (i := 67) rfl)) rfl
theorem w_68 : Cond.selects RX13 yX13_readAll yX13_readAll ∈ tblG := tgm (List.mem_append_left _ (List.mem_of_getElem? (i := 68) rfl)) rfl
theorem w_69 : Cond.selects RX13 yX13_readLine yX13_readLine ∈ tblG := tgm (List.mem_append_left _ (List.mem_of_getElem? (i := 69) rfl)) rfl
theorem w_70 : Cond.selects RX13 yX13_isWord yX13_isWord ∈ tblG := tgm (List.mem_append_left _ (List.mem_of_getElem? (i := 70) rfl)) rfl
theorem w_71 : Cond.selects RX13 yX13_readTangle yX13_readTangle ∈ tblG := tgm (List.mem_append_left _ (List.mem_of_getElem? (i := 71) rfl)) rfl
theorem w_72 : Cond.selects RX13 yX13_flaw yX13_flaw ∈ tblG := tgm (List.mem_append_left _ (List.mem_of_getElem? (i := 72) rfl)) rfl
theorem w_73 : Cond.selects RX13 yX13_readPart yX13_readPart ∈ tblG := tgm (List.mem_append_left _ (List.mem_of_getElem? (i := 73) rfl)) rfl
theorem w_74 : Cond.selects RX13 yX13_needs yX13_needs ∈ tblG := tgm (List.mem_append_left _ (List.mem_of_getElem? (i := 74) rfl)) rfl
theorem w_75 : Cond.selects RX13 yX13_bounded yX13_bounded ∈ tblG := tgm (List.mem_append_left _ (List.mem_of_getElem? (i := 75) rfl)) rfl
theorem w_76 : Cond.selects RX13 yX13_eatsWord yX13_eatsWord ∈ tblG := tgm (List.mem_append_left _ (List.mem_of_getElem? (i := 76) rfl)) rfl
theorem w_77 : Cond.selects RX13 yX13_readPerson yX13_readPerson ∈ tblG := tgm (List.mem_append_left _ (List.mem_of_getElem? (i := 77) rfl)) rfl
theorem w_78 : Cond.selects RX13 yX13_begins yX13_begins ∈ tblG := tgm (List.mem_append_left _ (List.mem_of_getElem? (i := 78) rfl)) rfl
theorem w_79 : Cond.selects RX13 yX13_readFresh yX13_readFresh ∈ tblG := tgm (List.mem_append_left _ (List.mem_of_getElem? (i := 79) rfl)) rfl
theorem w_80 : Cond.selects RX13 yX13_isName yX13_isName ∈ tblG := tgm (List.mem_append_left _ (List.mem_of_getElem? (i := 80) rfl)) rfl
theorem w_81 : Cond.selects RX13 yX13_names yX13_names ∈ tblG := tgm (List.mem_append_left _ (List.mem_of_getElem? (i := 81) rfl)) rfl
theorem w_82 : Cond.selects RX13 yX13_readHold yX13_readHold ∈ tblG := tgm (List.mem_append_left _ (List.mem_of_getElem? (i := 82) rfl)) rfl
theorem w_83 : Cond.selects RX13 yX13_known yX13_known ∈ tblG := tgm (List.mem_append_left _ (List.mem_of_getElem? (i := 83) rfl)) rfl
theorem w_84 : Cond.selects RX13 yX13_readHand yX13_readHand ∈ tblG := tgm (List.mem_append_left _ (List.mem_of_getElem? (i := 84) rfl)) rfl
theorem w_85 : Cond.selects RX13 yX13_isHeld yX13_isHeld ∈ tblG := tgm (List.mem_append_left _ (List.mem_of_getElem? (i := 85) rfl)) rfl
theorem w_86 : Cond.selects RX13 yX13_readCross yX13_readCross ∈ tblG := tgm (List.mem_append_left _ (List.mem_of_getElem? (i := 86) rfl)) rfl
theorem w_87 : Cond.selects RX13 yX13_readPlace yX13_readPlace ∈ tblG := tgm (List.mem_append_left _ (List.mem_of_getElem? (i := 87) rfl)) rfl
theorem w_88 : Cond.selects RX13 yX13_eatsSemicolon yX13_eatsSemicolon ∈ tblG := tgm (List.mem_append_left _ (List.mem_of_getElem? (i := 88) rfl)) rfl
theorem w_89 : Cond.selects RX12 yX12_laysRing yX12_laysRing ∈ tblG := tgm (List.mem_append_left _ (List.mem_of_getElem? (i := 89) rfl)) rfl
theorem w_90 : Cond.selects RX12 yX12_laysStandings yX12_laysStandings ∈ tblG := tgm (List.mem_append_left _ (List.mem_of_getElem? (i := 90) rfl)) rfl
theorem w_91 : Cond.selects RX12 yX12_stands yX12_stands ∈ tblG := tgm (List.mem_append_left _ (List.mem_of_getElem? (i := 91) rfl)) rfl
theorem w_92 : Cond.selects RX13 yX13_good yX13_good ∈ tblG := tgm (List.mem_append_left _ (List.mem_of_getElem? (i := 92) rfl)) rfl
theorem w_93 : Cond.selects RX13 yX13_isPerson yX13_isPerson ∈ tblG := tgm (List.mem_append_left _ (List.mem_of_getElem? (i := 93) rfl)) rfl
theorem w_94 : Cond.selects RX13 yX13_isRing yX13_isRing ∈ tblG := tgm (List.mem_append_left _ (List.mem_of_getElem? (i := 94) rfl)) rfl
theorem w_95 : Cond.selects RX13 yX13_isLink yX13_isLink ∈ tblG := tgm (List.mem_append_left _ (List.mem_of_getElem? (i := 95) rfl)) rfl
theorem w_96 : Cond.selects RX13 yX13_isStanding yX13_isStanding ∈ tblG := tgm (List.mem_append_left _ (List.mem_of_getElem? (i := 96) rfl)) rfl
theorem w_97 : Cond.selects RX13 yX13_lost yX13_lost ∈ tblG := tgm (List.mem_append_left _ (List.mem_of_getElem? (i := 97) rfl)) rfl
theorem w_98 : Cond.selects RX13 yX13_isLeft yX13_isLeft ∈ tblG := tgm (List.mem_append_left _ (List.mem_of_getElem? (i := 98) rfl)) rfl
theorem w_99 : Cond.selects RX13 yX13_looks yX13_looks ∈ tblG := tgm (List.mem_append_left _ (List.mem_of_getElem? (i := 99) rfl)) rfl
theorem w_100 : Cond.selects RX13 yX13_nextFrom yX13_nextFrom ∈ tblG := tgm (List.mem_append_left _ (List.mem_of_getElem? (i := 100) rfl)) rfl
theorem w_101 : Cond.selects RX13 yX13_isOpen yX13_isOpen ∈ tblG := tgm (List.mem_append_left _ (List.mem_of_getElem? (i := 101) rfl)) rfl
theorem w_102 : Cond.selects RX13 yX13_signNow yX13_signNow ∈ tblG := tgm (List.mem_append_left _ (List.mem_of_getElem? (i := 102) rfl)) rfl
theorem w_103 : Cond.selects RX13 yX13_leftIn yX13_leftIn ∈ tblG := tgm (List.mem_append_left _ (List.mem_of_getElem? (i := 103) rfl)) rfl
theorem w_104 : Cond.selects RX13 yX13_isMove yX13_isMove ∈ tblG := tgm (List.mem_append_left _ (List.mem_of_getElem? (i := 104) rfl)) rfl
theorem w_105 : Cond.selects RX13 yX13_mayMove yX13_mayMove ∈ tblG := tgm (List.mem_append_left _ (List.mem_of_getElem? (i := 105) rfl)) rfl
theorem w_106 : Cond.selects RX13 yX13_can yX13_can ∈ tblG := tgm (List.mem_append_left _ (List.mem_of_getElem? (i := 106) rfl)) rfl
theorem w_107 : Cond.selects RX13 yX13_areBeside yX13_areBeside ∈ tblG := tgm (List.mem_append_left _ (List.mem_of_getElem? (i := 107) rfl)) rfl
theorem w_108 : Cond.selects RX13 yX13_goerOf yX13_goerOf ∈ tblG := tgm (List.mem_append_left _ (List.mem_of_getElem? (i := 108) rfl)) rfl
theorem w_109 : Cond.selects RX13 yX13_nextMay yX13_nextMay ∈ tblG := tgm (List.mem_append_left _ (List.mem_of_getElem? (i := 109) rfl)) rfl
theorem w_110 : Cond.selects RX13 yX13_nextMove yX13_nextMove ∈ tblG := tgm (List.mem_append_left _ (List.mem_of_getElem? (i := 110) rfl)) rfl
theorem w_111 : Cond.selects RX13 yX13_fewestFrom yX13_fewestFrom ∈ tblG := tgm (List.mem_append_left _ (List.mem_of_getElem? (i := 111) rfl)) rfl
theorem w_112 : Cond.selects RX13 yX13_comes yX13_comes ∈ tblG := tgm (List.mem_append_left _ (List.mem_of_getElem? (i := 112) rfl)) rfl
theorem w_113 : Cond.selects RX13 yX13_goesOnFrom yX13_goesOnFrom ∈ tblG := tgm (List.mem_append_left _ (List.mem_of_getElem? (i := 113) rfl)) rfl
theorem w_114 : Cond.selects RX13 yX13_behind yX13_behind ∈ tblG := tgm (List.mem_append_left _ (List.mem_of_getElem? (i := 114) rfl)) rfl
theorem w_115 : Cond.selects RX13 yX13_without yX13_without ∈ tblG := tgm (List.mem_append_left _ (List.mem_of_getElem? (i := 115) rfl)) rfl
theorem w_116 : Cond.selects RX13 yX13_changed yX13_changed ∈ tblG := tgm (List.mem_append_left _ (List.mem_of_getElem? (i := 116) rfl)) rfl
theorem w_117 : Cond.selects RX13 yX13_callerNow yX13_callerNow ∈ tblG := tgm (List.mem_append_left _ (List.mem_of_getElem? (i := 117) rfl)) rfl
theorem w_118 : Cond.selects RX13 yX13_leastBehind yX13_leastBehind ∈ tblG := tgm (List.mem_append_left _ (List.mem_of_getElem? (i := 118) rfl)) rfl
theorem w_119 : Cond.selects RX13 yX13_hangNow yX13_hangNow ∈ tblG := tgm (List.mem_append_left _ (List.mem_of_getElem? (i := 119) rfl)) rfl
theorem w_120 : Cond.selects RX13 yX13_coloursNow yX13_coloursNow ∈ tblG := tgm (List.mem_append_left _ (List.mem_of_getElem? (i := 120) rfl)) rfl
theorem w_121 : Cond.selects RX13 yX13_laysArcs yX13_laysArcs ∈ tblG := tgm (List.mem_append_left _ (List.mem_of_getElem? (i := 121) rfl)) rfl
theorem w_122 : Cond.selects RX13 yX13_laysArcsOf yX13_laysArcsOf ∈ tblG := tgm (List.mem_append_left _ (List.mem_of_getElem? (i := 122) rfl)) rfl
theorem w_123 : Cond.selects RX13 yX13_adds yX13_adds ∈ tblG := tgm (List.mem_append_left _ (List.mem_of_getElem? (i := 123) rfl)) rfl
theorem w_124 : Cond.selects RX13 yX13_partedFrom yX13_partedFrom ∈ tblG := tgm (List.mem_append_left _ (List.mem_of_getElem? (i := 124) rfl)) rfl
theorem w_125 : Cond.selects RX13 yX13_liftedFrom yX13_liftedFrom ∈ tblG := tgm (List.mem_append_left _ (List.mem_of_getElem? (i := 125) rfl)) rfl
theorem w_126 : Cond.selects RX13 yX13_isCrossing yX13_isCrossing ∈ tblG := tgm (List.mem_append_left _ (List.mem_of_getElem? (i := 126) rfl)) rfl
theorem w_127 : Cond.selects RX13 yX13_keeps yX13_keeps ∈ tblG := tgm (List.mem_append_left _ (List.mem_of_getElem? (i := 127) rfl)) rfl
theorem w_128 : Cond.selects RX13 yX13_comesAll yX13_comesAll ∈ tblG := tgm (List.mem_append_left _ (List.mem_of_getElem? (i := 128) rfl)) rfl
theorem w_129 : Cond.selects RX13 yX13_seesIn yX13_seesIn ∈ tblG := tgm (List.mem_append_left _ (List.mem_of_getElem? (i := 129) rfl)) rfl
theorem w_130 : Cond.selects RX13 yX13_ownIn yX13_ownIn ∈ tblG := tgm (List.mem_append_left _ (List.mem_of_getElem? (i := 130) rfl)) rfl
theorem w_131 : Cond.selects RX13 yX13_lotFrom yX13_lotFrom ∈ tblG := tgm (List.mem_append_left _ (List.mem_of_getElem? (i := 131) rfl)) rfl
theorem w_132 : Cond.selects RX13 yX13_laysWays yX13_laysWays ∈ tblG := tgm (List.mem_append_left _ (List.mem_of_getElem? (i := 132) rfl)) rfl
theorem w_133 : Cond.selects RX13 yX13_waysNow yX13_waysNow ∈ tblG := tgm (List.mem_append_left _ (List.mem_of_getElem? (i := 133) rfl)) rfl
theorem w_134 : Cond.selects RX13 yX13_allWays yX13_allWays ∈ tblG := tgm (List.mem_append_left _ (List.mem_of_getElem? (i := 134) rfl)) rfl
theorem w_135 : Cond.selects RX13 yX13_told yX13_told ∈ tblG := tgm (List.mem_append_left _ (List.mem_of_getElem? (i := 135) rfl)) rfl
theorem w_136 : Cond.selects RX13 yX13_denied yX13_denied ∈ tblG := tgm (List.mem_append_left _ (List.mem_of_getElem? (i := 136) rfl)) rfl
theorem w_137 : Cond.selects RX13 yX13_granted yX13_granted ∈ tblG := tgm (List.mem_append_left _ (List.mem_of_getElem? (i := 137) rfl)) rfl
theorem w_138 : Cond.initialized "HandKnotLaw" ∈ tblG := tgm (in_t1 _ (List.mem_of_getElem? (i := 0) rfl)) rfl
theorem w_139 : Cond.initialized RX11 ∈ tblG := tgm (in_t1 _ (List.mem_of_getElem? (i := 1) rfl)) rfl
theorem w_140 : Cond.initialized RX5 ∈ tblG := tgm (in_t1 _ (List.mem_of_getElem? (i := 2) rfl)) rfl
theorem w_141 : Cond.initialized RX8 ∈ tblG := tgm (in_t1 _ (List.mem_of_getElem? (i := 3) rfl)) rfl
theorem w_142 : Cond.initialized "java/lang/String" ∈ tblG := tgm (in_t1 _ (List.mem_of_getElem? (i := 4) rfl)) rfl
theorem w_143 : Cond.initialized "java/lang/StringLatin1" ∈ tblG := tgm (in_t1 _ (List.mem_of_getElem? (i := 5) rfl)) rfl
theorem w_144 : Cond.initialized "jdk/internal/util/Preconditions" ∈ tblG := tgm (in_t1 _ (List.mem_of_getElem? (i := 6) rfl)) rfl
theorem w_145 : Cond.initialized "java/lang/StringUTF16" ∈ tblG := tgm (in_t1 _ (List.mem_of_getElem? (i := 7) rfl)) rfl
theorem w_146 : Cond.initialized RX9 ∈ tblG := tgm (in_t1 _ (List.mem_of_getElem? (i := 8) rfl)) rfl
theorem w_147 : Cond.initialized RX6 ∈ tblG := tgm (in_t1 _ (List.mem_of_getElem? (i := 9) rfl)) rfl
theorem w_148 : Cond.initialized RX4 ∈ tblG := tgm (in_t1 _ (List.mem_of_getElem? (i := 10) rfl)) rfl
theorem w_149 : Cond.initialized RX3 ∈ tblG := tgm (in_t1 _ (List.mem_of_getElem? (i := 11) rfl)) rfl
theorem w_150 : Cond.initialized RX0 ∈ tblG := tgm (in_t1 _ (List.mem_of_getElem? (i := 12) rfl)) rfl
theorem w_151 : Cond.initialized RX7 ∈ tblG := tgm (in_t1 _ (List.mem_of_getElem? (i := 13) rfl)) rfl
theorem w_152 : Cond.initialized RX10 ∈ tblG := tgm (in_t1 _ (List.mem_of_getElem? (i := 14) rfl)) rfl
theorem w_153 : Cond.initialized RX2 ∈ tblG := tgm (in_t1 _ (List.mem_of_getElem? (i := 15) rfl)) rfl
theorem w_154 : Cond.initialized RX1 ∈ tblG := tgm (in_t1 _ (List.mem_of_getElem? (i := 16) rfl)) rfl
theorem w_155 : Cond.initialized RX13 ∈ tblG := tgm (in_t1 _ (List.mem_of_getElem? (i := 17) rfl)) rfl
theorem w_156 : Cond.initialized "java/lang/Math" ∈ tblG := tgm (in_t1 _ (List.mem_of_getElem? (i := 18) rfl)) rfl
theorem w_157 : Cond.initialized "java/util/Arrays" ∈ tblG := tgm (in_t1 _ (List.mem_of_getElem? (i := 19) rfl)) rfl
theorem w_158 : Cond.initialized "java/lang/System" ∈ tblG := tgm (in_t1 _ (List.mem_of_getElem? (i := 20) rfl)) rfl
theorem w_159 : Cond.initialized RX12 ∈ tblG := tgm (in_t1 _ (List.mem_of_getElem? (i := 21) rfl)) rfl
theorem w_160 : Cond.initialized "java/lang/Throwable" ∈ tblG := tgm (in_t1 _ (List.mem_of_getElem? (i := 22) rfl)) rfl
theorem w_161 : Cond.initialized "java/lang/Exception" ∈ tblG := tgm (in_t1 _ (List.mem_of_getElem? (i := 23) rfl)) rfl
theorem w_162 : Cond.initialized "java/lang/RuntimeException" ∈ tblG := tgm (in_t1 _ (List.mem_of_getElem? (i := 24) rfl)) rfl
theorem w_163 : Cond.initialized "java/util/NoSuchElementException" ∈ tblG := tgm (in_t1 _ (List.mem_of_getElem? (i := 25) rfl)) rfl
theorem w_166 : Cond.methodLink "HandKnotLaw" 15 yX11_init ∈ tblG := tgm (in_t1 _ (List.mem_of_getElem? (i := 28) rfl)) rfl
theorem w_167 : Cond.instanceMethod yX11_init ∈ tblG := tgm (in_t1 _ (List.mem_of_getElem? (i := 29) rfl)) rfl
theorem w_168 : Cond.code yX11_init cX11_init 1 none ∈ tblG := tgm (in_t1 _ (List.mem_of_getElem? (i := 30) rfl)) rfl
theorem w_174 : Cond.methodLink RX11 9 yX5_init ∈ tblG := tgm (in_t1 _ (List.mem_of_getElem? (i := 36) rfl)) rfl
theorem w_175 : Cond.instanceMethod yX5_init ∈ tblG := tgm (in_t1 _ (List.mem_of_getElem? (i := 37) rfl)) rfl
theorem w_176 : Cond.code yX5_init cX5_init 1 none ∈ tblG := tgm (in_t1 _ (List.mem_of_getElem? (i := 38) rfl)) rfl
theorem w_180 : Cond.methodLink RX5 11 yX8_init ∈ tblG := tgm (in_t1 _ (List.mem_of_getElem? (i := 42) rfl)) rfl
theorem w_181 : Cond.instanceMethod yX8_init ∈ tblG := tgm (in_t1 _ (List.mem_of_getElem? (i := 43) rfl)) rfl
theorem w_182 : Cond.code yX8_init cX8_init 1 none ∈ tblG := tgm (in_t1 _ (List.mem_of_getElem? (i := 44) rfl)) rfl
theorem w_185 : Cond.methodLink RX8 31 yX8_spelling ∈ tblG := tgm (in_t1 _ (List.mem_of_getElem? (i := 47) rfl)) rfl
theorem w_186 : Cond.static yX8_spelling ∈ tblG := tgm (in_t1 _ (List.mem_of_getElem? (i := 48) rfl)) rfl
theorem w_187 : Cond.code yX8_spelling cX8_spelling 4 (some .long) ∈ tblG := tgm (in_t1 _ (List.mem_of_getElem? (i := 49) rfl)) rfl
theorem w_188 : Cond.methodLink RX8 55 yJ0_length_8abf5 ∈ tblG := tgm (in_t1 _ (List.mem_of_getElem? (i := 50) rfl)) rfl
theorem w_189 : Cond.instanceMethod yJ0_length_8abf5 ∈ tblG := tgm (in_t1 _ (List.mem_of_getElem? (i := 51) rfl)) rfl
theorem w_190 : Cond.selects "java/lang/String" yJ0_length_8abf5 yJ0_length_8abf5 ∈ tblG := tgm (in_t1 _ (List.mem_of_getElem? (i := 52) rfl)) rfl
theorem w_191 : Cond.code yJ0_length_8abf5 cJ0_length_8abf5 1 (some .int) ∈ tblG := tgm (in_t1 _ (List.mem_of_getElem? (i := 53) rfl)) rfl
theorem w_192 : Cond.methodLink "java/lang/String" 335 yJ0_coder_7d493 ∈ tblG := tgm (in_t1 _ (List.mem_of_getElem? (i := 54) rfl)) rfl
theorem w_193 : Cond.instanceMethod yJ0_coder_7d493 ∈ tblG := tgm (in_t1 _ (List.mem_of_getElem? (i := 55) rfl)) rfl
theorem w_194 : Cond.selects "java/lang/String" yJ0_coder_7d493 yJ0_coder_7d493 ∈ tblG := tgm (in_t1 _ (List.mem_of_getElem? (i := 56) rfl)) rfl
theorem w_195 : Cond.code yJ0_coder_7d493 cJ0_coder_7d493 1 (some .byte) ∈ tblG := tgm (in_t1 _ (List.mem_of_getElem? (i := 57) rfl)) rfl
theorem w_196 : Cond.fieldLink "java/lang/String" 38 "java/lang/String" "COMPACT_STRINGS" "Z" ∈ tblG := tgm (in_t1 _ (List.mem_of_getElem? (i := 58) rfl)) rfl
theorem w_198 : Cond.methodLink RX8 61 yJ0_charAt_5068e ∈ tblG := tgm (in_t1 _ (List.mem_of_getElem? (i := 60) rfl)) rfl
theorem w_199 : Cond.instanceMethod yJ0_charAt_5068e ∈ tblG := tgm (in_t1 _ (List.mem_of_getElem? (i := 61) rfl)) rfl
theorem w_200 : Cond.selects "java/lang/String" yJ0_charAt_5068e yJ0_charAt_5068e ∈ tblG := tgm (in_t1 _ (List.mem_of_getElem? (i := 62) rfl)) rfl
theorem w_201 : Cond.code yJ0_charAt_5068e cJ0_charAt_5068e 2 (some .char) ∈ tblG := tgm (in_t1 _ (List.mem_of_getElem? (i := 63) rfl)) rfl
theorem w_202 : Cond.methodLink "java/lang/String" 492 yJ0_isLatin1_aae02 ∈ tblG := tgm (in_t1 _ (List.mem_of_getElem? (i := 64) rfl)) rfl
theorem w_203 : Cond.instanceMethod yJ0_isLatin1_aae02 ∈ tblG := tgm (in_t1 _ (List.mem_of_getElem? (i := 65) rfl)) rfl
theorem w_204 : Cond.selects "java/lang/String" yJ0_isLatin1_aae02 yJ0_isLatin1_aae02 ∈ tblG := tgm (in_t1 _ (List.mem_of_getElem? (i := 66) rfl)) rfl
theorem w_205 : Cond.code yJ0_isLatin1_aae02 cJ0_isLatin1_aae02 1 (some .boolean) ∈ tblG := tgm (in_t1 _ (List.mem_of_getElem? (i := 67) rfl)) rfl
theorem w_206 : Cond.methodLink "java/lang/String" 495 yJ1_charAt_3b067 ∈ tblG := tgm (in_t1 _ (List.mem_of_getElem? (i := 68) rfl)) rfl
theorem w_207 : Cond.static yJ1_charAt_3b067 ∈ tblG := tgm (in_t1 _ (List.mem_of_getElem? (i := 69) rfl)) rfl
theorem w_208 : Cond.code yJ1_charAt_3b067 cJ1_charAt_3b067 2 (some .char) ∈ tblG := tgm (in_t1 _ (List.mem_of_getElem? (i := 70) rfl)) rfl
theorem w_209 : Cond.methodLink "java/lang/StringLatin1" 9 yJ0_checkIndex_df160 ∈ tblG := tgm (in_t1 _ (List.mem_of_getElem? (i := 71) rfl)) rfl
theorem w_210 : Cond.static yJ0_checkIndex_df160 ∈ tblG := tgm (in_t1 _ (List.mem_of_getElem? (i := 72) rfl)) rfl
theorem w_211 : Cond.code yJ0_checkIndex_df160 cJ0_checkIndex_df160 2 none ∈ tblG := tgm (in_t1 _ (List.mem_of_getElem? (i := 73) rfl)) rfl
theorem w_212 : Cond.fieldLink "java/lang/String" 1053 "jdk/internal/util/Preconditions" "SIOOBE_FORMATTER" "Ljava/util/function/BiFunction;" ∈ tblG := tgm (in_t1 _ (List.mem_of_getElem? (i := 74) rfl)) rfl
theorem w_214 : Cond.methodLink "java/lang/String" 1059 yJ3_checkIndex_8e157 ∈ tblG := tgm (in_t1 _ (List.mem_of_getElem? (i := 76) rfl)) rfl
theorem w_215 : Cond.static yJ3_checkIndex_8e157 ∈ tblG := tgm (in_t1 _ (List.mem_of_getElem? (i := 77) rfl)) rfl
theorem w_216 : Cond.code yJ3_checkIndex_8e157 cJ3_checkIndex_8e157 3 (some .int) ∈ tblG := tgm (in_t1 _ (List.mem_of_getElem? (i := 78) rfl)) rfl
theorem w_217 : Cond.methodLink "java/lang/String" 498 yJ2_charAt_3b067 ∈ tblG := tgm (in_t1 _ (List.mem_of_getElem? (i := 79) rfl)) rfl
theorem w_218 : Cond.static yJ2_charAt_3b067 ∈ tblG := tgm (in_t1 _ (List.mem_of_getElem? (i := 80) rfl)) rfl
theorem w_219 : Cond.code yJ2_charAt_3b067 cJ2_charAt_3b067 2 (some .char) ∈ tblG := tgm (in_t1 _ (List.mem_of_getElem? (i := 81) rfl)) rfl
theorem w_220 : Cond.methodLink "java/lang/StringUTF16" 67 yJ2_checkIndex_2214a ∈ tblG := tgm (in_t1 _ (List.mem_of_getElem? (i := 82) rfl)) rfl
theorem w_221 : Cond.static yJ2_checkIndex_2214a ∈ tblG := tgm (in_t1 _ (List.mem_of_getElem? (i := 83) rfl)) rfl
theorem w_222 : Cond.code yJ2_checkIndex_2214a cJ2_checkIndex_2214a 2 none ∈ tblG := tgm (in_t1 _ (List.mem_of_getElem? (i := 84) rfl)) rfl
theorem w_223 : Cond.methodLink "java/lang/StringUTF16" 48 yJ2_length_9d52b ∈ tblG := tgm (in_t1 _ (List.mem_of_getElem? (i := 85) rfl)) rfl
theorem w_224 : Cond.static yJ2_length_9d52b ∈ tblG := tgm (in_t1 _ (List.mem_of_getElem? (i := 86) rfl)) rfl
theorem w_225 : Cond.code yJ2_length_9d52b cJ2_length_9d52b 1 (some .int) ∈ tblG := tgm (in_t1 _ (List.mem_of_getElem? (i := 87) rfl)) rfl
theorem w_226 : Cond.methodLink "java/lang/StringUTF16" 414 yJ0_checkIndex_df160 ∈ tblG := tgm (in_t1 _ (List.mem_of_getElem? (i := 88) rfl)) rfl
theorem w_227 : Cond.methodLink "java/lang/StringUTF16" 71 yJ2_getChar_3b067 ∈ tblG := tgm (in_t1 _ (List.mem_of_getElem? (i := 89) rfl)) rfl
theorem w_228 : Cond.static yJ2_getChar_3b067 ∈ tblG := tgm (in_t1 _ (List.mem_of_getElem? (i := 90) rfl)) rfl
theorem w_229 : Cond.code yJ2_getChar_3b067 cJ2_getChar_3b067 2 (some .char) ∈ tblG := tgm (in_t1 _ (List.mem_of_getElem? (i := 91) rfl)) rfl
theorem w_230 : Cond.fieldLink "java/lang/StringUTF16" 44 "java/lang/StringUTF16" "$assertionsDisabled" "Z" ∈ tblG := tgm (in_t1 _ (List.mem_of_getElem? (i := 92) rfl)) rfl
theorem w_232 : Cond.fieldLink "java/lang/StringUTF16" 59 "java/lang/StringUTF16" "HI_BYTE_SHIFT" "I" ∈ tblG := tgm (in_t1 _ (List.mem_of_getElem? (i := 94) rfl)) rfl
theorem w_234 : Cond.fieldLink "java/lang/StringUTF16" 63 "java/lang/StringUTF16" "LO_BYTE_SHIFT" "I" ∈ tblG := tgm (in_t1 _ (List.mem_of_getElem? (i := 96) rfl)) rfl
theorem w_236 : Cond.methodLink RX8 65 yX8_withLetter ∈ tblG := tgm (in_t1 _ (List.mem_of_getElem? (i := 98) rfl)) rfl
theorem w_237 : Cond.static yX8_withLetter ∈ tblG := tgm (in_t1 _ (List.mem_of_getElem? (i := 99) rfl)) rfl
theorem w_238 : Cond.code yX8_withLetter cX8_withLetter 3 (some .long) ∈ tblG := tgm (in_t1 _ (List.mem_of_getElem? (i := 100) rfl)) rfl
theorem w_249 : Cond.fieldLink RX8 9 "HandKnot$Tape" "bytes" "[I" ∈ tblG := tgm (in_t1 _ (List.mem_of_getElem? (i := 111) rfl)) rfl
theorem w_250 : Cond.fieldLink RX8 69 "HandKnot$Tape" "filled" "I" ∈ tblG := tgm (in_t1 _ (List.mem_of_getElem? (i := 112) rfl)) rfl
theorem w_252 : Cond.fieldLink RX8 13 "HandKnot$Tape" "words" "[J" ∈ tblG := tgm (in_t1 _ (List.mem_of_getElem? (i := 114) rfl)) rfl
theorem w_253 : Cond.fieldLink RX8 17 "HandKnot$Tape" "kinds" "[I" ∈ tblG := tgm (in_t1 _ (List.mem_of_getElem? (i := 115) rfl)) rfl
theorem w_255 : Cond.fieldLink RX8 20 "HandKnot$Tape" "starts" "[I" ∈ tblG := tgm (in_t1 _ (List.mem_of_getElem? (i := 117) rfl)) rfl
theorem w_257 : Cond.fieldLink RX8 23 "HandKnot$Tape" "values" "[I" ∈ tblG := tgm (in_t1 _ (List.mem_of_getElem? (i := 119) rfl)) rfl
theorem w_259 : Cond.fieldLink RX8 26 "HandKnot$Tape" "spellings" "[J" ∈ tblG := tgm (in_t1 _ (List.mem_of_getElem? (i := 121) rfl)) rfl
theorem w_262 : Cond.fieldLink RX8 79 "HandKnot$Tape" "count" "I" ∈ tblG := tgm (in_t1 _ (List.mem_of_getElem? (i := 124) rfl)) rfl
theorem w_285 : Cond.methodLink RX5 20 yX9_init ∈ tblG := tgm (in_t1 _ (List.mem_of_getElem? (i := 147) rfl)) rfl
theorem w_286 : Cond.instanceMethod yX9_init ∈ tblG := tgm (in_t1 _ (List.mem_of_getElem? (i := 148) rfl)) rfl
theorem w_287 : Cond.code yX9_init cX9_init 1 none ∈ tblG := tgm (in_t1 _ (List.mem_of_getElem? (i := 149) rfl)) rfl
theorem w_289 : Cond.fieldLink RX9 37 "HandKnot$Told" "begun" "Z" ∈ tblG := tgm (in_t1 _ (List.mem_of_getElem? (i := 151) rfl)) rfl
theorem w_291 : Cond.fieldLink RX9 41 "HandKnot$Told" "once" "Z" ∈ tblG := tgm (in_t1 _ (List.mem_of_getElem? (i := 153) rfl)) rfl
theorem w_294 : Cond.fieldLink RX9 44 "HandKnot$Told" "tall" "I" ∈ tblG := tgm (in_t1 _ (List.mem_of_getElem? (i := 156) rfl)) rfl
theorem w_297 : Cond.fieldLink RX9 48 "HandKnot$Told" "people" "I" ∈ tblG := tgm (in_t1 _ (List.mem_of_getElem? (i := 159) rfl)) rfl
theorem w_300 : Cond.fieldLink RX9 51 "HandKnot$Told" "links" "I" ∈ tblG := tgm (in_t1 _ (List.mem_of_getElem? (i := 162) rfl)) rfl
theorem w_303 : Cond.fieldLink RX9 54 "HandKnot$Told" "crossings" "I" ∈ tblG := tgm (in_t1 _ (List.mem_of_getElem? (i := 165) rfl)) rfl
theorem w_306 : Cond.fieldLink RX9 57 "HandKnot$Told" "plus" "I" ∈ tblG := tgm (in_t1 _ (List.mem_of_getElem? (i := 168) rfl)) rfl
theorem w_308 : Cond.fieldLink RX9 9 "HandKnot$Told" "personNames" "[J" ∈ tblG := tgm (in_t1 _ (List.mem_of_getElem? (i := 170) rfl)) rfl
theorem w_309 : Cond.fieldLink RX9 15 "HandKnot$Told" "talls" "[I" ∈ tblG := tgm (in_t1 _ (List.mem_of_getElem? (i := 171) rfl)) rfl
theorem w_311 : Cond.fieldLink RX9 19 "HandKnot$Told" "linkNames" "[J" ∈ tblG := tgm (in_t1 _ (List.mem_of_getElem? (i := 173) rfl)) rfl
theorem w_312 : Cond.fieldLink RX9 22 "HandKnot$Told" "handAt" "[I" ∈ tblG := tgm (in_t1 _ (List.mem_of_getElem? (i := 174) rfl)) rfl
theorem w_314 : Cond.fieldLink RX9 25 "HandKnot$Told" "linkIn" "[I" ∈ tblG := tgm (in_t1 _ (List.mem_of_getElem? (i := 176) rfl)) rfl
theorem w_316 : Cond.fieldLink RX9 28 "HandKnot$Told" "passes" "[I" ∈ tblG := tgm (in_t1 _ (List.mem_of_getElem? (i := 178) rfl)) rfl
theorem w_317 : Cond.fieldLink RX9 31 "HandKnot$Told" "linkUnder" "[I" ∈ tblG := tgm (in_t1 _ (List.mem_of_getElem? (i := 179) rfl)) rfl
theorem w_319 : Cond.fieldLink RX9 34 "HandKnot$Told" "linkOver" "[I" ∈ tblG := tgm (in_t1 _ (List.mem_of_getElem? (i := 181) rfl)) rfl
theorem w_352 : Cond.fieldLink RX5 12 "HandKnot$Reader" "tape" "LHandKnot$Tape;" ∈ tblG := tgm (in_t1 _ (List.mem_of_getElem? (i := 214) rfl)) rfl
theorem w_354 : Cond.fieldLink RX5 21 "HandKnot$Reader" "told" "LHandKnot$Told;" ∈ tblG := tgm (in_t1 _ (List.mem_of_getElem? (i := 216) rfl)) rfl
theorem w_356 : Cond.fieldLink RX5 32 "HandKnot$Reader" "fault" "I" ∈ tblG := tgm (in_t1 _ (List.mem_of_getElem? (i := 218) rfl)) rfl
theorem w_358 : Cond.fieldLink RX5 36 "HandKnot$Reader" "place" "I" ∈ tblG := tgm (in_t1 _ (List.mem_of_getElem? (i := 220) rfl)) rfl
theorem w_360 : Cond.fieldLink RX5 39 "HandKnot$Reader" "token" "I" ∈ tblG := tgm (in_t1 _ (List.mem_of_getElem? (i := 222) rfl)) rfl
theorem w_361 : Cond.fieldLink RX5 99 "HandKnot$Reader" "taken" "I" ∈ tblG := tgm (in_t1 _ (List.mem_of_getElem? (i := 223) rfl)) rfl
theorem w_362 : Cond.fieldLink RX5 114 "HandKnot$Reader" "name" "J" ∈ tblG := tgm (in_t1 _ (List.mem_of_getElem? (i := 224) rfl)) rfl
theorem w_380 : Cond.methodLink RX11 18 yX6_init ∈ tblG := tgm (in_t2 _ (List.mem_of_getElem? (i := 2) rfl)) rfl
theorem w_381 : Cond.instanceMethod yX6_init ∈ tblG := tgm (in_t2 _ (List.mem_of_getElem? (i := 3) rfl)) rfl
theorem w_382 : Cond.code yX6_init cX6_init 1 none ∈ tblG := tgm (in_t2 _ (List.mem_of_getElem? (i := 4) rfl)) rfl
theorem w_384 : Cond.fieldLink RX6 55 "HandKnot$Rings" "people" "I" ∈ tblG := tgm (in_t2 _ (List.mem_of_getElem? (i := 6) rfl)) rfl
theorem w_387 : Cond.fieldLink RX6 59 "HandKnot$Rings" "links" "I" ∈ tblG := tgm (in_t2 _ (List.mem_of_getElem? (i := 9) rfl)) rfl
theorem w_390 : Cond.fieldLink RX6 63 "HandKnot$Rings" "crossings" "I" ∈ tblG := tgm (in_t2 _ (List.mem_of_getElem? (i := 12) rfl)) rfl
theorem w_393 : Cond.fieldLink RX6 73 "HandKnot$Rings" "standings" "I" ∈ tblG := tgm (in_t2 _ (List.mem_of_getElem? (i := 15) rfl)) rfl
theorem w_396 : Cond.fieldLink RX6 46 "HandKnot$Rings" "count" "I" ∈ tblG := tgm (in_t2 _ (List.mem_of_getElem? (i := 18) rfl)) rfl
theorem w_399 : Cond.fieldLink RX6 67 "HandKnot$Rings" "tall" "I" ∈ tblG := tgm (in_t2 _ (List.mem_of_getElem? (i := 21) rfl)) rfl
theorem w_401 : Cond.fieldLink RX6 72 "HandKnot$Rings" "once" "Z" ∈ tblG := tgm (in_t2 _ (List.mem_of_getElem? (i := 23) rfl)) rfl
theorem w_403 : Cond.fieldLink RX6 76 "HandKnot$Rings" "key" "J" ∈ tblG := tgm (in_t2 _ (List.mem_of_getElem? (i := 25) rfl)) rfl
theorem w_405 : Cond.fieldLink RX6 134 "HandKnot$Rings" "plus" "I" ∈ tblG := tgm (in_t2 _ (List.mem_of_getElem? (i := 27) rfl)) rfl
theorem w_407 : Cond.fieldLink RX6 9 "HandKnot$Rings" "members" "[I" ∈ tblG := tgm (in_t2 _ (List.mem_of_getElem? (i := 29) rfl)) rfl
theorem w_409 : Cond.fieldLink RX6 15 "HandKnot$Rings" "firstMember" "[I" ∈ tblG := tgm (in_t2 _ (List.mem_of_getElem? (i := 31) rfl)) rfl
theorem w_411 : Cond.fieldLink RX6 18 "HandKnot$Rings" "firstStanding" "[I" ∈ tblG := tgm (in_t2 _ (List.mem_of_getElem? (i := 33) rfl)) rfl
theorem w_413 : Cond.fieldLink RX6 21 "HandKnot$Rings" "partner" "[I" ∈ tblG := tgm (in_t2 _ (List.mem_of_getElem? (i := 35) rfl)) rfl
theorem w_415 : Cond.fieldLink RX6 24 "HandKnot$Rings" "linkIn" "[I" ∈ tblG := tgm (in_t2 _ (List.mem_of_getElem? (i := 37) rfl)) rfl
theorem w_417 : Cond.fieldLink RX6 27 "HandKnot$Rings" "along" "[I" ∈ tblG := tgm (in_t2 _ (List.mem_of_getElem? (i := 39) rfl)) rfl
theorem w_419 : Cond.fieldLink RX6 30 "HandKnot$Rings" "linkRing" "[I" ∈ tblG := tgm (in_t2 _ (List.mem_of_getElem? (i := 41) rfl)) rfl
theorem w_422 : Cond.fieldLink RX6 33 "HandKnot$Rings" "linkStart" "[I" ∈ tblG := tgm (in_t2 _ (List.mem_of_getElem? (i := 44) rfl)) rfl
theorem w_424 : Cond.fieldLink RX6 36 "HandKnot$Rings" "linkGoer" "[I" ∈ tblG := tgm (in_t2 _ (List.mem_of_getElem? (i := 46) rfl)) rfl
theorem w_426 : Cond.fieldLink RX6 39 "HandKnot$Rings" "standingLink" "[I" ∈ tblG := tgm (in_t2 _ (List.mem_of_getElem? (i := 48) rfl)) rfl
theorem w_430 : Cond.fieldLink RX6 42 "HandKnot$Rings" "linkFits" "[Z" ∈ tblG := tgm (in_t2 _ (List.mem_of_getElem? (i := 52) rfl)) rfl
theorem w_476 : Cond.methodLink RX11 25 yX4_init ∈ tblG := tgm (in_t2 _ (List.mem_of_getElem? (i := 98) rfl)) rfl
theorem w_477 : Cond.instanceMethod yX4_init ∈ tblG := tgm (in_t2 _ (List.mem_of_getElem? (i := 99) rfl)) rfl
theorem w_478 : Cond.code yX4_init cX4_init 1 none ∈ tblG := tgm (in_t2 _ (List.mem_of_getElem? (i := 100) rfl)) rfl
theorem w_480 : Cond.fieldLink RX4 15 "HandKnot$Moment" "key" "J" ∈ tblG := tgm (in_t2 _ (List.mem_of_getElem? (i := 102) rfl)) rfl
theorem w_484 : Cond.fieldLink RX4 19 "HandKnot$Moment" "plus" "I" ∈ tblG := tgm (in_t2 _ (List.mem_of_getElem? (i := 106) rfl)) rfl
theorem w_488 : Cond.fieldLink RX4 9 "HandKnot$Moment" "parted" "I" ∈ tblG := tgm (in_t2 _ (List.mem_of_getElem? (i := 110) rfl)) rfl
theorem w_493 : Cond.fieldLink RX4 22 "HandKnot$Moment" "seed" "I" ∈ tblG := tgm (in_t2 _ (List.mem_of_getElem? (i := 115) rfl)) rfl
theorem w_506 : Cond.methodLink RX11 35 yX3_init ∈ tblG := tgm (in_t2 _ (List.mem_of_getElem? (i := 128) rfl)) rfl
theorem w_507 : Cond.instanceMethod yX3_init ∈ tblG := tgm (in_t2 _ (List.mem_of_getElem? (i := 129) rfl)) rfl
theorem w_508 : Cond.code yX3_init cX3_init 2 none ∈ tblG := tgm (in_t2 _ (List.mem_of_getElem? (i := 130) rfl)) rfl
theorem w_512 : Cond.methodLink RX3 20 yX4_init ∈ tblG := tgm (in_t2 _ (List.mem_of_getElem? (i := 134) rfl)) rfl
theorem w_513 : Cond.fieldLink RX3 13 "HandKnot$History" "moments" "[LHandKnot$Moment;" ∈ tblG := tgm (in_t2 _ (List.mem_of_getElem? (i := 135) rfl)) rfl
theorem w_514 : Cond.fieldLink RX3 17 "HandKnot$History" "marks" "[LHandKnot$Moment;" ∈ tblG := tgm (in_t2 _ (List.mem_of_getElem? (i := 136) rfl)) rfl
theorem w_515 : Cond.fieldLink RX3 21 "HandKnot$History" "kept" "I" ∈ tblG := tgm (in_t2 _ (List.mem_of_getElem? (i := 137) rfl)) rfl
theorem w_517 : Cond.fieldLink RX3 25 "HandKnot$History" "marked" "I" ∈ tblG := tgm (in_t2 _ (List.mem_of_getElem? (i := 139) rfl)) rfl
theorem w_519 : Cond.fieldLink RX3 28 "HandKnot$History" "free" "I" ∈ tblG := tgm (in_t2 _ (List.mem_of_getElem? (i := 141) rfl)) rfl
theorem w_533 : Cond.methodLink RX11 42 yX0_init ∈ tblG := tgm (in_t2 _ (List.mem_of_getElem? (i := 155) rfl)) rfl
theorem w_534 : Cond.instanceMethod yX0_init ∈ tblG := tgm (in_t2 _ (List.mem_of_getElem? (i := 156) rfl)) rfl
theorem w_535 : Cond.code yX0_init cX0_init 2 none ∈ tblG := tgm (in_t2 _ (List.mem_of_getElem? (i := 157) rfl)) rfl
theorem w_537 : Cond.fieldLink RX0 37 "HandKnot$Board" "rings" "LHandKnot$Rings;" ∈ tblG := tgm (in_t2 _ (List.mem_of_getElem? (i := 159) rfl)) rfl
theorem w_539 : Cond.fieldLink RX0 65 "HandKnot$Board" "key" "J" ∈ tblG := tgm (in_t2 _ (List.mem_of_getElem? (i := 161) rfl)) rfl
theorem w_540 : Cond.fieldLink RX0 66 "HandKnot$Board" "plus" "I" ∈ tblG := tgm (in_t2 _ (List.mem_of_getElem? (i := 162) rfl)) rfl
theorem w_541 : Cond.fieldLink RX0 9 "HandKnot$Board" "parted" "I" ∈ tblG := tgm (in_t2 _ (List.mem_of_getElem? (i := 163) rfl)) rfl
theorem w_543 : Cond.fieldLink RX0 79 "HandKnot$Board" "left" "I" ∈ tblG := tgm (in_t2 _ (List.mem_of_getElem? (i := 165) rfl)) rfl
theorem w_545 : Cond.fieldLink RX0 15 "HandKnot$Board" "standing" "[I" ∈ tblG := tgm (in_t2 _ (List.mem_of_getElem? (i := 167) rfl)) rfl
theorem w_546 : Cond.fieldLink RX0 19 "HandKnot$Board" "walk" "[I" ∈ tblG := tgm (in_t2 _ (List.mem_of_getElem? (i := 168) rfl)) rfl
theorem w_548 : Cond.fieldLink RX0 22 "HandKnot$Board" "walkStart" "[I" ∈ tblG := tgm (in_t2 _ (List.mem_of_getElem? (i := 170) rfl)) rfl
theorem w_550 : Cond.fieldLink RX0 25 "HandKnot$Board" "overByOver" "[I" ∈ tblG := tgm (in_t2 _ (List.mem_of_getElem? (i := 172) rfl)) rfl
theorem w_551 : Cond.fieldLink RX0 28 "HandKnot$Board" "overByUnder" "[I" ∈ tblG := tgm (in_t2 _ (List.mem_of_getElem? (i := 173) rfl)) rfl
theorem w_552 : Cond.fieldLink RX0 31 "HandKnot$Board" "underByUnder" "[I" ∈ tblG := tgm (in_t2 _ (List.mem_of_getElem? (i := 174) rfl)) rfl
theorem w_553 : Cond.fieldLink RX0 34 "HandKnot$Board" "numbers" "[I" ∈ tblG := tgm (in_t2 _ (List.mem_of_getElem? (i := 175) rfl)) rfl
theorem w_559 : Cond.fieldLink RX0 82 "HandKnot$Board" "count" "I" ∈ tblG := tgm (in_t2 _ (List.mem_of_getElem? (i := 181) rfl)) rfl
theorem w_590 : Cond.methodLink RX11 51 yX7_init ∈ tblG := tgm (in_t2 _ (List.mem_of_getElem? (i := 212) rfl)) rfl
theorem w_591 : Cond.instanceMethod yX7_init ∈ tblG := tgm (in_t2 _ (List.mem_of_getElem? (i := 213) rfl)) rfl
theorem w_592 : Cond.code yX7_init cX7_init 2 none ∈ tblG := tgm (in_t2 _ (List.mem_of_getElem? (i := 214) rfl)) rfl
theorem w_595 : Cond.methodLink RX7 27 yX0_init ∈ tblG := tgm (in_t2 _ (List.mem_of_getElem? (i := 217) rfl)) rfl
theorem w_596 : Cond.fieldLink RX7 30 "HandKnot$Search" "board" "LHandKnot$Board;" ∈ tblG := tgm (in_t2 _ (List.mem_of_getElem? (i := 218) rfl)) rfl
theorem w_597 : Cond.fieldLink RX7 11 "HandKnot$Search" "keys" "[J" ∈ tblG := tgm (in_t2 _ (List.mem_of_getElem? (i := 219) rfl)) rfl
theorem w_598 : Cond.fieldLink RX7 15 "HandKnot$Search" "firsts" "[I" ∈ tblG := tgm (in_t2 _ (List.mem_of_getElem? (i := 220) rfl)) rfl
theorem w_599 : Cond.fieldLink RX7 19 "HandKnot$Search" "slots" "[I" ∈ tblG := tgm (in_t2 _ (List.mem_of_getElem? (i := 221) rfl)) rfl
theorem w_600 : Cond.fieldLink RX7 22 "HandKnot$Search" "table" "[I" ∈ tblG := tgm (in_t2 _ (List.mem_of_getElem? (i := 222) rfl)) rfl
theorem w_601 : Cond.fieldLink RX7 42 "HandKnot$Search" "count" "I" ∈ tblG := tgm (in_t2 _ (List.mem_of_getElem? (i := 223) rfl)) rfl
theorem w_602 : Cond.fieldLink RX7 38 "HandKnot$Search" "looseAt" "I" ∈ tblG := tgm (in_t2 _ (List.mem_of_getElem? (i := 224) rfl)) rfl
theorem w_603 : Cond.fieldLink RX7 61 "HandKnot$Search" "over" "Z" ∈ tblG := tgm (in_t2 _ (List.mem_of_getElem? (i := 225) rfl)) rfl
theorem w_623 : Cond.methodLink RX11 58 yX10_init ∈ tblG := tgm (in_t3 _ (List.mem_of_getElem? (i := 5) rfl)) rfl
theorem w_624 : Cond.instanceMethod yX10_init ∈ tblG := tgm (in_t3 _ (List.mem_of_getElem? (i := 6) rfl)) rfl
theorem w_625 : Cond.code yX10_init cX10_init 2 none ∈ tblG := tgm (in_t3 _ (List.mem_of_getElem? (i := 7) rfl)) rfl
theorem w_628 : Cond.methodLink RX10 17 yX0_init ∈ tblG := tgm (in_t3 _ (List.mem_of_getElem? (i := 10) rfl)) rfl
theorem w_629 : Cond.fieldLink RX10 9 "HandKnot$Within" "rings" "LHandKnot$Rings;" ∈ tblG := tgm (in_t3 _ (List.mem_of_getElem? (i := 11) rfl)) rfl
theorem w_630 : Cond.fieldLink RX10 20 "HandKnot$Within" "trial" "LHandKnot$Board;" ∈ tblG := tgm (in_t3 _ (List.mem_of_getElem? (i := 12) rfl)) rfl
theorem w_638 : Cond.methodLink RX11 65 yX2_init ∈ tblG := tgm (in_t3 _ (List.mem_of_getElem? (i := 20) rfl)) rfl
theorem w_639 : Cond.instanceMethod yX2_init ∈ tblG := tgm (in_t3 _ (List.mem_of_getElem? (i := 21) rfl)) rfl
theorem w_640 : Cond.code yX2_init cX2_init 1 none ∈ tblG := tgm (in_t3 _ (List.mem_of_getElem? (i := 22) rfl)) rfl
theorem w_644 : Cond.fieldLink RX2 9 "HandKnot$Colouring" "overArc" "[I" ∈ tblG := tgm (in_t3 _ (List.mem_of_getElem? (i := 26) rfl)) rfl
theorem w_645 : Cond.fieldLink RX2 15 "HandKnot$Colouring" "arcBefore" "[I" ∈ tblG := tgm (in_t3 _ (List.mem_of_getElem? (i := 27) rfl)) rfl
theorem w_646 : Cond.fieldLink RX2 18 "HandKnot$Colouring" "arcBehind" "[I" ∈ tblG := tgm (in_t3 _ (List.mem_of_getElem? (i := 28) rfl)) rfl
theorem w_647 : Cond.fieldLink RX2 23 "HandKnot$Colouring" "rows" "[[I" ∈ tblG := tgm (in_t3 _ (List.mem_of_getElem? (i := 29) rfl)) rfl
theorem w_648 : Cond.fieldLink RX2 26 "HandKnot$Colouring" "arcs" "I" ∈ tblG := tgm (in_t3 _ (List.mem_of_getElem? (i := 30) rfl)) rfl
theorem w_662 : Cond.methodLink RX11 72 yX1_init ∈ tblG := tgm (in_t3 _ (List.mem_of_getElem? (i := 44) rfl)) rfl
theorem w_663 : Cond.instanceMethod yX1_init ∈ tblG := tgm (in_t3 _ (List.mem_of_getElem? (i := 45) rfl)) rfl
theorem w_664 : Cond.code yX1_init cX1_init 1 none ∈ tblG := tgm (in_t3 _ (List.mem_of_getElem? (i := 46) rfl)) rfl
theorem w_666 : Cond.fieldLink RX1 9 "HandKnot$Chances" "often" "[J" ∈ tblG := tgm (in_t3 _ (List.mem_of_getElem? (i := 48) rfl)) rfl
theorem w_667 : Cond.fieldLink RX1 13 "HandKnot$Chances" "onlyOnce" "[J" ∈ tblG := tgm (in_t3 _ (List.mem_of_getElem? (i := 49) rfl)) rfl
theorem w_668 : Cond.fieldLink RX1 16 "HandKnot$Chances" "filled" "Z" ∈ tblG := tgm (in_t3 _ (List.mem_of_getElem? (i := 50) rfl)) rfl
theorem w_676 : Cond.fieldLink RX11 10 "HandKnot" "reader" "LHandKnot$Reader;" ∈ tblG := tgm (in_t3 _ (List.mem_of_getElem? (i := 58) rfl)) rfl
theorem w_677 : Cond.fieldLink RX11 19 "HandKnot" "rings" "LHandKnot$Rings;" ∈ tblG := tgm (in_t3 _ (List.mem_of_getElem? (i := 59) rfl)) rfl
theorem w_678 : Cond.fieldLink RX11 26 "HandKnot" "now" "LHandKnot$Moment;" ∈ tblG := tgm (in_t3 _ (List.mem_of_getElem? (i := 60) rfl)) rfl
theorem w_679 : Cond.fieldLink RX11 30 "HandKnot" "tried" "LHandKnot$Moment;" ∈ tblG := tgm (in_t3 _ (List.mem_of_getElem? (i := 61) rfl)) rfl
theorem w_680 : Cond.fieldLink RX11 36 "HandKnot" "history" "LHandKnot$History;" ∈ tblG := tgm (in_t3 _ (List.mem_of_getElem? (i := 62) rfl)) rfl
theorem w_681 : Cond.fieldLink RX11 45 "HandKnot" "board" "LHandKnot$Board;" ∈ tblG := tgm (in_t3 _ (List.mem_of_getElem? (i := 63) rfl)) rfl
theorem w_682 : Cond.fieldLink RX11 52 "HandKnot" "search" "LHandKnot$Search;" ∈ tblG := tgm (in_t3 _ (List.mem_of_getElem? (i := 64) rfl)) rfl
theorem w_683 : Cond.fieldLink RX11 59 "HandKnot" "within" "LHandKnot$Within;" ∈ tblG := tgm (in_t3 _ (List.mem_of_getElem? (i := 65) rfl)) rfl
theorem w_684 : Cond.fieldLink RX11 66 "HandKnot" "colouring" "LHandKnot$Colouring;" ∈ tblG := tgm (in_t3 _ (List.mem_of_getElem? (i := 66) rfl)) rfl
theorem w_685 : Cond.fieldLink RX11 73 "HandKnot" "chances" "LHandKnot$Chances;" ∈ tblG := tgm (in_t3 _ (List.mem_of_getElem? (i := 67) rfl)) rfl
theorem w_686 : Cond.fieldLink RX11 77 "HandKnot" "there" "Z" ∈ tblG := tgm (in_t3 _ (List.mem_of_getElem? (i := 68) rfl)) rfl
theorem w_687 : Cond.fieldLink RX11 81 "HandKnot" "trouble" "I" ∈ tblG := tgm (in_t3 _ (List.mem_of_getElem? (i := 69) rfl)) rfl
theorem w_713 : Cond.methodLink "HandKnotLaw" 19 yX11_feed ∈ tblG := tgm (in_t3 _ (List.mem_of_getElem? (i := 95) rfl)) rfl
theorem w_714 : Cond.instanceMethod yX11_feed ∈ tblG := tgm (in_t3 _ (List.mem_of_getElem? (i := 96) rfl)) rfl
theorem w_715 : Cond.selects RX11 yX11_feed yX11_feed ∈ tblG := tgm (in_t3 _ (List.mem_of_getElem? (i := 97) rfl)) rfl
theorem w_716 : Cond.code yX11_feed cX11_feed 6 (some .int) ∈ tblG := tgm (in_t3 _ (List.mem_of_getElem? (i := 98) rfl)) rfl
theorem w_717 : Cond.methodLink RX11 109 yX8_hasRoom ∈ tblG := tgm (in_t3 _ (List.mem_of_getElem? (i := 99) rfl)) rfl
theorem w_718 : Cond.instanceMethod yX8_hasRoom ∈ tblG := tgm (in_t3 _ (List.mem_of_getElem? (i := 100) rfl)) rfl
theorem w_719 : Cond.selects RX8 yX8_hasRoom yX8_hasRoom ∈ tblG := tgm (in_t3 _ (List.mem_of_getElem? (i := 101) rfl)) rfl
theorem w_720 : Cond.code yX8_hasRoom cX8_hasRoom 1 (some .boolean) ∈ tblG := tgm (in_t3 _ (List.mem_of_getElem? (i := 102) rfl)) rfl
theorem w_721 : Cond.methodLink RX11 115 yX8_take ∈ tblG := tgm (in_t3 _ (List.mem_of_getElem? (i := 103) rfl)) rfl
theorem w_722 : Cond.instanceMethod yX8_take ∈ tblG := tgm (in_t3 _ (List.mem_of_getElem? (i := 104) rfl)) rfl
theorem w_723 : Cond.selects RX8 yX8_take yX8_take ∈ tblG := tgm (in_t3 _ (List.mem_of_getElem? (i := 105) rfl)) rfl
theorem w_724 : Cond.code yX8_take cX8_take 3 none ∈ tblG := tgm (in_t3 _ (List.mem_of_getElem? (i := 106) rfl)) rfl
theorem w_725 : Cond.methodLink "HandKnotLaw" 24 yX11_tangle ∈ tblG := tgm (in_t3 _ (List.mem_of_getElem? (i := 107) rfl)) rfl
theorem w_726 : Cond.instanceMethod yX11_tangle ∈ tblG := tgm (in_t3 _ (List.mem_of_getElem? (i := 108) rfl)) rfl
theorem w_727 : Cond.selects RX11 yX11_tangle yX11_tangle ∈ tblG := tgm (in_t3 _ (List.mem_of_getElem? (i := 109) rfl)) rfl
theorem w_728 : Cond.code yX11_tangle cX11_tangle 2 (some .int) ∈ tblG := tgm (in_t3 _ (List.mem_of_getElem? (i := 110) rfl)) rfl
theorem w_729 : Cond.methodLink RX11 122 yX11_refuse ∈ tblG := tgm (in_t3 _ (List.mem_of_getElem? (i := 111) rfl)) rfl
theorem w_731 : Cond.instanceMethod yX11_refuse ∈ tblG := tgm (in_t3 _ (List.mem_of_getElem? (i := 113) rfl)) rfl
theorem w_732 : Cond.code yX11_refuse cX11_refuse 2 (some .int) ∈ tblG := tgm (in_t3 _ (List.mem_of_getElem? (i := 114) rfl)) rfl
theorem w_733 : Cond.methodLink RX11 126 yX5_reads ∈ tblG := tgm (in_t3 _ (List.mem_of_getElem? (i := 115) rfl)) rfl
theorem w_734 : Cond.instanceMethod yX5_reads ∈ tblG := tgm (in_t3 _ (List.mem_of_getElem? (i := 116) rfl)) rfl
theorem w_735 : Cond.selects RX5 yX5_reads yX5_reads ∈ tblG := tgm (in_t3 _ (List.mem_of_getElem? (i := 117) rfl)) rfl
theorem w_736 : Cond.code yX5_reads cX5_reads 3 (some .boolean) ∈ tblG := tgm (in_t3 _ (List.mem_of_getElem? (i := 118) rfl)) rfl
theorem w_737 : Cond.methodLink RX5 25 yX8_cut ∈ tblG := tgm (in_t3 _ (List.mem_of_getElem? (i := 119) rfl)) rfl
theorem w_738 : Cond.instanceMethod yX8_cut ∈ tblG := tgm (in_t3 _ (List.mem_of_getElem? (i := 120) rfl)) rfl
theorem w_739 : Cond.selects RX8 yX8_cut yX8_cut ∈ tblG := tgm (in_t3 _ (List.mem_of_getElem? (i := 121) rfl)) rfl
theorem w_740 : Cond.code yX8_cut cX8_cut 5 none ∈ tblG := tgm (in_t3 _ (List.mem_of_getElem? (i := 122) rfl)) rfl
theorem w_741 : Cond.methodLink RX8 73 Lib.Math.min.name ∈ tblG := tgm (in_t3 _ (List.mem_of_getElem? (i := 123) rfl)) rfl
theorem w_742 : Cond.static Lib.Math.min.name ∈ tblG := tgm (in_t3 _ (List.mem_of_getElem? (i := 124) rfl)) rfl
theorem w_743 : Cond.code Lib.Math.min.name Lib.Math.min.code 2 (some .int) ∈ tblG := tgm (in_t3 _ (List.mem_of_getElem? (i := 125) rfl)) rfl
theorem w_744 : Cond.methodLink RX8 82 yX8_cutOne ∈ tblG := tgm (in_t3 _ (List.mem_of_getElem? (i := 126) rfl)) rfl
theorem w_746 : Cond.instanceMethod yX8_cutOne ∈ tblG := tgm (in_t3 _ (List.mem_of_getElem? (i := 128) rfl)) rfl
theorem w_747 : Cond.code yX8_cutOne cX8_cutOne 5 (some .int) ∈ tblG := tgm (in_t3 _ (List.mem_of_getElem? (i := 129) rfl)) rfl
theorem w_748 : Cond.methodLink RX8 93 yX8_isLetter ∈ tblG := tgm (in_t3 _ (List.mem_of_getElem? (i := 130) rfl)) rfl
theorem w_749 : Cond.static yX8_isLetter ∈ tblG := tgm (in_t3 _ (List.mem_of_getElem? (i := 131) rfl)) rfl
theorem w_750 : Cond.code yX8_isLetter cX8_isLetter 1 (some .boolean) ∈ tblG := tgm (in_t3 _ (List.mem_of_getElem? (i := 132) rfl)) rfl
theorem w_751 : Cond.methodLink RX8 97 yX8_addWord ∈ tblG := tgm (in_t3 _ (List.mem_of_getElem? (i := 133) rfl)) rfl
theorem w_753 : Cond.instanceMethod yX8_addWord ∈ tblG := tgm (in_t3 _ (List.mem_of_getElem? (i := 135) rfl)) rfl
theorem w_754 : Cond.code yX8_addWord cX8_addWord 6 none ∈ tblG := tgm (in_t3 _ (List.mem_of_getElem? (i := 136) rfl)) rfl
theorem w_755 : Cond.methodLink RX8 89 yX8_addToken ∈ tblG := tgm (in_t3 _ (List.mem_of_getElem? (i := 137) rfl)) rfl
theorem w_757 : Cond.instanceMethod yX8_addToken ∈ tblG := tgm (in_t3 _ (List.mem_of_getElem? (i := 139) rfl)) rfl
theorem w_758 : Cond.code yX8_addToken cX8_addToken 6 none ∈ tblG := tgm (in_t3 _ (List.mem_of_getElem? (i := 140) rfl)) rfl
theorem w_759 : Cond.methodLink RX8 101 yX8_isFigure ∈ tblG := tgm (in_t3 _ (List.mem_of_getElem? (i := 141) rfl)) rfl
theorem w_760 : Cond.static yX8_isFigure ∈ tblG := tgm (in_t3 _ (List.mem_of_getElem? (i := 142) rfl)) rfl
theorem w_761 : Cond.code yX8_isFigure cX8_isFigure 1 (some .boolean) ∈ tblG := tgm (in_t3 _ (List.mem_of_getElem? (i := 143) rfl)) rfl
theorem w_762 : Cond.methodLink RX8 104 yX8_addWhole ∈ tblG := tgm (in_t3 _ (List.mem_of_getElem? (i := 144) rfl)) rfl
theorem w_764 : Cond.instanceMethod yX8_addWhole ∈ tblG := tgm (in_t3 _ (List.mem_of_getElem? (i := 146) rfl)) rfl
theorem w_765 : Cond.code yX8_addWhole cX8_addWhole 5 none ∈ tblG := tgm (in_t3 _ (List.mem_of_getElem? (i := 147) rfl)) rfl
theorem w_766 : Cond.methodLink RX8 85 yX8_ends ∈ tblG := tgm (in_t3 _ (List.mem_of_getElem? (i := 148) rfl)) rfl
theorem w_768 : Cond.instanceMethod yX8_ends ∈ tblG := tgm (in_t3 _ (List.mem_of_getElem? (i := 150) rfl)) rfl
theorem w_769 : Cond.code yX8_ends cX8_ends 2 (some .int) ∈ tblG := tgm (in_t3 _ (List.mem_of_getElem? (i := 151) rfl)) rfl
theorem w_770 : Cond.methodLink RX5 29 yX9_clear ∈ tblG := tgm (in_t3 _ (List.mem_of_getElem? (i := 152) rfl)) rfl
theorem w_771 : Cond.instanceMethod yX9_clear ∈ tblG := tgm (in_t3 _ (List.mem_of_getElem? (i := 153) rfl)) rfl
theorem w_772 : Cond.selects RX9 yX9_clear yX9_clear ∈ tblG := tgm (in_t3 _ (List.mem_of_getElem? (i := 154) rfl)) rfl
theorem w_773 : Cond.code yX9_clear cX9_clear 1 none ∈ tblG := tgm (in_t3 _ (List.mem_of_getElem? (i := 155) rfl)) rfl
theorem w_774 : Cond.methodLink RX9 60 yJ7_fill_53178 ∈ tblG := tgm (in_t3 _ (List.mem_of_getElem? (i := 156) rfl)) rfl
theorem w_775 : Cond.static yJ7_fill_53178 ∈ tblG := tgm (in_t3 _ (List.mem_of_getElem? (i := 157) rfl)) rfl
theorem w_776 : Cond.code yJ7_fill_53178 cJ7_fill_53178 4 none ∈ tblG := tgm (in_t3 _ (List.mem_of_getElem? (i := 158) rfl)) rfl
theorem w_777 : Cond.methodLink RX5 45 yX5_readsLine ∈ tblG := tgm (in_t3 _ (List.mem_of_getElem? (i := 159) rfl)) rfl
theorem w_779 : Cond.instanceMethod yX5_readsLine ∈ tblG := tgm (in_t3 _ (List.mem_of_getElem? (i := 161) rfl)) rfl
theorem w_780 : Cond.code yX5_readsLine cX5_readsLine 4 (some .boolean) ∈ tblG := tgm (in_t3 _ (List.mem_of_getElem? (i := 162) rfl)) rfl
theorem w_781 : Cond.methodLink RX5 70 yX5_advance ∈ tblG := tgm (in_t3 _ (List.mem_of_getElem? (i := 163) rfl)) rfl
theorem w_783 : Cond.instanceMethod yX5_advance ∈ tblG := tgm (in_t3 _ (List.mem_of_getElem? (i := 165) rfl)) rfl
theorem w_784 : Cond.code yX5_advance cX5_advance 1 none ∈ tblG := tgm (in_t3 _ (List.mem_of_getElem? (i := 166) rfl)) rfl
theorem w_785 : Cond.methodLink RX5 73 yX5_isWord ∈ tblG := tgm (in_t3 _ (List.mem_of_getElem? (i := 167) rfl)) rfl
theorem w_787 : Cond.instanceMethod yX5_isWord ∈ tblG := tgm (in_t3 _ (List.mem_of_getElem? (i := 169) rfl)) rfl
theorem w_788 : Cond.code yX5_isWord cX5_isWord 2 (some .boolean) ∈ tblG := tgm (in_t3 _ (List.mem_of_getElem? (i := 170) rfl)) rfl
theorem w_789 : Cond.methodLink RX5 76 yX5_readsTangle ∈ tblG := tgm (in_t3 _ (List.mem_of_getElem? (i := 171) rfl)) rfl
theorem w_791 : Cond.instanceMethod yX5_readsTangle ∈ tblG := tgm (in_t3 _ (List.mem_of_getElem? (i := 173) rfl)) rfl
theorem w_792 : Cond.code yX5_readsTangle cX5_readsTangle 1 (some .boolean) ∈ tblG := tgm (in_t3 _ (List.mem_of_getElem? (i := 174) rfl)) rfl
theorem w_793 : Cond.methodLink RX5 56 yX5_isFaulty ∈ tblG := tgm (in_t3 _ (List.mem_of_getElem? (i := 175) rfl)) rfl
theorem w_795 : Cond.instanceMethod yX5_isFaulty ∈ tblG := tgm (in_t3 _ (List.mem_of_getElem? (i := 177) rfl)) rfl
theorem w_796 : Cond.code yX5_isFaulty cX5_isFaulty 2 (some .boolean) ∈ tblG := tgm (in_t3 _ (List.mem_of_getElem? (i := 178) rfl)) rfl
theorem w_797 : Cond.methodLink RX5 92 yX5_takesWord ∈ tblG := tgm (in_t3 _ (List.mem_of_getElem? (i := 179) rfl)) rfl
theorem w_799 : Cond.instanceMethod yX5_takesWord ∈ tblG := tgm (in_t3 _ (List.mem_of_getElem? (i := 181) rfl)) rfl
theorem w_800 : Cond.code yX5_takesWord cX5_takesWord 2 (some .boolean) ∈ tblG := tgm (in_t3 _ (List.mem_of_getElem? (i := 182) rfl)) rfl
theorem w_801 : Cond.methodLink RX5 95 yX5_takesWhole ∈ tblG := tgm (in_t3 _ (List.mem_of_getElem? (i := 183) rfl)) rfl
theorem w_803 : Cond.instanceMethod yX5_takesWhole ∈ tblG := tgm (in_t3 _ (List.mem_of_getElem? (i := 185) rfl)) rfl
theorem w_804 : Cond.code yX5_takesWhole cX5_takesWhole 3 (some .boolean) ∈ tblG := tgm (in_t3 _ (List.mem_of_getElem? (i := 186) rfl)) rfl
theorem w_805 : Cond.methodLink RX5 49 yX5_kind ∈ tblG := tgm (in_t3 _ (List.mem_of_getElem? (i := 187) rfl)) rfl
theorem w_807 : Cond.instanceMethod yX5_kind ∈ tblG := tgm (in_t3 _ (List.mem_of_getElem? (i := 189) rfl)) rfl
theorem w_808 : Cond.code yX5_kind cX5_kind 1 (some .int) ∈ tblG := tgm (in_t3 _ (List.mem_of_getElem? (i := 190) rfl)) rfl
theorem w_809 : Cond.methodLink RX5 83 yX5_readsPerson ∈ tblG := tgm (in_t3 _ (List.mem_of_getElem? (i := 191) rfl)) rfl
theorem w_811 : Cond.instanceMethod yX5_readsPerson ∈ tblG := tgm (in_t3 _ (List.mem_of_getElem? (i := 193) rfl)) rfl
theorem w_812 : Cond.code yX5_readsPerson cX5_readsPerson 3 (some .boolean) ∈ tblG := tgm (in_t3 _ (List.mem_of_getElem? (i := 194) rfl)) rfl
theorem w_813 : Cond.methodLink RX5 111 yX5_takesNewName ∈ tblG := tgm (in_t3 _ (List.mem_of_getElem? (i := 195) rfl)) rfl
theorem w_815 : Cond.instanceMethod yX5_takesNewName ∈ tblG := tgm (in_t3 _ (List.mem_of_getElem? (i := 197) rfl)) rfl
theorem w_816 : Cond.code yX5_takesNewName cX5_takesNewName 2 (some .boolean) ∈ tblG := tgm (in_t3 _ (List.mem_of_getElem? (i := 198) rfl)) rfl
theorem w_817 : Cond.methodLink RX5 164 yX5_takesName ∈ tblG := tgm (in_t3 _ (List.mem_of_getElem? (i := 199) rfl)) rfl
theorem w_819 : Cond.instanceMethod yX5_takesName ∈ tblG := tgm (in_t3 _ (List.mem_of_getElem? (i := 201) rfl)) rfl
theorem w_820 : Cond.code yX5_takesName cX5_takesName 1 (some .boolean) ∈ tblG := tgm (in_t3 _ (List.mem_of_getElem? (i := 202) rfl)) rfl
theorem w_821 : Cond.methodLink RX5 167 yX9_personNamed ∈ tblG := tgm (in_t3 _ (List.mem_of_getElem? (i := 203) rfl)) rfl
theorem w_822 : Cond.instanceMethod yX9_personNamed ∈ tblG := tgm (in_t3 _ (List.mem_of_getElem? (i := 204) rfl)) rfl
theorem w_823 : Cond.selects RX9 yX9_personNamed yX9_personNamed ∈ tblG := tgm (in_t3 _ (List.mem_of_getElem? (i := 205) rfl)) rfl
theorem w_824 : Cond.code yX9_personNamed cX9_personNamed 3 (some .int) ∈ tblG := tgm (in_t3 _ (List.mem_of_getElem? (i := 206) rfl)) rfl
theorem w_825 : Cond.methodLink RX9 66 yX9_indexOf ∈ tblG := tgm (in_t3 _ (List.mem_of_getElem? (i := 207) rfl)) rfl
theorem w_826 : Cond.static yX9_indexOf ∈ tblG := tgm (in_t3 _ (List.mem_of_getElem? (i := 208) rfl)) rfl
theorem w_827 : Cond.code yX9_indexOf cX9_indexOf 5 (some .int) ∈ tblG := tgm (in_t3 _ (List.mem_of_getElem? (i := 209) rfl)) rfl
theorem w_828 : Cond.methodLink RX5 171 yX9_linkNamed ∈ tblG := tgm (in_t3 _ (List.mem_of_getElem? (i := 210) rfl)) rfl
theorem w_829 : Cond.instanceMethod yX9_linkNamed ∈ tblG := tgm (in_t3 _ (List.mem_of_getElem? (i := 211) rfl)) rfl
theorem w_830 : Cond.selects RX9 yX9_linkNamed yX9_linkNamed ∈ tblG := tgm (in_t3 _ (List.mem_of_getElem? (i := 212) rfl)) rfl
theorem w_831 : Cond.code yX9_linkNamed cX9_linkNamed 3 (some .int) ∈ tblG := tgm (in_t3 _ (List.mem_of_getElem? (i := 213) rfl)) rfl
theorem w_832 : Cond.methodLink RX5 118 yX9_addPerson ∈ tblG := tgm (in_t3 _ (List.mem_of_getElem? (i := 214) rfl)) rfl
theorem w_833 : Cond.instanceMethod yX9_addPerson ∈ tblG := tgm (in_t3 _ (List.mem_of_getElem? (i := 215) rfl)) rfl
theorem w_834 : Cond.selects RX9 yX9_addPerson yX9_addPerson ∈ tblG := tgm (in_t3 _ (List.mem_of_getElem? (i := 216) rfl)) rfl
theorem w_835 : Cond.code yX9_addPerson cX9_addPerson 4 none ∈ tblG := tgm (in_t3 _ (List.mem_of_getElem? (i := 217) rfl)) rfl
theorem w_836 : Cond.methodLink RX5 86 yX5_readsHold ∈ tblG := tgm (in_t3 _ (List.mem_of_getElem? (i := 218) rfl)) rfl
theorem w_838 : Cond.instanceMethod yX5_readsHold ∈ tblG := tgm (in_t3 _ (List.mem_of_getElem? (i := 220) rfl)) rfl
theorem w_839 : Cond.code yX5_readsHold cX5_readsHold 6 (some .boolean) ∈ tblG := tgm (in_t3 _ (List.mem_of_getElem? (i := 221) rfl)) rfl
theorem w_840 : Cond.methodLink RX5 125 yX5_takesPerson ∈ tblG := tgm (in_t3 _ (List.mem_of_getElem? (i := 222) rfl)) rfl
theorem w_842 : Cond.instanceMethod yX5_takesPerson ∈ tblG := tgm (in_t3 _ (List.mem_of_getElem? (i := 224) rfl)) rfl
theorem w_843 : Cond.code yX5_takesPerson cX5_takesPerson 1 (some .boolean) ∈ tblG := tgm (in_t3 _ (List.mem_of_getElem? (i := 225) rfl)) rfl
theorem w_844 : Cond.methodLink RX5 128 yX5_takesHand ∈ tblG := tgm (in_t3 _ (List.mem_of_getElem? (i := 226) rfl)) rfl
theorem w_846 : Cond.instanceMethod yX5_takesHand ∈ tblG := tgm (in_t3 _ (List.mem_of_getElem? (i := 228) rfl)) rfl
theorem w_847 : Cond.code yX5_takesHand cX5_takesHand 2 (some .boolean) ∈ tblG := tgm (in_t3 _ (List.mem_of_getElem? (i := 229) rfl)) rfl
theorem w_848 : Cond.methodLink RX5 174 yX9_isHeld ∈ tblG := tgm (in_t3 _ (List.mem_of_getElem? (i := 230) rfl)) rfl
theorem w_849 : Cond.instanceMethod yX9_isHeld ∈ tblG := tgm (in_t3 _ (List.mem_of_getElem? (i := 231) rfl)) rfl
theorem w_850 : Cond.selects RX9 yX9_isHeld yX9_isHeld ∈ tblG := tgm (in_t3 _ (List.mem_of_getElem? (i := 232) rfl)) rfl
theorem w_851 : Cond.code yX9_isHeld cX9_isHeld 2 (some .boolean) ∈ tblG := tgm (in_t3 _ (List.mem_of_getElem? (i := 233) rfl)) rfl
theorem w_852 : Cond.methodLink RX9 70 yX9_isHand ∈ tblG := tgm (in_t3 _ (List.mem_of_getElem? (i := 234) rfl)) rfl
theorem w_853 : Cond.static yX9_isHand ∈ tblG := tgm (in_t3 _ (List.mem_of_getElem? (i := 235) rfl)) rfl
theorem w_854 : Cond.code yX9_isHand cX9_isHand 1 (some .boolean) ∈ tblG := tgm (in_t3 _ (List.mem_of_getElem? (i := 236) rfl)) rfl
theorem w_855 : Cond.methodLink RX5 131 yX9_areHeld ∈ tblG := tgm (in_t3 _ (List.mem_of_getElem? (i := 237) rfl)) rfl
theorem w_856 : Cond.instanceMethod yX9_areHeld ∈ tblG := tgm (in_t3 _ (List.mem_of_getElem? (i := 238) rfl)) rfl
theorem w_857 : Cond.selects RX9 yX9_areHeld yX9_areHeld ∈ tblG := tgm (in_t3 _ (List.mem_of_getElem? (i := 239) rfl)) rfl
theorem w_858 : Cond.code yX9_areHeld cX9_areHeld 6 (some .boolean) ∈ tblG := tgm (in_t4 _ (List.mem_of_getElem? (i := 0) rfl)) rfl
theorem w_859 : Cond.methodLink RX5 134 yX9_addLink ∈ tblG := tgm (in_t4 _ (List.mem_of_getElem? (i := 1) rfl)) rfl
theorem w_860 : Cond.instanceMethod yX9_addLink ∈ tblG := tgm (in_t4 _ (List.mem_of_getElem? (i := 2) rfl)) rfl
theorem w_861 : Cond.selects RX9 yX9_addLink yX9_addLink ∈ tblG := tgm (in_t4 _ (List.mem_of_getElem? (i := 3) rfl)) rfl
theorem w_862 : Cond.code yX9_addLink cX9_addLink 5 none ∈ tblG := tgm (in_t4 _ (List.mem_of_getElem? (i := 4) rfl)) rfl
theorem w_863 : Cond.methodLink RX5 89 yX5_readsCross ∈ tblG := tgm (in_t4 _ (List.mem_of_getElem? (i := 5) rfl)) rfl
theorem w_865 : Cond.instanceMethod yX5_readsCross ∈ tblG := tgm (in_t4 _ (List.mem_of_getElem? (i := 7) rfl)) rfl
theorem w_866 : Cond.code yX5_readsCross cX5_readsCross 1 (some .boolean) ∈ tblG := tgm (in_t4 _ (List.mem_of_getElem? (i := 8) rfl)) rfl
theorem w_867 : Cond.methodLink RX5 141 yX5_takesPass ∈ tblG := tgm (in_t4 _ (List.mem_of_getElem? (i := 9) rfl)) rfl
theorem w_869 : Cond.instanceMethod yX5_takesPass ∈ tblG := tgm (in_t4 _ (List.mem_of_getElem? (i := 11) rfl)) rfl
theorem w_870 : Cond.code yX5_takesPass cX5_takesPass 3 (some .boolean) ∈ tblG := tgm (in_t4 _ (List.mem_of_getElem? (i := 12) rfl)) rfl
theorem w_871 : Cond.methodLink RX5 149 yX5_takesLink ∈ tblG := tgm (in_t4 _ (List.mem_of_getElem? (i := 13) rfl)) rfl
theorem w_873 : Cond.instanceMethod yX5_takesLink ∈ tblG := tgm (in_t4 _ (List.mem_of_getElem? (i := 15) rfl)) rfl
theorem w_874 : Cond.code yX5_takesLink cX5_takesLink 1 (some .boolean) ∈ tblG := tgm (in_t4 _ (List.mem_of_getElem? (i := 16) rfl)) rfl
theorem w_875 : Cond.methodLink RX5 152 yX9_passOn ∈ tblG := tgm (in_t4 _ (List.mem_of_getElem? (i := 17) rfl)) rfl
theorem w_876 : Cond.instanceMethod yX9_passOn ∈ tblG := tgm (in_t4 _ (List.mem_of_getElem? (i := 18) rfl)) rfl
theorem w_877 : Cond.selects RX9 yX9_passOn yX9_passOn ∈ tblG := tgm (in_t4 _ (List.mem_of_getElem? (i := 19) rfl)) rfl
theorem w_878 : Cond.code yX9_passOn cX9_passOn 3 (some .int) ∈ tblG := tgm (in_t4 _ (List.mem_of_getElem? (i := 20) rfl)) rfl
theorem w_879 : Cond.methodLink RX9 74 yX9_isPlace ∈ tblG := tgm (in_t4 _ (List.mem_of_getElem? (i := 21) rfl)) rfl
theorem w_880 : Cond.static yX9_isPlace ∈ tblG := tgm (in_t4 _ (List.mem_of_getElem? (i := 22) rfl)) rfl
theorem w_881 : Cond.code yX9_isPlace cX9_isPlace 2 (some .boolean) ∈ tblG := tgm (in_t4 _ (List.mem_of_getElem? (i := 23) rfl)) rfl
theorem w_882 : Cond.methodLink RX5 156 yX9_addPass ∈ tblG := tgm (in_t4 _ (List.mem_of_getElem? (i := 24) rfl)) rfl
theorem w_883 : Cond.instanceMethod yX9_addPass ∈ tblG := tgm (in_t4 _ (List.mem_of_getElem? (i := 25) rfl)) rfl
theorem w_884 : Cond.selects RX9 yX9_addPass yX9_addPass ∈ tblG := tgm (in_t4 _ (List.mem_of_getElem? (i := 26) rfl)) rfl
theorem w_885 : Cond.code yX9_addPass cX9_addPass 4 none ∈ tblG := tgm (in_t4 _ (List.mem_of_getElem? (i := 27) rfl)) rfl
theorem w_886 : Cond.methodLink RX5 145 yX9_addCrossing ∈ tblG := tgm (in_t4 _ (List.mem_of_getElem? (i := 28) rfl)) rfl
theorem w_887 : Cond.instanceMethod yX9_addCrossing ∈ tblG := tgm (in_t4 _ (List.mem_of_getElem? (i := 29) rfl)) rfl
theorem w_888 : Cond.selects RX9 yX9_addCrossing yX9_addCrossing ∈ tblG := tgm (in_t4 _ (List.mem_of_getElem? (i := 30) rfl)) rfl
theorem w_889 : Cond.code yX9_addCrossing cX9_addCrossing 2 none ∈ tblG := tgm (in_t4 _ (List.mem_of_getElem? (i := 31) rfl)) rfl
theorem w_890 : Cond.methodLink RX5 53 yX9_lacksSomething ∈ tblG := tgm (in_t4 _ (List.mem_of_getElem? (i := 32) rfl)) rfl
theorem w_891 : Cond.instanceMethod yX9_lacksSomething ∈ tblG := tgm (in_t4 _ (List.mem_of_getElem? (i := 33) rfl)) rfl
theorem w_892 : Cond.selects RX9 yX9_lacksSomething yX9_lacksSomething ∈ tblG := tgm (in_t4 _ (List.mem_of_getElem? (i := 34) rfl)) rfl
theorem w_893 : Cond.code yX9_lacksSomething cX9_lacksSomething 2 (some .boolean) ∈ tblG := tgm (in_t4 _ (List.mem_of_getElem? (i := 35) rfl)) rfl
theorem w_894 : Cond.methodLink RX9 78 yX9_isHeld ∈ tblG := tgm (in_t4 _ (List.mem_of_getElem? (i := 36) rfl)) rfl
theorem w_895 : Cond.methodLink RX11 134 yX6_trace ∈ tblG := tgm (in_t4 _ (List.mem_of_getElem? (i := 37) rfl)) rfl
theorem w_896 : Cond.instanceMethod yX6_trace ∈ tblG := tgm (in_t4 _ (List.mem_of_getElem? (i := 38) rfl)) rfl
theorem w_897 : Cond.selects RX6 yX6_trace yX6_trace ∈ tblG := tgm (in_t4 _ (List.mem_of_getElem? (i := 39) rfl)) rfl
theorem w_898 : Cond.code yX6_trace cX6_trace 4 none ∈ tblG := tgm (in_t4 _ (List.mem_of_getElem? (i := 40) rfl)) rfl
theorem w_902 : Cond.methodLink RX6 87 yJ7_fill_53178 ∈ tblG := tgm (in_t4 _ (List.mem_of_getElem? (i := 44) rfl)) rfl
theorem w_903 : Cond.methodLink RX6 93 yX6_traceHands ∈ tblG := tgm (in_t4 _ (List.mem_of_getElem? (i := 45) rfl)) rfl
theorem w_905 : Cond.instanceMethod yX6_traceHands ∈ tblG := tgm (in_t4 _ (List.mem_of_getElem? (i := 47) rfl)) rfl
theorem w_906 : Cond.code yX6_traceHands cX6_traceHands 7 none ∈ tblG := tgm (in_t4 _ (List.mem_of_getElem? (i := 48) rfl)) rfl
theorem w_907 : Cond.methodLink RX6 112 Lib.Math.min.name ∈ tblG := tgm (in_t4 _ (List.mem_of_getElem? (i := 49) rfl)) rfl
theorem w_908 : Cond.methodLink RX6 118 Lib.Math.max.name ∈ tblG := tgm (in_t4 _ (List.mem_of_getElem? (i := 50) rfl)) rfl
theorem w_909 : Cond.static Lib.Math.max.name ∈ tblG := tgm (in_t4 _ (List.mem_of_getElem? (i := 51) rfl)) rfl
theorem w_910 : Cond.code Lib.Math.max.name Lib.Math.max.code 2 (some .int) ∈ tblG := tgm (in_t4 _ (List.mem_of_getElem? (i := 52) rfl)) rfl
theorem w_911 : Cond.methodLink RX6 97 yX6_ringWith ∈ tblG := tgm (in_t4 _ (List.mem_of_getElem? (i := 53) rfl)) rfl
theorem w_912 : Cond.instanceMethod yX6_ringWith ∈ tblG := tgm (in_t4 _ (List.mem_of_getElem? (i := 54) rfl)) rfl
theorem w_913 : Cond.selects RX6 yX6_ringWith yX6_ringWith ∈ tblG := tgm (in_t4 _ (List.mem_of_getElem? (i := 55) rfl)) rfl
theorem w_914 : Cond.code yX6_ringWith cX6_ringWith 3 (some .int) ∈ tblG := tgm (in_t4 _ (List.mem_of_getElem? (i := 56) rfl)) rfl
theorem w_915 : Cond.methodLink RX6 101 yX6_traceRing ∈ tblG := tgm (in_t4 _ (List.mem_of_getElem? (i := 57) rfl)) rfl
theorem w_917 : Cond.instanceMethod yX6_traceRing ∈ tblG := tgm (in_t4 _ (List.mem_of_getElem? (i := 59) rfl)) rfl
theorem w_918 : Cond.code yX6_traceRing cX6_traceRing 8 (some .int) ∈ tblG := tgm (in_t4 _ (List.mem_of_getElem? (i := 60) rfl)) rfl
theorem w_919 : Cond.methodLink RX6 124 yX6_traceLink ∈ tblG := tgm (in_t4 _ (List.mem_of_getElem? (i := 61) rfl)) rfl
theorem w_921 : Cond.instanceMethod yX6_traceLink ∈ tblG := tgm (in_t4 _ (List.mem_of_getElem? (i := 63) rfl)) rfl
theorem w_922 : Cond.code yX6_traceLink cX6_traceLink 7 none ∈ tblG := tgm (in_t4 _ (List.mem_of_getElem? (i := 64) rfl)) rfl
theorem w_923 : Cond.methodLink RX6 128 yX9_passOn ∈ tblG := tgm (in_t4 _ (List.mem_of_getElem? (i := 65) rfl)) rfl
theorem w_924 : Cond.methodLink RX6 105 yX6_traceSigns ∈ tblG := tgm (in_t4 _ (List.mem_of_getElem? (i := 66) rfl)) rfl
theorem w_926 : Cond.instanceMethod yX6_traceSigns ∈ tblG := tgm (in_t4 _ (List.mem_of_getElem? (i := 68) rfl)) rfl
theorem w_927 : Cond.code yX6_traceSigns cX6_traceSigns 3 none ∈ tblG := tgm (in_t4 _ (List.mem_of_getElem? (i := 69) rfl)) rfl
theorem w_928 : Cond.methodLink RX11 138 yX3_clear ∈ tblG := tgm (in_t4 _ (List.mem_of_getElem? (i := 70) rfl)) rfl
theorem w_929 : Cond.instanceMethod yX3_clear ∈ tblG := tgm (in_t4 _ (List.mem_of_getElem? (i := 71) rfl)) rfl
theorem w_930 : Cond.selects RX3 yX3_clear yX3_clear ∈ tblG := tgm (in_t4 _ (List.mem_of_getElem? (i := 72) rfl)) rfl
theorem w_931 : Cond.code yX3_clear cX3_clear 1 none ∈ tblG := tgm (in_t4 _ (List.mem_of_getElem? (i := 73) rfl)) rfl
theorem w_932 : Cond.methodLink RX11 148 yX4_begin ∈ tblG := tgm (in_t4 _ (List.mem_of_getElem? (i := 74) rfl)) rfl
theorem w_933 : Cond.instanceMethod yX4_begin ∈ tblG := tgm (in_t4 _ (List.mem_of_getElem? (i := 75) rfl)) rfl
theorem w_934 : Cond.selects RX4 yX4_begin yX4_begin ∈ tblG := tgm (in_t4 _ (List.mem_of_getElem? (i := 76) rfl)) rfl
theorem w_935 : Cond.code yX4_begin cX4_begin 4 none ∈ tblG := tgm (in_t4 _ (List.mem_of_getElem? (i := 77) rfl)) rfl
theorem w_936 : Cond.methodLink RX11 152 yX0_lay ∈ tblG := tgm (in_t4 _ (List.mem_of_getElem? (i := 78) rfl)) rfl
theorem w_937 : Cond.instanceMethod yX0_lay ∈ tblG := tgm (in_t4 _ (List.mem_of_getElem? (i := 79) rfl)) rfl
theorem w_938 : Cond.selects RX0 yX0_lay yX0_lay ∈ tblG := tgm (in_t4 _ (List.mem_of_getElem? (i := 80) rfl)) rfl
theorem w_939 : Cond.code yX0_lay cX0_lay 2 none ∈ tblG := tgm (in_t4 _ (List.mem_of_getElem? (i := 81) rfl)) rfl
theorem w_940 : Cond.methodLink RX0 61 yX0_layOut ∈ tblG := tgm (in_t4 _ (List.mem_of_getElem? (i := 82) rfl)) rfl
theorem w_941 : Cond.instanceMethod yX0_layOut ∈ tblG := tgm (in_t4 _ (List.mem_of_getElem? (i := 83) rfl)) rfl
theorem w_942 : Cond.selects RX0 yX0_layOut yX0_layOut ∈ tblG := tgm (in_t4 _ (List.mem_of_getElem? (i := 84) rfl)) rfl
theorem w_943 : Cond.code yX0_layOut cX0_layOut 7 none ∈ tblG := tgm (in_t4 _ (List.mem_of_getElem? (i := 85) rfl)) rfl
theorem w_944 : Cond.methodLink RX0 75 yX0_walkRound ∈ tblG := tgm (in_t4 _ (List.mem_of_getElem? (i := 86) rfl)) rfl
theorem w_946 : Cond.instanceMethod yX0_walkRound ∈ tblG := tgm (in_t4 _ (List.mem_of_getElem? (i := 88) rfl)) rfl
theorem w_947 : Cond.code yX0_walkRound cX0_walkRound 10 (some .int) ∈ tblG := tgm (in_t4 _ (List.mem_of_getElem? (i := 89) rfl)) rfl
theorem w_948 : Cond.methodLink RX0 99 yX0_isOpen ∈ tblG := tgm (in_t4 _ (List.mem_of_getElem? (i := 90) rfl)) rfl
theorem w_949 : Cond.instanceMethod yX0_isOpen ∈ tblG := tgm (in_t4 _ (List.mem_of_getElem? (i := 91) rfl)) rfl
theorem w_950 : Cond.selects RX0 yX0_isOpen yX0_isOpen ∈ tblG := tgm (in_t4 _ (List.mem_of_getElem? (i := 92) rfl)) rfl
theorem w_951 : Cond.code yX0_isOpen cX0_isOpen 2 (some .boolean) ∈ tblG := tgm (in_t4 _ (List.mem_of_getElem? (i := 93) rfl)) rfl
theorem w_952 : Cond.methodLink RX0 106 yX4_passAt ∈ tblG := tgm (in_t4 _ (List.mem_of_getElem? (i := 94) rfl)) rfl
theorem w_953 : Cond.static yX4_passAt ∈ tblG := tgm (in_t4 _ (List.mem_of_getElem? (i := 95) rfl)) rfl
theorem w_954 : Cond.code yX4_passAt cX4_passAt 3 (some .int) ∈ tblG := tgm (in_t4 _ (List.mem_of_getElem? (i := 96) rfl)) rfl
theorem w_955 : Cond.constantLong RX4 26 (15 : Int64) ∈ tblG := tgm (in_t4 _ (List.mem_of_getElem? (i := 97) rfl)) rfl
theorem w_956 : Cond.methodLink RX0 110 yX0_join ∈ tblG := tgm (in_t4 _ (List.mem_of_getElem? (i := 98) rfl)) rfl
theorem w_958 : Cond.instanceMethod yX0_join ∈ tblG := tgm (in_t4 _ (List.mem_of_getElem? (i := 100) rfl)) rfl
theorem w_959 : Cond.code yX0_join cX0_join 7 none ∈ tblG := tgm (in_t4 _ (List.mem_of_getElem? (i := 101) rfl)) rfl
theorem w_960 : Cond.methodLink RX0 83 yX0_listTurn ∈ tblG := tgm (in_t4 _ (List.mem_of_getElem? (i := 102) rfl)) rfl
theorem w_962 : Cond.instanceMethod yX0_listTurn ∈ tblG := tgm (in_t4 _ (List.mem_of_getElem? (i := 104) rfl)) rfl
theorem w_963 : Cond.code yX0_listTurn cX0_listTurn 2 none ∈ tblG := tgm (in_t4 _ (List.mem_of_getElem? (i := 105) rfl)) rfl
theorem w_964 : Cond.methodLink RX0 117 yX0_has ∈ tblG := tgm (in_t4 _ (List.mem_of_getElem? (i := 106) rfl)) rfl
theorem w_965 : Cond.static yX0_has ∈ tblG := tgm (in_t4 _ (List.mem_of_getElem? (i := 107) rfl)) rfl
theorem w_966 : Cond.code yX0_has cX0_has 2 (some .boolean) ∈ tblG := tgm (in_t4 _ (List.mem_of_getElem? (i := 108) rfl)) rfl
theorem w_967 : Cond.methodLink RX0 133 yX0_addNumber ∈ tblG := tgm (in_t4 _ (List.mem_of_getElem? (i := 109) rfl)) rfl
theorem w_969 : Cond.instanceMethod yX0_addNumber ∈ tblG := tgm (in_t4 _ (List.mem_of_getElem? (i := 111) rfl)) rfl
theorem w_970 : Cond.code yX0_addNumber cX0_addNumber 2 none ∈ tblG := tgm (in_t4 _ (List.mem_of_getElem? (i := 112) rfl)) rfl
theorem w_971 : Cond.methodLink RX0 87 yX0_listSlips ∈ tblG := tgm (in_t4 _ (List.mem_of_getElem? (i := 113) rfl)) rfl
theorem w_973 : Cond.instanceMethod yX0_listSlips ∈ tblG := tgm (in_t4 _ (List.mem_of_getElem? (i := 115) rfl)) rfl
theorem w_974 : Cond.code yX0_listSlips cX0_listSlips 4 none ∈ tblG := tgm (in_t4 _ (List.mem_of_getElem? (i := 116) rfl)) rfl
theorem w_975 : Cond.methodLink RX0 136 yX0_slipsWith ∈ tblG := tgm (in_t4 _ (List.mem_of_getElem? (i := 117) rfl)) rfl
theorem w_977 : Cond.instanceMethod yX0_slipsWith ∈ tblG := tgm (in_t4 _ (List.mem_of_getElem? (i := 119) rfl)) rfl
theorem w_978 : Cond.code yX0_slipsWith cX0_slipsWith 3 (some .int) ∈ tblG := tgm (in_t4 _ (List.mem_of_getElem? (i := 120) rfl)) rfl
theorem w_979 : Cond.methodLink RX0 139 yX0_fits ∈ tblG := tgm (in_t4 _ (List.mem_of_getElem? (i := 121) rfl)) rfl
theorem w_981 : Cond.instanceMethod yX0_fits ∈ tblG := tgm (in_t4 _ (List.mem_of_getElem? (i := 123) rfl)) rfl
theorem w_982 : Cond.code yX0_fits cX0_fits 3 (some .boolean) ∈ tblG := tgm (in_t4 _ (List.mem_of_getElem? (i := 124) rfl)) rfl
theorem w_983 : Cond.methodLink RX0 149 yX0_lowLink ∈ tblG := tgm (in_t4 _ (List.mem_of_getElem? (i := 125) rfl)) rfl
theorem w_985 : Cond.instanceMethod yX0_lowLink ∈ tblG := tgm (in_t4 _ (List.mem_of_getElem? (i := 127) rfl)) rfl
theorem w_986 : Cond.code yX0_lowLink cX0_lowLink 5 (some .int) ∈ tblG := tgm (in_t4 _ (List.mem_of_getElem? (i := 128) rfl)) rfl
theorem w_987 : Cond.methodLink RX0 90 yX0_listSteps ∈ tblG := tgm (in_t4 _ (List.mem_of_getElem? (i := 129) rfl)) rfl
theorem w_989 : Cond.instanceMethod yX0_listSteps ∈ tblG := tgm (in_t4 _ (List.mem_of_getElem? (i := 131) rfl)) rfl
theorem w_990 : Cond.code yX0_listSteps cX0_listSteps 5 none ∈ tblG := tgm (in_t4 _ (List.mem_of_getElem? (i := 132) rfl)) rfl
theorem w_991 : Cond.methodLink RX0 142 yX0_stepsWith ∈ tblG := tgm (in_t4 _ (List.mem_of_getElem? (i := 133) rfl)) rfl
theorem w_993 : Cond.instanceMethod yX0_stepsWith ∈ tblG := tgm (in_t4 _ (List.mem_of_getElem? (i := 135) rfl)) rfl
theorem w_994 : Cond.code yX0_stepsWith cX0_stepsWith 3 (some .int) ∈ tblG := tgm (in_t4 _ (List.mem_of_getElem? (i := 136) rfl)) rfl
theorem w_995 : Cond.methodLink RX11 156 yX11_grant ∈ tblG := tgm (in_t4 _ (List.mem_of_getElem? (i := 137) rfl)) rfl
theorem w_997 : Cond.instanceMethod yX11_grant ∈ tblG := tgm (in_t4 _ (List.mem_of_getElem? (i := 139) rfl)) rfl
theorem w_998 : Cond.code yX11_grant cX11_grant 2 (some .int) ∈ tblG := tgm (in_t4 _ (List.mem_of_getElem? (i := 140) rfl)) rfl
theorem w_999 : Cond.methodLink "HandKnotLaw" 28 yX11_fault ∈ tblG := tgm (in_t4 _ (List.mem_of_getElem? (i := 141) rfl)) rfl
theorem w_1000 : Cond.instanceMethod yX11_fault ∈ tblG := tgm (in_t4 _ (List.mem_of_getElem? (i := 142) rfl)) rfl
theorem w_1001 : Cond.selects RX11 yX11_fault yX11_fault ∈ tblG := tgm (in_t4 _ (List.mem_of_getElem? (i := 143) rfl)) rfl
theorem w_1002 : Cond.code yX11_fault cX11_fault 1 (some .int) ∈ tblG := tgm (in_t4 _ (List.mem_of_getElem? (i := 144) rfl)) rfl
theorem w_1003 : Cond.methodLink "HandKnotLaw" 33 yX11_where ∈ tblG := tgm (in_t4 _ (List.mem_of_getElem? (i := 145) rfl)) rfl
theorem w_1004 : Cond.instanceMethod yX11_where ∈ tblG := tgm (in_t4 _ (List.mem_of_getElem? (i := 146) rfl)) rfl
theorem w_1005 : Cond.selects RX11 yX11_where yX11_where ∈ tblG := tgm (in_t4 _ (List.mem_of_getElem? (i := 147) rfl)) rfl
theorem w_1006 : Cond.code yX11_where cX11_where 1 (some .int) ∈ tblG := tgm (in_t4 _ (List.mem_of_getElem? (i := 148) rfl)) rfl
theorem w_1007 : Cond.methodLink "HandKnotLaw" 37 yX11_ring ∈ tblG := tgm (in_t4 _ (List.mem_of_getElem? (i := 149) rfl)) rfl
theorem w_1008 : Cond.instanceMethod yX11_ring ∈ tblG := tgm (in_t4 _ (List.mem_of_getElem? (i := 150) rfl)) rfl
theorem w_1009 : Cond.selects RX11 yX11_ring yX11_ring ∈ tblG := tgm (in_t4 _ (List.mem_of_getElem? (i := 151) rfl)) rfl
theorem w_1010 : Cond.code yX11_ring cX11_ring 2 (some .int) ∈ tblG := tgm (in_t4 _ (List.mem_of_getElem? (i := 152) rfl)) rfl
theorem w_1011 : Cond.methodLink RX11 165 yX11_isPerson ∈ tblG := tgm (in_t4 _ (List.mem_of_getElem? (i := 153) rfl)) rfl
theorem w_1013 : Cond.instanceMethod yX11_isPerson ∈ tblG := tgm (in_t4 _ (List.mem_of_getElem? (i := 155) rfl)) rfl
theorem w_1014 : Cond.code yX11_isPerson cX11_isPerson 2 (some .boolean) ∈ tblG := tgm (in_t4 _ (List.mem_of_getElem? (i := 156) rfl)) rfl
theorem w_1015 : Cond.methodLink RX11 168 yX6_ringWith ∈ tblG := tgm (in_t4 _ (List.mem_of_getElem? (i := 157) rfl)) rfl
theorem w_1016 : Cond.methodLink "HandKnotLaw" 41 yX11_people ∈ tblG := tgm (in_t4 _ (List.mem_of_getElem? (i := 158) rfl)) rfl
theorem w_1017 : Cond.instanceMethod yX11_people ∈ tblG := tgm (in_t4 _ (List.mem_of_getElem? (i := 159) rfl)) rfl
theorem w_1018 : Cond.selects RX11 yX11_people yX11_people ∈ tblG := tgm (in_t4 _ (List.mem_of_getElem? (i := 160) rfl)) rfl
theorem w_1019 : Cond.code yX11_people cX11_people 2 (some .int) ∈ tblG := tgm (in_t4 _ (List.mem_of_getElem? (i := 161) rfl)) rfl
theorem w_1020 : Cond.methodLink RX11 171 yX11_isRing ∈ tblG := tgm (in_t4 _ (List.mem_of_getElem? (i := 162) rfl)) rfl
theorem w_1022 : Cond.instanceMethod yX11_isRing ∈ tblG := tgm (in_t4 _ (List.mem_of_getElem? (i := 164) rfl)) rfl
theorem w_1023 : Cond.code yX11_isRing cX11_isRing 2 (some .boolean) ∈ tblG := tgm (in_t4 _ (List.mem_of_getElem? (i := 165) rfl)) rfl
theorem w_1024 : Cond.methodLink RX11 174 yX6_peopleIn ∈ tblG := tgm (in_t4 _ (List.mem_of_getElem? (i := 166) rfl)) rfl
theorem w_1025 : Cond.instanceMethod yX6_peopleIn ∈ tblG := tgm (in_t4 _ (List.mem_of_getElem? (i := 167) rfl)) rfl
theorem w_1026 : Cond.selects RX6 yX6_peopleIn yX6_peopleIn ∈ tblG := tgm (in_t4 _ (List.mem_of_getElem? (i := 168) rfl)) rfl
theorem w_1027 : Cond.code yX6_peopleIn cX6_peopleIn 2 (some .int) ∈ tblG := tgm (in_t4 _ (List.mem_of_getElem? (i := 169) rfl)) rfl
theorem w_1028 : Cond.methodLink "HandKnotLaw" 45 yX11_member ∈ tblG := tgm (in_t4 _ (List.mem_of_getElem? (i := 170) rfl)) rfl
theorem w_1029 : Cond.instanceMethod yX11_member ∈ tblG := tgm (in_t4 _ (List.mem_of_getElem? (i := 171) rfl)) rfl
theorem w_1030 : Cond.selects RX11 yX11_member yX11_member ∈ tblG := tgm (in_t4 _ (List.mem_of_getElem? (i := 172) rfl)) rfl
theorem w_1031 : Cond.code yX11_member cX11_member 3 (some .int) ∈ tblG := tgm (in_t4 _ (List.mem_of_getElem? (i := 173) rfl)) rfl
theorem w_1032 : Cond.methodLink "HandKnotLaw" 50 yX11_holds ∈ tblG := tgm (in_t4 _ (List.mem_of_getElem? (i := 174) rfl)) rfl
theorem w_1033 : Cond.instanceMethod yX11_holds ∈ tblG := tgm (in_t4 _ (List.mem_of_getElem? (i := 175) rfl)) rfl
theorem w_1034 : Cond.selects RX11 yX11_holds yX11_holds ∈ tblG := tgm (in_t4 _ (List.mem_of_getElem? (i := 176) rfl)) rfl
theorem w_1035 : Cond.code yX11_holds cX11_holds 3 (some .int) ∈ tblG := tgm (in_t4 _ (List.mem_of_getElem? (i := 177) rfl)) rfl
theorem w_1036 : Cond.methodLink "HandKnotLaw" 55 yX11_along ∈ tblG := tgm (in_t4 _ (List.mem_of_getElem? (i := 178) rfl)) rfl
theorem w_1037 : Cond.instanceMethod yX11_along ∈ tblG := tgm (in_t4 _ (List.mem_of_getElem? (i := 179) rfl)) rfl
theorem w_1038 : Cond.selects RX11 yX11_along yX11_along ∈ tblG := tgm (in_t4 _ (List.mem_of_getElem? (i := 180) rfl)) rfl
theorem w_1039 : Cond.code yX11_along cX11_along 2 (some .int) ∈ tblG := tgm (in_t4 _ (List.mem_of_getElem? (i := 181) rfl)) rfl
theorem w_1040 : Cond.methodLink RX11 187 yX11_isLink ∈ tblG := tgm (in_t4 _ (List.mem_of_getElem? (i := 182) rfl)) rfl
theorem w_1042 : Cond.instanceMethod yX11_isLink ∈ tblG := tgm (in_t4 _ (List.mem_of_getElem? (i := 184) rfl)) rfl
theorem w_1043 : Cond.code yX11_isLink cX11_isLink 2 (some .boolean) ∈ tblG := tgm (in_t4 _ (List.mem_of_getElem? (i := 185) rfl)) rfl
theorem w_1044 : Cond.methodLink "HandKnotLaw" 59 yX11_stands ∈ tblG := tgm (in_t4 _ (List.mem_of_getElem? (i := 186) rfl)) rfl
theorem w_1045 : Cond.instanceMethod yX11_stands ∈ tblG := tgm (in_t4 _ (List.mem_of_getElem? (i := 187) rfl)) rfl
theorem w_1046 : Cond.selects RX11 yX11_stands yX11_stands ∈ tblG := tgm (in_t4 _ (List.mem_of_getElem? (i := 188) rfl)) rfl
theorem w_1047 : Cond.code yX11_stands cX11_stands 3 (some .int) ∈ tblG := tgm (in_t4 _ (List.mem_of_getElem? (i := 189) rfl)) rfl
theorem w_1048 : Cond.methodLink RX11 193 yX11_isStanding ∈ tblG := tgm (in_t4 _ (List.mem_of_getElem? (i := 190) rfl)) rfl
theorem w_1050 : Cond.instanceMethod yX11_isStanding ∈ tblG := tgm (in_t4 _ (List.mem_of_getElem? (i := 192) rfl)) rfl
theorem w_1051 : Cond.code yX11_isStanding cX11_isStanding 2 (some .boolean) ∈ tblG := tgm (in_t4 _ (List.mem_of_getElem? (i := 193) rfl)) rfl
theorem w_1052 : Cond.methodLink RX11 197 yX4_passAt ∈ tblG := tgm (in_t4 _ (List.mem_of_getElem? (i := 194) rfl)) rfl
theorem w_1053 : Cond.methodLink "HandKnotLaw" 63 yX11_place ∈ tblG := tgm (in_t4 _ (List.mem_of_getElem? (i := 195) rfl)) rfl
theorem w_1054 : Cond.instanceMethod yX11_place ∈ tblG := tgm (in_t4 _ (List.mem_of_getElem? (i := 196) rfl)) rfl
theorem w_1055 : Cond.selects RX11 yX11_place yX11_place ∈ tblG := tgm (in_t4 _ (List.mem_of_getElem? (i := 197) rfl)) rfl
theorem w_1056 : Cond.code yX11_place cX11_place 4 (some .int) ∈ tblG := tgm (in_t4 _ (List.mem_of_getElem? (i := 198) rfl)) rfl
theorem w_1057 : Cond.methodLink "HandKnotLaw" 67 yX11_sign ∈ tblG := tgm (in_t4 _ (List.mem_of_getElem? (i := 199) rfl)) rfl
theorem w_1058 : Cond.instanceMethod yX11_sign ∈ tblG := tgm (in_t4 _ (List.mem_of_getElem? (i := 200) rfl)) rfl
theorem w_1059 : Cond.selects RX11 yX11_sign yX11_sign ∈ tblG := tgm (in_t4 _ (List.mem_of_getElem? (i := 201) rfl)) rfl
theorem w_1060 : Cond.code yX11_sign cX11_sign 2 (some .int) ∈ tblG := tgm (in_t4 _ (List.mem_of_getElem? (i := 202) rfl)) rfl
theorem w_1061 : Cond.methodLink RX11 207 yX11_isCrossing ∈ tblG := tgm (in_t4 _ (List.mem_of_getElem? (i := 203) rfl)) rfl
theorem w_1063 : Cond.instanceMethod yX11_isCrossing ∈ tblG := tgm (in_t4 _ (List.mem_of_getElem? (i := 205) rfl)) rfl
theorem w_1064 : Cond.code yX11_isCrossing cX11_isCrossing 2 (some .boolean) ∈ tblG := tgm (in_t4 _ (List.mem_of_getElem? (i := 206) rfl)) rfl
theorem w_1065 : Cond.methodLink RX11 210 yX0_signOf ∈ tblG := tgm (in_t4 _ (List.mem_of_getElem? (i := 207) rfl)) rfl
theorem w_1066 : Cond.instanceMethod yX0_signOf ∈ tblG := tgm (in_t4 _ (List.mem_of_getElem? (i := 208) rfl)) rfl
theorem w_1067 : Cond.selects RX0 yX0_signOf yX0_signOf ∈ tblG := tgm (in_t4 _ (List.mem_of_getElem? (i := 209) rfl)) rfl
theorem w_1068 : Cond.code yX0_signOf cX0_signOf 2 (some .int) ∈ tblG := tgm (in_t4 _ (List.mem_of_getElem? (i := 210) rfl)) rfl
theorem w_1069 : Cond.methodLink RX0 114 yX0_isLeft ∈ tblG := tgm (in_t4 _ (List.mem_of_getElem? (i := 211) rfl)) rfl
theorem w_1070 : Cond.instanceMethod yX0_isLeft ∈ tblG := tgm (in_t4 _ (List.mem_of_getElem? (i := 212) rfl)) rfl
theorem w_1071 : Cond.selects RX0 yX0_isLeft yX0_isLeft ∈ tblG := tgm (in_t4 _ (List.mem_of_getElem? (i := 213) rfl)) rfl
theorem w_1072 : Cond.code yX0_isLeft cX0_isLeft 2 (some .boolean) ∈ tblG := tgm (in_t4 _ (List.mem_of_getElem? (i := 214) rfl)) rfl
theorem w_1073 : Cond.methodLink RX11 213 yX11_refuseSigned ∈ tblG := tgm (in_t4 _ (List.mem_of_getElem? (i := 215) rfl)) rfl
theorem w_1075 : Cond.instanceMethod yX11_refuseSigned ∈ tblG := tgm (in_t4 _ (List.mem_of_getElem? (i := 217) rfl)) rfl
theorem w_1076 : Cond.code yX11_refuseSigned cX11_refuseSigned 2 (some .int) ∈ tblG := tgm (in_t4 _ (List.mem_of_getElem? (i := 218) rfl)) rfl
theorem w_1077 : Cond.methodLink "HandKnotLaw" 71 yX11_left ∈ tblG := tgm (in_t4 _ (List.mem_of_getElem? (i := 219) rfl)) rfl
theorem w_1078 : Cond.instanceMethod yX11_left ∈ tblG := tgm (in_t4 _ (List.mem_of_getElem? (i := 220) rfl)) rfl
theorem w_1079 : Cond.selects RX11 yX11_left yX11_left ∈ tblG := tgm (in_t4 _ (List.mem_of_getElem? (i := 221) rfl)) rfl
theorem w_1080 : Cond.code yX11_left cX11_left 1 (some .int) ∈ tblG := tgm (in_t4 _ (List.mem_of_getElem? (i := 222) rfl)) rfl
theorem w_1081 : Cond.methodLink "HandKnotLaw" 75 yX11_loose ∈ tblG := tgm (in_t4 _ (List.mem_of_getElem? (i := 223) rfl)) rfl
theorem w_1082 : Cond.instanceMethod yX11_loose ∈ tblG := tgm (in_t4 _ (List.mem_of_getElem? (i := 224) rfl)) rfl
theorem w_1083 : Cond.selects RX11 yX11_loose yX11_loose ∈ tblG := tgm (in_t4 _ (List.mem_of_getElem? (i := 225) rfl)) rfl
theorem w_1084 : Cond.code yX11_loose cX11_loose 1 (some .int) ∈ tblG := tgm (in_t4 _ (List.mem_of_getElem? (i := 226) rfl)) rfl
theorem w_1085 : Cond.methodLink "HandKnotLaw" 79 yX11_may ∈ tblG := tgm (in_t4 _ (List.mem_of_getElem? (i := 227) rfl)) rfl
theorem w_1086 : Cond.instanceMethod yX11_may ∈ tblG := tgm (in_t4 _ (List.mem_of_getElem? (i := 228) rfl)) rfl
theorem w_1087 : Cond.selects RX11 yX11_may yX11_may ∈ tblG := tgm (in_t4 _ (List.mem_of_getElem? (i := 229) rfl)) rfl
theorem w_1088 : Cond.code yX11_may cX11_may 2 (some .int) ∈ tblG := tgm (in_t4 _ (List.mem_of_getElem? (i := 230) rfl)) rfl
theorem w_1089 : Cond.methodLink RX11 219 yX11_isMove ∈ tblG := tgm (in_t4 _ (List.mem_of_getElem? (i := 231) rfl)) rfl
theorem w_1091 : Cond.instanceMethod yX11_isMove ∈ tblG := tgm (in_t4 _ (List.mem_of_getElem? (i := 233) rfl)) rfl
theorem w_1092 : Cond.code yX11_isMove cX11_isMove 2 (some .boolean) ∈ tblG := tgm (in_t4 _ (List.mem_of_getElem? (i := 234) rfl)) rfl
theorem w_1093 : Cond.methodLink RX11 100 yX0_isNumber ∈ tblG := tgm (in_t4 _ (List.mem_of_getElem? (i := 235) rfl)) rfl
theorem w_1094 : Cond.static yX0_isNumber ∈ tblG := tgm (in_t4 _ (List.mem_of_getElem? (i := 236) rfl)) rfl
theorem w_1095 : Cond.code yX0_isNumber cX0_isNumber 5 (some .boolean) ∈ tblG := tgm (in_t4 _ (List.mem_of_getElem? (i := 237) rfl)) rfl
theorem w_1096 : Cond.methodLink RX0 41 yX0_firstOf ∈ tblG := tgm (in_t4 _ (List.mem_of_getElem? (i := 238) rfl)) rfl
theorem w_1097 : Cond.static yX0_firstOf ∈ tblG := tgm (in_t4 _ (List.mem_of_getElem? (i := 239) rfl)) rfl
theorem w_1098 : Cond.code yX0_firstOf cX0_firstOf 1 (some .int) ∈ tblG := tgm (in_t5 _ (List.mem_of_getElem? (i := 0) rfl)) rfl
theorem w_1099 : Cond.methodLink RX0 45 yX0_secondOf ∈ tblG := tgm (in_t5 _ (List.mem_of_getElem? (i := 1) rfl)) rfl
theorem w_1100 : Cond.static yX0_secondOf ∈ tblG := tgm (in_t5 _ (List.mem_of_getElem? (i := 2) rfl)) rfl
theorem w_1101 : Cond.code yX0_secondOf cX0_secondOf 1 (some .int) ∈ tblG := tgm (in_t5 _ (List.mem_of_getElem? (i := 3) rfl)) rfl
theorem w_1102 : Cond.methodLink RX0 48 yX0_thirdOf ∈ tblG := tgm (in_t5 _ (List.mem_of_getElem? (i := 4) rfl)) rfl
theorem w_1103 : Cond.static yX0_thirdOf ∈ tblG := tgm (in_t5 _ (List.mem_of_getElem? (i := 5) rfl)) rfl
theorem w_1104 : Cond.code yX0_thirdOf cX0_thirdOf 1 (some .int) ∈ tblG := tgm (in_t5 _ (List.mem_of_getElem? (i := 6) rfl)) rfl
theorem w_1105 : Cond.methodLink RX11 222 yX0_allows ∈ tblG := tgm (in_t5 _ (List.mem_of_getElem? (i := 7) rfl)) rfl
theorem w_1106 : Cond.instanceMethod yX0_allows ∈ tblG := tgm (in_t5 _ (List.mem_of_getElem? (i := 8) rfl)) rfl
theorem w_1107 : Cond.selects RX0 yX0_allows yX0_allows ∈ tblG := tgm (in_t5 _ (List.mem_of_getElem? (i := 9) rfl)) rfl
theorem w_1108 : Cond.code yX0_allows cX0_allows 2 (some .boolean) ∈ tblG := tgm (in_t5 _ (List.mem_of_getElem? (i := 10) rfl)) rfl
theorem w_1109 : Cond.methodLink RX0 152 yX0_can ∈ tblG := tgm (in_t5 _ (List.mem_of_getElem? (i := 11) rfl)) rfl
theorem w_1110 : Cond.instanceMethod yX0_can ∈ tblG := tgm (in_t5 _ (List.mem_of_getElem? (i := 12) rfl)) rfl
theorem w_1111 : Cond.selects RX0 yX0_can yX0_can ∈ tblG := tgm (in_t5 _ (List.mem_of_getElem? (i := 13) rfl)) rfl
theorem w_1112 : Cond.code yX0_can cX0_can 4 (some .boolean) ∈ tblG := tgm (in_t5 _ (List.mem_of_getElem? (i := 14) rfl)) rfl
theorem w_1113 : Cond.methodLink RX0 155 yX0_goerLink ∈ tblG := tgm (in_t5 _ (List.mem_of_getElem? (i := 15) rfl)) rfl
theorem w_1115 : Cond.instanceMethod yX0_goerLink ∈ tblG := tgm (in_t5 _ (List.mem_of_getElem? (i := 17) rfl)) rfl
theorem w_1116 : Cond.code yX0_goerLink cX0_goerLink 4 (some .int) ∈ tblG := tgm (in_t5 _ (List.mem_of_getElem? (i := 18) rfl)) rfl
theorem w_1117 : Cond.methodLink "HandKnotLaw" 83 yX11_goer ∈ tblG := tgm (in_t5 _ (List.mem_of_getElem? (i := 19) rfl)) rfl
theorem w_1118 : Cond.instanceMethod yX11_goer ∈ tblG := tgm (in_t5 _ (List.mem_of_getElem? (i := 20) rfl)) rfl
theorem w_1119 : Cond.selects RX11 yX11_goer yX11_goer ∈ tblG := tgm (in_t5 _ (List.mem_of_getElem? (i := 21) rfl)) rfl
theorem w_1120 : Cond.code yX11_goer cX11_goer 2 (some .int) ∈ tblG := tgm (in_t5 _ (List.mem_of_getElem? (i := 22) rfl)) rfl
theorem w_1121 : Cond.methodLink RX11 225 yX0_can ∈ tblG := tgm (in_t5 _ (List.mem_of_getElem? (i := 23) rfl)) rfl
theorem w_1122 : Cond.methodLink RX11 228 yX0_whoGoes ∈ tblG := tgm (in_t5 _ (List.mem_of_getElem? (i := 24) rfl)) rfl
theorem w_1123 : Cond.instanceMethod yX0_whoGoes ∈ tblG := tgm (in_t5 _ (List.mem_of_getElem? (i := 25) rfl)) rfl
theorem w_1124 : Cond.selects RX0 yX0_whoGoes yX0_whoGoes ∈ tblG := tgm (in_t5 _ (List.mem_of_getElem? (i := 26) rfl)) rfl
theorem w_1125 : Cond.code yX0_whoGoes cX0_whoGoes 2 (some .int) ∈ tblG := tgm (in_t5 _ (List.mem_of_getElem? (i := 27) rfl)) rfl
theorem w_1126 : Cond.methodLink "HandKnotLaw" 87 yX11_moves ∈ tblG := tgm (in_t5 _ (List.mem_of_getElem? (i := 28) rfl)) rfl
theorem w_1127 : Cond.instanceMethod yX11_moves ∈ tblG := tgm (in_t5 _ (List.mem_of_getElem? (i := 29) rfl)) rfl
theorem w_1128 : Cond.selects RX11 yX11_moves yX11_moves ∈ tblG := tgm (in_t5 _ (List.mem_of_getElem? (i := 30) rfl)) rfl
theorem w_1129 : Cond.code yX11_moves cX11_moves 1 (some .int) ∈ tblG := tgm (in_t5 _ (List.mem_of_getElem? (i := 31) rfl)) rfl
theorem w_1130 : Cond.methodLink "HandKnotLaw" 91 yX11_moveAt ∈ tblG := tgm (in_t5 _ (List.mem_of_getElem? (i := 32) rfl)) rfl
theorem w_1131 : Cond.instanceMethod yX11_moveAt ∈ tblG := tgm (in_t5 _ (List.mem_of_getElem? (i := 33) rfl)) rfl
theorem w_1132 : Cond.selects RX11 yX11_moveAt yX11_moveAt ∈ tblG := tgm (in_t5 _ (List.mem_of_getElem? (i := 34) rfl)) rfl
theorem w_1133 : Cond.code yX11_moveAt cX11_moveAt 2 (some .int) ∈ tblG := tgm (in_t5 _ (List.mem_of_getElem? (i := 35) rfl)) rfl
theorem w_1134 : Cond.methodLink "HandKnotLaw" 95 yX11_fewest ∈ tblG := tgm (in_t5 _ (List.mem_of_getElem? (i := 36) rfl)) rfl
theorem w_1135 : Cond.instanceMethod yX11_fewest ∈ tblG := tgm (in_t5 _ (List.mem_of_getElem? (i := 37) rfl)) rfl
theorem w_1136 : Cond.selects RX11 yX11_fewest yX11_fewest ∈ tblG := tgm (in_t5 _ (List.mem_of_getElem? (i := 38) rfl)) rfl
theorem w_1137 : Cond.code yX11_fewest cX11_fewest 3 (some .int) ∈ tblG := tgm (in_t5 _ (List.mem_of_getElem? (i := 39) rfl)) rfl
theorem w_1138 : Cond.methodLink RX11 235 yX11_isDepth ∈ tblG := tgm (in_t5 _ (List.mem_of_getElem? (i := 40) rfl)) rfl
theorem w_1139 : Cond.static yX11_isDepth ∈ tblG := tgm (in_t5 _ (List.mem_of_getElem? (i := 41) rfl)) rfl
theorem w_1140 : Cond.code yX11_isDepth cX11_isDepth 1 (some .boolean) ∈ tblG := tgm (in_t5 _ (List.mem_of_getElem? (i := 42) rfl)) rfl
theorem w_1141 : Cond.methodLink RX11 238 yX7_grow ∈ tblG := tgm (in_t5 _ (List.mem_of_getElem? (i := 43) rfl)) rfl
theorem w_1142 : Cond.instanceMethod yX7_grow ∈ tblG := tgm (in_t5 _ (List.mem_of_getElem? (i := 44) rfl)) rfl
theorem w_1143 : Cond.selects RX7 yX7_grow yX7_grow ∈ tblG := tgm (in_t5 _ (List.mem_of_getElem? (i := 45) rfl)) rfl
theorem w_1144 : Cond.code yX7_grow cX7_grow 8 (some .int) ∈ tblG := tgm (in_t5 _ (List.mem_of_getElem? (i := 46) rfl)) rfl
theorem w_1145 : Cond.methodLink RX7 65 yX7_forget ∈ tblG := tgm (in_t5 _ (List.mem_of_getElem? (i := 47) rfl)) rfl
theorem w_1147 : Cond.instanceMethod yX7_forget ∈ tblG := tgm (in_t5 _ (List.mem_of_getElem? (i := 49) rfl)) rfl
theorem w_1148 : Cond.code yX7_forget cX7_forget 2 none ∈ tblG := tgm (in_t5 _ (List.mem_of_getElem? (i := 50) rfl)) rfl
theorem w_1149 : Cond.methodLink RX7 72 yX7_add ∈ tblG := tgm (in_t5 _ (List.mem_of_getElem? (i := 51) rfl)) rfl
theorem w_1151 : Cond.instanceMethod yX7_add ∈ tblG := tgm (in_t5 _ (List.mem_of_getElem? (i := 53) rfl)) rfl
theorem w_1152 : Cond.code yX7_add cX7_add 5 none ∈ tblG := tgm (in_t5 _ (List.mem_of_getElem? (i := 54) rfl)) rfl
theorem w_1153 : Cond.methodLink RX7 98 yX7_slotFor ∈ tblG := tgm (in_t5 _ (List.mem_of_getElem? (i := 55) rfl)) rfl
theorem w_1155 : Cond.instanceMethod yX7_slotFor ∈ tblG := tgm (in_t5 _ (List.mem_of_getElem? (i := 57) rfl)) rfl
theorem w_1156 : Cond.code yX7_slotFor cX7_slotFor 6 (some .int) ∈ tblG := tgm (in_t5 _ (List.mem_of_getElem? (i := 58) rfl)) rfl
theorem w_1157 : Cond.constantLong RX7 101 (-7046029254386353131 : Int64) ∈ tblG := tgm (in_t5 _ (List.mem_of_getElem? (i := 59) rfl)) rfl
theorem w_1158 : Cond.methodLink RX7 76 yX7_spreadFrom ∈ tblG := tgm (in_t5 _ (List.mem_of_getElem? (i := 60) rfl)) rfl
theorem w_1160 : Cond.instanceMethod yX7_spreadFrom ∈ tblG := tgm (in_t5 _ (List.mem_of_getElem? (i := 62) rfl)) rfl
theorem w_1161 : Cond.code yX7_spreadFrom cX7_spreadFrom 5 none ∈ tblG := tgm (in_t5 _ (List.mem_of_getElem? (i := 63) rfl)) rfl
theorem w_1162 : Cond.methodLink RX7 86 yX0_layOut ∈ tblG := tgm (in_t5 _ (List.mem_of_getElem? (i := 64) rfl)) rfl
theorem w_1163 : Cond.methodLink RX7 94 yX0_after ∈ tblG := tgm (in_t5 _ (List.mem_of_getElem? (i := 65) rfl)) rfl
theorem w_1164 : Cond.instanceMethod yX0_after ∈ tblG := tgm (in_t5 _ (List.mem_of_getElem? (i := 66) rfl)) rfl
theorem w_1165 : Cond.selects RX0 yX0_after yX0_after ∈ tblG := tgm (in_t5 _ (List.mem_of_getElem? (i := 67) rfl)) rfl
theorem w_1166 : Cond.code yX0_after cX0_after 5 (some .long) ∈ tblG := tgm (in_t5 _ (List.mem_of_getElem? (i := 68) rfl)) rfl
theorem w_1167 : Cond.methodLink RX0 161 yX0_placesOf ∈ tblG := tgm (in_t5 _ (List.mem_of_getElem? (i := 69) rfl)) rfl
theorem w_1169 : Cond.instanceMethod yX0_placesOf ∈ tblG := tgm (in_t5 _ (List.mem_of_getElem? (i := 71) rfl)) rfl
theorem w_1170 : Cond.code yX0_placesOf cX0_placesOf 2 (some .long) ∈ tblG := tgm (in_t5 _ (List.mem_of_getElem? (i := 72) rfl)) rfl
theorem w_1171 : Cond.constantLong RX0 171 (15 : Int64) ∈ tblG := tgm (in_t5 _ (List.mem_of_getElem? (i := 73) rfl)) rfl
theorem w_1172 : Cond.constantLong RX0 165 (-1 : Int64) ∈ tblG := tgm (in_t5 _ (List.mem_of_getElem? (i := 74) rfl)) rfl
theorem w_1173 : Cond.methodLink RX0 167 yX0_exchange ∈ tblG := tgm (in_t5 _ (List.mem_of_getElem? (i := 75) rfl)) rfl
theorem w_1175 : Cond.instanceMethod yX0_exchange ∈ tblG := tgm (in_t5 _ (List.mem_of_getElem? (i := 77) rfl)) rfl
theorem w_1176 : Cond.code yX0_exchange cX0_exchange 5 (some .long) ∈ tblG := tgm (in_t5 _ (List.mem_of_getElem? (i := 78) rfl)) rfl
theorem w_1177 : Cond.methodLink "HandKnotLaw" 99 yX11_next ∈ tblG := tgm (in_t5 _ (List.mem_of_getElem? (i := 79) rfl)) rfl
theorem w_1178 : Cond.instanceMethod yX11_next ∈ tblG := tgm (in_t5 _ (List.mem_of_getElem? (i := 80) rfl)) rfl
theorem w_1179 : Cond.selects RX11 yX11_next yX11_next ∈ tblG := tgm (in_t5 _ (List.mem_of_getElem? (i := 81) rfl)) rfl
theorem w_1180 : Cond.code yX11_next cX11_next 3 (some .int) ∈ tblG := tgm (in_t5 _ (List.mem_of_getElem? (i := 82) rfl)) rfl
theorem w_1181 : Cond.methodLink RX11 242 yX7_firstToLoose ∈ tblG := tgm (in_t5 _ (List.mem_of_getElem? (i := 83) rfl)) rfl
theorem w_1182 : Cond.instanceMethod yX7_firstToLoose ∈ tblG := tgm (in_t5 _ (List.mem_of_getElem? (i := 84) rfl)) rfl
theorem w_1183 : Cond.selects RX7 yX7_firstToLoose yX7_firstToLoose ∈ tblG := tgm (in_t5 _ (List.mem_of_getElem? (i := 85) rfl)) rfl
theorem w_1184 : Cond.code yX7_firstToLoose cX7_firstToLoose 4 (some .int) ∈ tblG := tgm (in_t5 _ (List.mem_of_getElem? (i := 86) rfl)) rfl
theorem w_1185 : Cond.methodLink RX7 34 yX7_grow ∈ tblG := tgm (in_t5 _ (List.mem_of_getElem? (i := 87) rfl)) rfl
theorem w_1186 : Cond.methodLink "HandKnotLaw" 103 yX11_caller ∈ tblG := tgm (in_t5 _ (List.mem_of_getElem? (i := 88) rfl)) rfl
theorem w_1187 : Cond.instanceMethod yX11_caller ∈ tblG := tgm (in_t5 _ (List.mem_of_getElem? (i := 89) rfl)) rfl
theorem w_1188 : Cond.selects RX11 yX11_caller yX11_caller ∈ tblG := tgm (in_t5 _ (List.mem_of_getElem? (i := 90) rfl)) rfl
theorem w_1189 : Cond.code yX11_caller cX11_caller 1 (some .int) ∈ tblG := tgm (in_t5 _ (List.mem_of_getElem? (i := 91) rfl)) rfl
theorem w_1190 : Cond.methodLink RX11 246 yX10_bestCall ∈ tblG := tgm (in_t5 _ (List.mem_of_getElem? (i := 92) rfl)) rfl
theorem w_1191 : Cond.instanceMethod yX10_bestCall ∈ tblG := tgm (in_t5 _ (List.mem_of_getElem? (i := 93) rfl)) rfl
theorem w_1192 : Cond.selects RX10 yX10_bestCall yX10_bestCall ∈ tblG := tgm (in_t5 _ (List.mem_of_getElem? (i := 94) rfl)) rfl
theorem w_1193 : Cond.code yX10_bestCall cX10_bestCall 8 (some .int) ∈ tblG := tgm (in_t5 _ (List.mem_of_getElem? (i := 95) rfl)) rfl
theorem w_1194 : Cond.methodLink RX10 32 yX0_after ∈ tblG := tgm (in_t5 _ (List.mem_of_getElem? (i := 96) rfl)) rfl
theorem w_1195 : Cond.methodLink RX10 44 yX0_layOut ∈ tblG := tgm (in_t5 _ (List.mem_of_getElem? (i := 97) rfl)) rfl
theorem w_1196 : Cond.methodLink RX10 48 yX10_leastBehind ∈ tblG := tgm (in_t5 _ (List.mem_of_getElem? (i := 98) rfl)) rfl
theorem w_1197 : Cond.static yX10_leastBehind ∈ tblG := tgm (in_t5 _ (List.mem_of_getElem? (i := 99) rfl)) rfl
theorem w_1198 : Cond.code yX10_leastBehind cX10_leastBehind 3 (some .int) ∈ tblG := tgm (in_t5 _ (List.mem_of_getElem? (i := 100) rfl)) rfl
theorem w_1199 : Cond.methodLink RX10 55 yX0_leftBehind ∈ tblG := tgm (in_t5 _ (List.mem_of_getElem? (i := 101) rfl)) rfl
theorem w_1200 : Cond.instanceMethod yX0_leftBehind ∈ tblG := tgm (in_t5 _ (List.mem_of_getElem? (i := 102) rfl)) rfl
theorem w_1201 : Cond.selects RX0 yX0_leftBehind yX0_leftBehind ∈ tblG := tgm (in_t5 _ (List.mem_of_getElem? (i := 103) rfl)) rfl
theorem w_1202 : Cond.code yX0_leftBehind cX0_leftBehind 2 (some .int) ∈ tblG := tgm (in_t5 _ (List.mem_of_getElem? (i := 104) rfl)) rfl
theorem w_1203 : Cond.methodLink RX10 59 Lib.Math.min.name ∈ tblG := tgm (in_t5 _ (List.mem_of_getElem? (i := 105) rfl)) rfl
theorem w_1204 : Cond.methodLink "HandKnotLaw" 107 yX11_hang ∈ tblG := tgm (in_t5 _ (List.mem_of_getElem? (i := 106) rfl)) rfl
theorem w_1205 : Cond.instanceMethod yX11_hang ∈ tblG := tgm (in_t5 _ (List.mem_of_getElem? (i := 107) rfl)) rfl
theorem w_1206 : Cond.selects RX11 yX11_hang yX11_hang ∈ tblG := tgm (in_t5 _ (List.mem_of_getElem? (i := 108) rfl)) rfl
theorem w_1207 : Cond.code yX11_hang cX11_hang 3 (some .int) ∈ tblG := tgm (in_t5 _ (List.mem_of_getElem? (i := 109) rfl)) rfl
theorem w_1208 : Cond.methodLink RX11 250 yX0_signsBetween ∈ tblG := tgm (in_t5 _ (List.mem_of_getElem? (i := 110) rfl)) rfl
theorem w_1209 : Cond.instanceMethod yX0_signsBetween ∈ tblG := tgm (in_t5 _ (List.mem_of_getElem? (i := 111) rfl)) rfl
theorem w_1210 : Cond.selects RX0 yX0_signsBetween yX0_signsBetween ∈ tblG := tgm (in_t5 _ (List.mem_of_getElem? (i := 112) rfl)) rfl
theorem w_1211 : Cond.code yX0_signsBetween cX0_signsBetween 7 (some .int) ∈ tblG := tgm (in_t5 _ (List.mem_of_getElem? (i := 113) rfl)) rfl
theorem w_1212 : Cond.methodLink RX0 124 yX0_ringOfPass ∈ tblG := tgm (in_t5 _ (List.mem_of_getElem? (i := 114) rfl)) rfl
theorem w_1214 : Cond.instanceMethod yX0_ringOfPass ∈ tblG := tgm (in_t5 _ (List.mem_of_getElem? (i := 116) rfl)) rfl
theorem w_1215 : Cond.code yX0_ringOfPass cX0_ringOfPass 2 (some .int) ∈ tblG := tgm (in_t5 _ (List.mem_of_getElem? (i := 117) rfl)) rfl
theorem w_1216 : Cond.methodLink RX0 127 yX0_signOf ∈ tblG := tgm (in_t5 _ (List.mem_of_getElem? (i := 118) rfl)) rfl
theorem w_1217 : Cond.methodLink "HandKnotLaw" 111 yX11_colours ∈ tblG := tgm (in_t5 _ (List.mem_of_getElem? (i := 119) rfl)) rfl
theorem w_1218 : Cond.instanceMethod yX11_colours ∈ tblG := tgm (in_t5 _ (List.mem_of_getElem? (i := 120) rfl)) rfl
theorem w_1219 : Cond.selects RX11 yX11_colours yX11_colours ∈ tblG := tgm (in_t5 _ (List.mem_of_getElem? (i := 121) rfl)) rfl
theorem w_1220 : Cond.code yX11_colours cX11_colours 2 (some .int) ∈ tblG := tgm (in_t5 _ (List.mem_of_getElem? (i := 122) rfl)) rfl
theorem w_1221 : Cond.methodLink RX11 254 yX2_freeColours ∈ tblG := tgm (in_t5 _ (List.mem_of_getElem? (i := 123) rfl)) rfl
theorem w_1222 : Cond.instanceMethod yX2_freeColours ∈ tblG := tgm (in_t5 _ (List.mem_of_getElem? (i := 124) rfl)) rfl
theorem w_1223 : Cond.selects RX2 yX2_freeColours yX2_freeColours ∈ tblG := tgm (in_t5 _ (List.mem_of_getElem? (i := 125) rfl)) rfl
theorem w_1224 : Cond.code yX2_freeColours cX2_freeColours 6 (some .int) ∈ tblG := tgm (in_t5 _ (List.mem_of_getElem? (i := 126) rfl)) rfl
theorem w_1225 : Cond.methodLink RX2 34 yX2_countArcs ∈ tblG := tgm (in_t5 _ (List.mem_of_getElem? (i := 127) rfl)) rfl
theorem w_1226 : Cond.instanceMethod yX2_countArcs ∈ tblG := tgm (in_t5 _ (List.mem_of_getElem? (i := 128) rfl)) rfl
theorem w_1227 : Cond.selects RX2 yX2_countArcs yX2_countArcs ∈ tblG := tgm (in_t5 _ (List.mem_of_getElem? (i := 129) rfl)) rfl
theorem w_1228 : Cond.code yX2_countArcs cX2_countArcs 4 (some .int) ∈ tblG := tgm (in_t5 _ (List.mem_of_getElem? (i := 130) rfl)) rfl
theorem w_1229 : Cond.methodLink RX2 30 yX2_traceArcs ∈ tblG := tgm (in_t5 _ (List.mem_of_getElem? (i := 131) rfl)) rfl
theorem w_1231 : Cond.instanceMethod yX2_traceArcs ∈ tblG := tgm (in_t5 _ (List.mem_of_getElem? (i := 133) rfl)) rfl
theorem w_1232 : Cond.code yX2_traceArcs cX2_traceArcs 11 none ∈ tblG := tgm (in_t5 _ (List.mem_of_getElem? (i := 134) rfl)) rfl
theorem w_1233 : Cond.methodLink RX2 67 yX0_isOpen ∈ tblG := tgm (in_t5 _ (List.mem_of_getElem? (i := 135) rfl)) rfl
theorem w_1234 : Cond.methodLink RX2 70 Lib.Math.max.name ∈ tblG := tgm (in_t5 _ (List.mem_of_getElem? (i := 136) rfl)) rfl
theorem w_1235 : Cond.methodLink RX2 49 yX0_isLeft ∈ tblG := tgm (in_t5 _ (List.mem_of_getElem? (i := 137) rfl)) rfl
theorem w_1236 : Cond.methodLink RX2 53 yX2_fillRow ∈ tblG := tgm (in_t5 _ (List.mem_of_getElem? (i := 138) rfl)) rfl
theorem w_1238 : Cond.instanceMethod yX2_fillRow ∈ tblG := tgm (in_t5 _ (List.mem_of_getElem? (i := 140) rfl)) rfl
theorem w_1239 : Cond.code yX2_fillRow cX2_fillRow 5 none ∈ tblG := tgm (in_t5 _ (List.mem_of_getElem? (i := 141) rfl)) rfl
theorem w_1240 : Cond.methodLink RX2 75 yJ7_fill_53178 ∈ tblG := tgm (in_t5 _ (List.mem_of_getElem? (i := 142) rfl)) rfl
