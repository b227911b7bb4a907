/-! The words of the tables that the walks use, each by its place (written by wip/gen.py). -/
theorem zt_0 {w : Cond} (h : w ∈ k2_sels lw_privs) : w ∈ lw_tbl := List.mem_append_left _ h
theorem zt_1 {w : Cond} (h : w ∈ tables_1_1) : w ∈ lw_tbl := List.mem_append_right _ (show w ∈ tables_1 from (List.mem_append_left _ h))
theorem zt_2 {w : Cond} (h : w ∈ tables_1_2) : w ∈ lw_tbl := List.mem_append_right _ (show w ∈ tables_1 from (List.mem_append_right _ (List.mem_append_left _ h)))
theorem zt_3 {w : Cond} (h : w ∈ tables_1_3) : w ∈ lw_tbl := List.mem_append_right _ (show w ∈ tables_1 from (List.mem_append_right _ (List.mem_append_right _ (List.mem_append_left _ h))))
theorem zt_4 {w : Cond} (h : w ∈ tables_1_4) : w ∈ lw_tbl := List.mem_append_right _ (show w ∈ tables_1 from (List.mem_append_right _ (List.mem_append_right _ (List.mem_append_right _ (List.mem_append_left _ h)))))
theorem zt_5 {w : Cond} (h : w ∈ tables_1_5) : w ∈ lw_tbl := List.mem_append_right _ (show w ∈ tables_1 from (List.mem_append_right _ (List.mem_append_right _ (List.mem_append_right _ (List.mem_append_right _ (List.mem_append_left _ h))))))
theorem zt_6 {w : Cond} (h : w ∈ tables_1_6) : w ∈ lw_tbl := List.mem_append_right _ (show w ∈ tables_1 from (List.mem_append_right _ (List.mem_append_right _ (List.mem_append_right _ (List.mem_append_right _ (List.mem_append_right _ (List.mem_append_left _ h)))))))
theorem zt_7 {w : Cond} (h : w ∈ tables_1_7) : w ∈ lw_tbl := List.mem_append_right _ (show w ∈ tables_1 from (List.mem_append_right _ (List.mem_append_right _ (List.mem_append_right _ (List.mem_append_right _ (List.mem_append_right _ (List.mem_append_right _ (List.mem_append_left _ h))))))))
theorem zt_8 {w : Cond} (h : w ∈ tables_1_8) : w ∈ lw_tbl := List.mem_append_right _ (show w ∈ tables_1 from (List.mem_append_right _ (List.mem_append_right _ (List.mem_append_right _ (List.mem_append_right _ (List.mem_append_right _ (List.mem_append_right _ (List.mem_append_right _ (List.mem_append_left _ h)))))))))
theorem zt_9 {w : Cond} (h : w ∈ tables_1_9) : w ∈ lw_tbl := List.mem_append_right _ (show w ∈ tables_1 from (List.mem_append_right _ (List.mem_append_right _ (List.mem_append_right _ (List.mem_append_right _ (List.mem_append_right _ (List.mem_append_right _ (List.mem_append_right _ (List.mem_append_right _ h)))))))))
theorem zw_0 : Cond.selects RX11 yX11_openTap yX11_openTap ∈ zT := zTm (zt_0 (List.mem_of_getElem? (i := 0) (by decide +kernel))) rfl
theorem zw_1 : Cond.selects RX11 yX11_buildRow yX11_buildRow ∈ zT := zTm (zt_0 (List.mem_of_getElem? (i := 1) (by decide +kernel))) rfl
theorem zw_2 : Cond.selects RX11 yX11_remember yX11_remember ∈ zT := zTm (zt_0 (List.mem_of_getElem? (i := 2) (by decide +kernel))) rfl
theorem zw_3 : Cond.selects RX11 yX11_closeTap yX11_closeTap ∈ zT := zTm (zt_0 (List.mem_of_getElem? (i := 3) (by decide +kernel))) rfl
theorem zw_4 : Cond.selects RX11 yX11_makeBarrel yX11_makeBarrel ∈ zT := zTm (zt_0 (List.mem_of_getElem? (i := 4) (by decide +kernel))) rfl
theorem zw_5 : Cond.selects RJx4a65c yJx4a65c_add_72be8 yJx4a65c_add_72be8 ∈ zT := zTm (zt_0 (List.mem_of_getElem? (i := 5) (by decide +kernel))) rfl
theorem zw_6 : Cond.selects RJx4a65c yJx4a65c_grow_d5877 yJx4a65c_grow_d5877 ∈ zT := zTm (zt_0 (List.mem_of_getElem? (i := 6) (by decide +kernel))) rfl
theorem zw_7 : Cond.selects RJx4a65c yJx4a65c_grow_92f84 yJx4a65c_grow_92f84 ∈ zT := zTm (zt_0 (List.mem_of_getElem? (i := 7) (by decide +kernel))) rfl
theorem zw_8 : Cond.selects RX11 yX11_joinCask yX11_joinCask ∈ zT := zTm (zt_0 (List.mem_of_getElem? (i := 8) (by decide +kernel))) rfl
theorem zw_9 : Cond.selects RX11 yX11_lookUpCask yX11_lookUpCask ∈ zT := zTm (zt_0 (List.mem_of_getElem? (i := 9) (by decide +kernel))) rfl
theorem zw_10 : Cond.selects RX11 yX11_lookUp yX11_lookUp ∈ zT := zTm (zt_0 (List.mem_of_getElem? (i := 10) (by decide +kernel))) rfl
theorem zw_11 : Cond.selects RX11 yX11_lookUpVessel yX11_lookUpVessel ∈ zT := zTm (zt_0 (List.mem_of_getElem? (i := 11) (by decide +kernel))) rfl
theorem zw_12 : Cond.selects RX11 yX11_leaveCask yX11_leaveCask ∈ zT := zTm (zt_0 (List.mem_of_getElem? (i := 12) (by decide +kernel))) rfl
theorem zw_13 : Cond.selects RX11 yX11_layBarrel yX11_layBarrel ∈ zT := zTm (zt_0 (List.mem_of_getElem? (i := 13) (by decide +kernel))) rfl
theorem zw_14 : Cond.selects RX11 yX11_readPlace yX11_readPlace ∈ zT := zTm (zt_0 (List.mem_of_getElem? (i := 14) (by decide +kernel))) rfl
theorem zw_15 : Cond.selects RX11 yX11_liftBarrel yX11_liftBarrel ∈ zT := zTm (zt_0 (List.mem_of_getElem? (i := 15) (by decide +kernel))) rfl
theorem zw_16 : Cond.selects RX11 yX11_find yX11_find ∈ zT := zTm (zt_0 (List.mem_of_getElem? (i := 16) (by decide +kernel))) rfl
theorem zw_17 : Cond.selects RX11 yX11_tellCents yX11_tellCents ∈ zT := zTm (zt_0 (List.mem_of_getElem? (i := 17) (by decide +kernel))) rfl
theorem zw_18 : Cond.selects RX11 yX11_fillVessel yX11_fillVessel ∈ zT := zTm (zt_0 (List.mem_of_getElem? (i := 18) (by decide +kernel))) rfl
theorem zw_19 : Cond.selects RX11 yX11_lookUpFreeVessel yX11_lookUpFreeVessel ∈ zT := zTm (zt_0 (List.mem_of_getElem? (i := 19) (by decide +kernel))) rfl
theorem zw_20 : Cond.selects RX0 yX0_vesselTakes yX0_vesselTakes ∈ zT := zTm (zt_0 (List.mem_of_getElem? (i := 20) (by decide +kernel))) rfl
theorem zw_21 : Cond.selects RX0 yX0_steelTakes yX0_steelTakes ∈ zT := zTm (zt_0 (List.mem_of_getElem? (i := 21) (by decide +kernel))) rfl
theorem zw_22 : Cond.selects RX10 yX10_indexOf yX10_indexOf ∈ zT := zTm (zt_0 (List.mem_of_getElem? (i := 22) (by decide +kernel))) rfl
theorem zw_23 : Cond.selects RX10 yX10_isAt yX10_isAt ∈ zT := zTm (zt_0 (List.mem_of_getElem? (i := 23) (by decide +kernel))) rfl
theorem zw_24 : Cond.selects RX11 yX11_rackWine yX11_rackWine ∈ zT := zTm (zt_0 (List.mem_of_getElem? (i := 24) (by decide +kernel))) rfl
theorem zw_25 : Cond.selects RX11 yX11_checkPair yX11_checkPair ∈ zT := zTm (zt_0 (List.mem_of_getElem? (i := 25) (by decide +kernel))) rfl
theorem zw_26 : Cond.selects RX0 yX0_vesselSpares yX0_vesselSpares ∈ zT := zTm (zt_0 (List.mem_of_getElem? (i := 26) (by decide +kernel))) rfl
theorem zw_27 : Cond.selects RX0 yX0_oakSpares yX0_oakSpares ∈ zT := zTm (zt_0 (List.mem_of_getElem? (i := 27) (by decide +kernel))) rfl
theorem zw_28 : Cond.selects RX2 yX2_drawFromVessel yX2_drawFromVessel ∈ zT := zTm (zt_0 (List.mem_of_getElem? (i := 28) (by decide +kernel))) rfl
theorem zw_29 : Cond.selects RX2 yX2_reckonShares yX2_reckonShares ∈ zT := zTm (zt_0 (List.mem_of_getElem? (i := 29) (by decide +kernel))) rfl
theorem zw_30 : Cond.selects RX2 yX2_addGoing yX2_addGoing ∈ zT := zTm (zt_0 (List.mem_of_getElem? (i := 30) (by decide +kernel))) rfl
theorem zw_31 : Cond.selects RX11 yX11_hasTooManyPartsFor yX11_hasTooManyPartsFor ∈ zT := zTm (zt_0 (List.mem_of_getElem? (i := 31) (by decide +kernel))) rfl
theorem zw_32 : Cond.selects RX11 yX11_pourInto yX11_pourInto ∈ zT := zTm (zt_0 (List.mem_of_getElem? (i := 32) (by decide +kernel))) rfl
theorem zw_33 : Cond.selects RX11 yX11_topUpVessel yX11_topUpVessel ∈ zT := zTm (zt_0 (List.mem_of_getElem? (i := 33) (by decide +kernel))) rfl
theorem zw_34 : Cond.selects RX11 yX11_pickBarrel yX11_pickBarrel ∈ zT := zTm (zt_0 (List.mem_of_getElem? (i := 34) (by decide +kernel))) rfl
theorem zw_35 : Cond.selects RX11 yX11_blendInto yX11_blendInto ∈ zT := zTm (zt_0 (List.mem_of_getElem? (i := 35) (by decide +kernel))) rfl
theorem zw_36 : Cond.selects RX11 yX11_drawPicked yX11_drawPicked ∈ zT := zTm (zt_0 (List.mem_of_getElem? (i := 36) (by decide +kernel))) rfl
theorem zw_37 : Cond.selects RX11 yX11_letMonthsGoBy yX11_letMonthsGoBy ∈ zT := zTm (zt_0 (List.mem_of_getElem? (i := 37) (by decide +kernel))) rfl
theorem zw_38 : Cond.selects RX11 yX11_breatheAway yX11_breatheAway ∈ zT := zTm (zt_0 (List.mem_of_getElem? (i := 38) (by decide +kernel))) rfl
theorem zw_39 : Cond.selects RX11 yX11_fillBottles yX11_fillBottles ∈ zT := zTm (zt_0 (List.mem_of_getElem? (i := 39) (by decide +kernel))) rfl
theorem zw_40 : Cond.selects RX11 yX11_drawOff yX11_drawOff ∈ zT := zTm (zt_0 (List.mem_of_getElem? (i := 40) (by decide +kernel))) rfl
theorem zw_41 : Cond.selects RX11 yX11_drainVessel yX11_drainVessel ∈ zT := zTm (zt_0 (List.mem_of_getElem? (i := 41) (by decide +kernel))) rfl
theorem zw_42 : Cond.selects RX11 yX11_washVessel yX11_washVessel ∈ zT := zTm (zt_0 (List.mem_of_getElem? (i := 42) (by decide +kernel))) rfl
theorem zw_43 : Cond.selects RX11 yX11_lookUpPart yX11_lookUpPart ∈ zT := zTm (zt_0 (List.mem_of_getElem? (i := 43) (by decide +kernel))) rfl
theorem zw_44 : Cond.selects RX11 yX11_roomOf yX11_roomOf ∈ zT := zTm (zt_0 (List.mem_of_getElem? (i := 44) (by decide +kernel))) rfl
theorem zw_45 : Cond.selects RX11 yX11_makeLabel yX11_makeLabel ∈ zT := zTm (zt_0 (List.mem_of_getElem? (i := 45) (by decide +kernel))) rfl
theorem zw_46 : Cond.selects RX11 yX11_makeRule yX11_makeRule ∈ zT := zTm (zt_0 (List.mem_of_getElem? (i := 46) (by decide +kernel))) rfl
theorem zw_47 : Cond.selects RX11 yX11_lookUpLabel yX11_lookUpLabel ∈ zT := zTm (zt_0 (List.mem_of_getElem? (i := 47) (by decide +kernel))) rfl
theorem zw_48 : Cond.selects RX11 yX11_judgeBarrel yX11_judgeBarrel ∈ zT := zTm (zt_0 (List.mem_of_getElem? (i := 48) (by decide +kernel))) rfl
theorem zw_49 : Cond.selects RX3 yX3_answerOfLeaf yX3_answerOfLeaf ∈ zT := zTm (zt_0 (List.mem_of_getElem? (i := 49) (by decide +kernel))) rfl
theorem zw_50 : Cond.selects RX11 yX11_planBlend yX11_planBlend ∈ zT := zTm (zt_0 (List.mem_of_getElem? (i := 50) (by decide +kernel))) rfl
theorem zw_51 : Cond.selects RX11 yX11_checkPicksForPlan yX11_checkPicksForPlan ∈ zT := zTm (zt_0 (List.mem_of_getElem? (i := 51) (by decide +kernel))) rfl
theorem zw_52 : Cond.selects RX11 yX11_askForPlan yX11_askForPlan ∈ zT := zTm (zt_0 (List.mem_of_getElem? (i := 52) (by decide +kernel))) rfl
theorem zw_53 : Cond.selects RX6 yX6_chooseFrom yX6_chooseFrom ∈ zT := zTm (zt_0 (List.mem_of_getElem? (i := 53) (by decide +kernel))) rfl
theorem zw_54 : Cond.selects RX11 yX11_takeBack yX11_takeBack ∈ zT := zTm (zt_0 (List.mem_of_getElem? (i := 54) (by decide +kernel))) rfl
theorem zw_55 : Cond.selects RJx4a65c yJx4a65c_fastRemove_b59b0 yJx4a65c_fastRemove_b59b0 ∈ zT := zTm (zt_0 (List.mem_of_getElem? (i := 55) (by decide +kernel))) rfl
theorem zw_56 : Cond.selects RX11 yX11_restorePlace yX11_restorePlace ∈ zT := zTm (zt_0 (List.mem_of_getElem? (i := 56) (by decide +kernel))) rfl
theorem zw_57 : Cond.selects RX11 yX11_seeRow yX11_seeRow ∈ zT := zTm (zt_0 (List.mem_of_getElem? (i := 57) (by decide +kernel))) rfl
theorem zw_58 : Cond.selects RX12 yX12_begin yX12_begin ∈ zT := zTm (zt_0 (List.mem_of_getElem? (i := 58) (by decide +kernel))) rfl
theorem zw_59 : Cond.selects RX12 yX12_no yX12_no ∈ zT := zTm (zt_0 (List.mem_of_getElem? (i := 59) (by decide +kernel))) rfl
theorem zw_60 : Cond.selects RX12 yX12_keep yX12_keep ∈ zT := zTm (zt_0 (List.mem_of_getElem? (i := 60) (by decide +kernel))) rfl
theorem zw_61 : Cond.selects RX12 yX12_lookedCask yX12_lookedCask ∈ zT := zTm (zt_0 (List.mem_of_getElem? (i := 61) (by decide +kernel))) rfl
theorem zw_62 : Cond.selects RX12 yX12_lookedVessel yX12_lookedVessel ∈ zT := zTm (zt_0 (List.mem_of_getElem? (i := 62) (by decide +kernel))) rfl
theorem zw_63 : Cond.selects RX12 yX12_looked yX12_looked ∈ zT := zTm (zt_0 (List.mem_of_getElem? (i := 63) (by decide +kernel))) rfl
theorem zw_64 : Cond.selects RX12 yX12_readPlace yX12_readPlace ∈ zT := zTm (zt_0 (List.mem_of_getElem? (i := 64) (by decide +kernel))) rfl
theorem zw_65 : Cond.selects RX12 yX12_isAmount yX12_isAmount ∈ zT := zTm (zt_0 (List.mem_of_getElem? (i := 65) (by decide +kernel))) rfl
theorem zw_66 : Cond.selects RX12 yX12_isInCask yX12_isInCask ∈ zT := zTm (zt_0 (List.mem_of_getElem? (i := 66) (by decide +kernel))) rfl
theorem zw_67 : Cond.selects RX12 yX12_most yX12_most ∈ zT := zTm (zt_0 (List.mem_of_getElem? (i := 67) (by decide +kernel))) rfl
theorem zw_68 : Cond.selects RX12 yX12_mostOfVessel yX12_mostOfVessel ∈ zT := zTm (zt_0 (List.mem_of_getElem? (i := 68) (by decide +kernel))) rfl
theorem zw_69 : Cond.selects RX12 yX12_ran yX12_ran ∈ zT := zTm (zt_0 (List.mem_of_getElem? (i := 69) (by decide +kernel))) rfl
theorem zw_70 : Cond.selects RX12 yX12_inVessel yX12_inVessel ∈ zT := zTm (zt_0 (List.mem_of_getElem? (i := 70) (by decide +kernel))) rfl
theorem zw_71 : Cond.selects RX12 yX12_mixInto yX12_mixInto ∈ zT := zTm (zt_0 (List.mem_of_getElem? (i := 71) (by decide +kernel))) rfl
theorem zw_72 : Cond.selects RX12 yX12_mix yX12_mix ∈ zT := zTm (zt_0 (List.mem_of_getElem? (i := 72) (by decide +kernel))) rfl
theorem zw_73 : Cond.selects RX12 yX12_mixDraws yX12_mixDraws ∈ zT := zTm (zt_0 (List.mem_of_getElem? (i := 73) (by decide +kernel))) rfl
theorem zw_74 : Cond.selects RX12 yX12_shares yX12_shares ∈ zT := zTm (zt_0 (List.mem_of_getElem? (i := 74) (by decide +kernel))) rfl
theorem zw_75 : Cond.selects RX12 yX12_become yX12_become ∈ zT := zTm (zt_0 (List.mem_of_getElem? (i := 75) (by decide +kernel))) rfl
theorem zw_76 : Cond.selects RX12 yX12_account yX12_account ∈ zT := zTm (zt_0 (List.mem_of_getElem? (i := 76) (by decide +kernel))) rfl
theorem zw_77 : Cond.selects RX12 yX12_enter yX12_enter ∈ zT := zTm (zt_0 (List.mem_of_getElem? (i := 77) (by decide +kernel))) rfl
theorem zw_78 : Cond.selects RX12 yX12_spare yX12_spare ∈ zT := zTm (zt_0 (List.mem_of_getElem? (i := 78) (by decide +kernel))) rfl
theorem zw_79 : Cond.selects RX12 yX12_spareOfVessel yX12_spareOfVessel ∈ zT := zTm (zt_0 (List.mem_of_getElem? (i := 79) (by decide +kernel))) rfl
theorem zw_80 : Cond.selects RX12 yX12_drawFrom yX12_drawFrom ∈ zT := zTm (zt_0 (List.mem_of_getElem? (i := 80) (by decide +kernel))) rfl
theorem zw_81 : Cond.selects RX12 yX12_addDraw yX12_addDraw ∈ zT := zTm (zt_0 (List.mem_of_getElem? (i := 81) (by decide +kernel))) rfl
theorem zw_82 : Cond.selects RX12 yX12_takeDraws yX12_takeDraws ∈ zT := zTm (zt_0 (List.mem_of_getElem? (i := 82) (by decide +kernel))) rfl
theorem zw_83 : Cond.selects RX12 yX12_take yX12_take ∈ zT := zTm (zt_0 (List.mem_of_getElem? (i := 83) (by decide +kernel))) rfl
theorem zw_84 : Cond.selects RX12 yX12_isPicked yX12_isPicked ∈ zT := zTm (zt_0 (List.mem_of_getElem? (i := 84) (by decide +kernel))) rfl
theorem zw_85 : Cond.selects RX12 yX12_isOneInCask yX12_isOneInCask ∈ zT := zTm (zt_0 (List.mem_of_getElem? (i := 85) (by decide +kernel))) rfl
theorem zw_86 : Cond.selects RX12 yX12_tellRate yX12_tellRate ∈ zT := zTm (zt_0 (List.mem_of_getElem? (i := 86) (by decide +kernel))) rfl
theorem zw_87 : Cond.selects RX12 yX12_rateOf yX12_rateOf ∈ zT := zTm (zt_0 (List.mem_of_getElem? (i := 87) (by decide +kernel))) rfl
theorem zw_88 : Cond.selects RX12 yX12_lookedPart yX12_lookedPart ∈ zT := zTm (zt_0 (List.mem_of_getElem? (i := 88) (by decide +kernel))) rfl
theorem zw_89 : Cond.selects RX12 yX12_inAll yX12_inAll ∈ zT := zTm (zt_0 (List.mem_of_getElem? (i := 89) (by decide +kernel))) rfl
theorem zw_90 : Cond.selects RX12 yX12_lookedLabel yX12_lookedLabel ∈ zT := zTm (zt_0 (List.mem_of_getElem? (i := 90) (by decide +kernel))) rfl
theorem zw_91 : Cond.selects RX12 yX12_mixVessel yX12_mixVessel ∈ zT := zTm (zt_0 (List.mem_of_getElem? (i := 91) (by decide +kernel))) rfl
theorem zw_92 : Cond.selects RX12 yX12_sharesOfMix yX12_sharesOfMix ∈ zT := zTm (zt_0 (List.mem_of_getElem? (i := 92) (by decide +kernel))) rfl
theorem zw_93 : Cond.selects RX12 yX12_holdsAll yX12_holdsAll ∈ zT := zTm (zt_0 (List.mem_of_getElem? (i := 93) (by decide +kernel))) rfl
theorem zw_94 : Cond.selects RX12 yX12_holds yX12_holds ∈ zT := zTm (zt_0 (List.mem_of_getElem? (i := 94) (by decide +kernel))) rfl
theorem zw_95 : Cond.selects RX12 yX12_dear yX12_dear ∈ zT := zTm (zt_0 (List.mem_of_getElem? (i := 95) (by decide +kernel))) rfl
theorem zw_96 : Cond.selects RX12 yX12_search yX12_search ∈ zT := zTm (zt_0 (List.mem_of_getElem? (i := 96) (by decide +kernel))) rfl
theorem zw_97 : Cond.selects RX12 yX12_takeBack yX12_takeBack ∈ zT := zTm (zt_0 (List.mem_of_getElem? (i := 97) (by decide +kernel))) rfl
theorem zw_98 : Cond.selects RX12 yX12_isBarrel yX12_isBarrel ∈ zT := zTm (zt_0 (List.mem_of_getElem? (i := 98) (by decide +kernel))) rfl
theorem zw_99 : Cond.selects RX12 yX12_ofPart yX12_ofPart ∈ zT := zTm (zt_0 (List.mem_of_getElem? (i := 99) (by decide +kernel))) rfl
theorem zw_101 : Cond.initialized RX11 ∈ zT := zTm (zt_1 (List.mem_of_getElem? (i := 1) (by decide +kernel))) rfl
theorem zw_102 : Cond.initialized RJxa1e45 ∈ zT := zTm (zt_1 (List.mem_of_getElem? (i := 2) (by decide +kernel))) rfl
theorem zw_103 : Cond.initialized RJxc12de ∈ zT := zTm (zt_1 (List.mem_of_getElem? (i := 3) (by decide +kernel))) rfl
theorem zw_104 : Cond.initialized RJx4a65c ∈ zT := zTm (zt_1 (List.mem_of_getElem? (i := 4) (by decide +kernel))) rfl
theorem zw_105 : Cond.initialized RX5 ∈ zT := zTm (zt_1 (List.mem_of_getElem? (i := 5) (by decide +kernel))) rfl
theorem zw_106 : Cond.initialized RX8 ∈ zT := zTm (zt_1 (List.mem_of_getElem? (i := 6) (by decide +kernel))) rfl
theorem zw_108 : Cond.initialized RX6 ∈ zT := zTm (zt_1 (List.mem_of_getElem? (i := 8) (by decide +kernel))) rfl
theorem zw_109 : Cond.initialized RX10 ∈ zT := zTm (zt_1 (List.mem_of_getElem? (i := 9) (by decide +kernel))) rfl
theorem zw_110 : Cond.initialized RX4 ∈ zT := zTm (zt_1 (List.mem_of_getElem? (i := 10) (by decide +kernel))) rfl
theorem zw_111 : Cond.initialized RX2 ∈ zT := zTm (zt_1 (List.mem_of_getElem? (i := 11) (by decide +kernel))) rfl
theorem zw_112 : Cond.initialized RX1 ∈ zT := zTm (zt_1 (List.mem_of_getElem? (i := 12) (by decide +kernel))) rfl
theorem zw_113 : Cond.initialized RX9 ∈ zT := zTm (zt_1 (List.mem_of_getElem? (i := 13) (by decide +kernel))) rfl
theorem zw_114 : Cond.initialized RX12 ∈ zT := zTm (zt_1 (List.mem_of_getElem? (i := 14) (by decide +kernel))) rfl
theorem zw_115 : Cond.initialized RX7 ∈ zT := zTm (zt_1 (List.mem_of_getElem? (i := 15) (by decide +kernel))) rfl
theorem zw_116 : Cond.initialized RJ7 ∈ zT := zTm (zt_1 (List.mem_of_getElem? (i := 16) (by decide +kernel))) rfl
theorem zw_117 : Cond.initialized RX0 ∈ zT := zTm (zt_1 (List.mem_of_getElem? (i := 17) (by decide +kernel))) rfl
theorem zw_118 : Cond.initialized RJ8 ∈ zT := zTm (zt_1 (List.mem_of_getElem? (i := 18) (by decide +kernel))) rfl
theorem zw_120 : Cond.initialized RJ15 ∈ zT := zTm (zt_1 (List.mem_of_getElem? (i := 20) (by decide +kernel))) rfl
theorem zw_121 : Cond.initialized RJ3 ∈ zT := zTm (zt_1 (List.mem_of_getElem? (i := 21) (by decide +kernel))) rfl
theorem zw_122 : Cond.initialized RX3 ∈ zT := zTm (zt_1 (List.mem_of_getElem? (i := 22) (by decide +kernel))) rfl
theorem zw_127 : Cond.code yX11_init cX11_init 2 none ∈ zT := zTm (zt_1 (List.mem_of_getElem? (i := 27) (by decide +kernel))) rfl
theorem zw_128 : Cond.methodLink RX11 3 objectInit ∈ zT := zTm (zt_1 (List.mem_of_getElem? (i := 28) (by decide +kernel))) rfl
theorem zw_131 : Cond.classLink RX11 9 RJx4a65c ∈ zT := zTm (zt_1 (List.mem_of_getElem? (i := 31) (by decide +kernel))) rfl
theorem zw_132 : Cond.instantiable RJx4a65c 3 ∈ zT := zTm (zt_1 (List.mem_of_getElem? (i := 32) (by decide +kernel))) rfl
theorem zw_133 : Cond.methodLink RX11 11 yJx4a65c_init_da8c8 ∈ zT := zTm (zt_1 (List.mem_of_getElem? (i := 33) (by decide +kernel))) rfl
theorem zw_134 : Cond.instanceMethod yJx4a65c_init_da8c8 ∈ zT := zTm (zt_1 (List.mem_of_getElem? (i := 34) (by decide +kernel))) rfl
theorem zw_135 : Cond.code yJx4a65c_init_da8c8 cJx4a65c_init_da8c8 1 none ∈ zT := zTm (zt_1 (List.mem_of_getElem? (i := 35) (by decide +kernel))) rfl
theorem zw_136 : Cond.methodLink RJx4a65c 1 yJxc12de_init_da8c8 ∈ zT := zTm (zt_1 (List.mem_of_getElem? (i := 36) (by decide +kernel))) rfl
theorem zw_137 : Cond.instanceMethod yJxc12de_init_da8c8 ∈ zT := zTm (zt_1 (List.mem_of_getElem? (i := 37) (by decide +kernel))) rfl
theorem zw_138 : Cond.code yJxc12de_init_da8c8 cJxc12de_init_da8c8 1 none ∈ zT := zTm (zt_1 (List.mem_of_getElem? (i := 38) (by decide +kernel))) rfl
theorem zw_139 : Cond.methodLink RJxc12de 1 yJxa1e45_init_da8c8 ∈ zT := zTm (zt_1 (List.mem_of_getElem? (i := 39) (by decide +kernel))) rfl
theorem zw_140 : Cond.instanceMethod yJxa1e45_init_da8c8 ∈ zT := zTm (zt_1 (List.mem_of_getElem? (i := 40) (by decide +kernel))) rfl
theorem zw_141 : Cond.code yJxa1e45_init_da8c8 cJxa1e45_init_da8c8 1 none ∈ zT := zTm (zt_1 (List.mem_of_getElem? (i := 41) (by decide +kernel))) rfl
theorem zw_142 : Cond.methodLink RJxa1e45 1 objectInit ∈ zT := zTm (zt_1 (List.mem_of_getElem? (i := 42) (by decide +kernel))) rfl
theorem zw_143 : Cond.fieldLink RJx4a65c 39 "java/util/ArrayList" "DEFAULTCAPACITY_EMPTY_ELEMENTDATA" "[Ljava/lang/Object;" ∈ zT := zTm (zt_1 (List.mem_of_getElem? (i := 43) (by decide +kernel))) rfl
theorem zw_145 : Cond.fieldLink RJx4a65c 9 "java/util/ArrayList" "elementData" "[Ljava/lang/Object;" ∈ zT := zTm (zt_1 (List.mem_of_getElem? (i := 45) (by decide +kernel))) rfl
theorem zw_146 : Cond.fieldLink RJx4a65c 48 "java/util/ArrayList" "size" "I" ∈ zT := zTm (zt_1 (List.mem_of_getElem? (i := 46) (by decide +kernel))) rfl
theorem zw_147 : Cond.fieldLink RJxc12de 7 "java/util/AbstractList" "modCount" "I" ∈ zT := zTm (zt_1 (List.mem_of_getElem? (i := 47) (by decide +kernel))) rfl
theorem zw_148 : Cond.fieldLink RJx4a65c 63 "java/util/ArrayList" "modCount" "I" ∈ zT := zTm (zt_1 (List.mem_of_getElem? (i := 48) (by decide +kernel))) rfl
theorem zw_149 : Cond.sameField "java/util/ArrayList" "java/util/AbstractList" "modCount" "I" ∈ zT := zTm (zt_1 (List.mem_of_getElem? (i := 49) (by decide +kernel))) rfl
theorem zw_157 : Cond.classLink RX11 16 RX7 ∈ zT := zTm (zt_1 (List.mem_of_getElem? (i := 57) (by decide +kernel))) rfl
theorem zw_159 : Cond.classLink RX11 25 RX5 ∈ zT := zTm (zt_1 (List.mem_of_getElem? (i := 59) (by decide +kernel))) rfl
theorem zw_160 : Cond.instantiable RX5 3 ∈ zT := zTm (zt_1 (List.mem_of_getElem? (i := 60) (by decide +kernel))) rfl
theorem zw_161 : Cond.methodLinkNest RX11 27 yX5_init "BlendCellar" ∈ zT := zTm (zt_1 (List.mem_of_getElem? (i := 61) (by decide +kernel))) rfl
theorem zw_162 : Cond.instanceMethod yX5_init ∈ zT := zTm (zt_1 (List.mem_of_getElem? (i := 62) (by decide +kernel))) rfl
theorem zw_163 : Cond.code yX5_init cX5_init 1 none ∈ zT := zTm (zt_1 (List.mem_of_getElem? (i := 63) (by decide +kernel))) rfl
theorem zw_164 : Cond.methodLink RX5 3 objectInit ∈ zT := zTm (zt_1 (List.mem_of_getElem? (i := 64) (by decide +kernel))) rfl
theorem zw_165 : Cond.classLink RX5 9 RX0 ∈ zT := zTm (zt_1 (List.mem_of_getElem? (i := 65) (by decide +kernel))) rfl
theorem zw_167 : Cond.fieldLink RX5 11 "BlendCellar$Picks" "barrels" "[LBlendCellar$Barrel;" ∈ zT := zTm (zt_1 (List.mem_of_getElem? (i := 67) (by decide +kernel))) rfl
theorem zw_168 : Cond.fieldLink RX11 370 "BlendCellar$Picks" "barrels" "[LBlendCellar$Barrel;" ∈ zT := zTm (zt_1 (List.mem_of_getElem? (i := 68) (by decide +kernel))) rfl
theorem zw_169 : Cond.fieldLink RX5 17 "BlendCellar$Picks" "amounts" "[J" ∈ zT := zTm (zt_1 (List.mem_of_getElem? (i := 69) (by decide +kernel))) rfl
theorem zw_170 : Cond.fieldLink RX11 372 "BlendCellar$Picks" "amounts" "[J" ∈ zT := zTm (zt_1 (List.mem_of_getElem? (i := 70) (by decide +kernel))) rfl
theorem zw_171 : Cond.fieldLink RX5 21 "BlendCellar$Picks" "count" "I" ∈ zT := zTm (zt_1 (List.mem_of_getElem? (i := 71) (by decide +kernel))) rfl
theorem zw_172 : Cond.fieldLink RX11 343 "BlendCellar$Picks" "count" "I" ∈ zT := zTm (zt_1 (List.mem_of_getElem? (i := 72) (by decide +kernel))) rfl
theorem zw_181 : Cond.classLink RX11 32 RX8 ∈ zT := zTm (zt_1 (List.mem_of_getElem? (i := 81) (by decide +kernel))) rfl
theorem zw_182 : Cond.instantiable RX8 4 ∈ zT := zTm (zt_1 (List.mem_of_getElem? (i := 82) (by decide +kernel))) rfl
theorem zw_183 : Cond.methodLink RX11 34 yX8_init ∈ zT := zTm (zt_1 (List.mem_of_getElem? (i := 83) (by decide +kernel))) rfl
theorem zw_184 : Cond.instanceMethod yX8_init ∈ zT := zTm (zt_1 (List.mem_of_getElem? (i := 84) (by decide +kernel))) rfl
theorem zw_185 : Cond.code yX8_init cX8_init 2 none ∈ zT := zTm (zt_1 (List.mem_of_getElem? (i := 85) (by decide +kernel))) rfl
theorem zw_186 : Cond.methodLink RX8 5 objectInit ∈ zT := zTm (zt_1 (List.mem_of_getElem? (i := 86) (by decide +kernel))) rfl
theorem zw_187 : Cond.methodLink RX8 23 yJ9_max_7cf53 ∈ zT := zTm (zt_1 (List.mem_of_getElem? (i := 87) (by decide +kernel))) rfl
theorem zw_190 : Cond.fieldLink RX8 29 "BlendCellar$Tally" "sums" "[J" ∈ zT := zTm (zt_1 (List.mem_of_getElem? (i := 90) (by decide +kernel))) rfl
theorem zw_191 : Cond.fieldLink RX8 11 "BlendCellar$Tally" "chosen" "[I" ∈ zT := zTm (zt_1 (List.mem_of_getElem? (i := 91) (by decide +kernel))) rfl
theorem zw_192 : Cond.fieldLink RX8 15 "BlendCellar$Tally" "chosenCount" "I" ∈ zT := zTm (zt_1 (List.mem_of_getElem? (i := 92) (by decide +kernel))) rfl
theorem zw_193 : Cond.fieldLink RX8 19 "BlendCellar$Tally" "total" "J" ∈ zT := zTm (zt_1 (List.mem_of_getElem? (i := 93) (by decide +kernel))) rfl
theorem zw_194 : Cond.fieldLink RX3 50 "BlendCellar$Tally" "total" "J" ∈ zT := zTm (zt_1 (List.mem_of_getElem? (i := 94) (by decide +kernel))) rfl
theorem zw_205 : Cond.classLink RX11 41 RX6 ∈ zT := zTm (zt_1 (List.mem_of_getElem? (i := 105) (by decide +kernel))) rfl
theorem zw_206 : Cond.instantiable RX6 10 ∈ zT := zTm (zt_1 (List.mem_of_getElem? (i := 106) (by decide +kernel))) rfl
theorem zw_207 : Cond.methodLinkNest RX11 43 yX6_init "BlendCellar" ∈ zT := zTm (zt_1 (List.mem_of_getElem? (i := 107) (by decide +kernel))) rfl
theorem zw_208 : Cond.instanceMethod yX6_init ∈ zT := zTm (zt_1 (List.mem_of_getElem? (i := 108) (by decide +kernel))) rfl
theorem zw_209 : Cond.code yX6_init cX6_init 1 none ∈ zT := zTm (zt_1 (List.mem_of_getElem? (i := 109) (by decide +kernel))) rfl
theorem zw_210 : Cond.methodLink RX6 3 objectInit ∈ zT := zTm (zt_1 (List.mem_of_getElem? (i := 110) (by decide +kernel))) rfl
theorem zw_211 : Cond.classLink RX6 9 RX8 ∈ zT := zTm (zt_1 (List.mem_of_getElem? (i := 111) (by decide +kernel))) rfl
theorem zw_212 : Cond.methodLink RX6 13 yX8_init ∈ zT := zTm (zt_1 (List.mem_of_getElem? (i := 112) (by decide +kernel))) rfl
theorem zw_213 : Cond.constantLong RX6 42 (-1) ∈ zT := zTm (zt_1 (List.mem_of_getElem? (i := 113) (by decide +kernel))) rfl
theorem zw_214 : Cond.fieldLink RX6 16 "BlendCellar$Planner" "tally" "LBlendCellar$Tally;" ∈ zT := zTm (zt_1 (List.mem_of_getElem? (i := 114) (by decide +kernel))) rfl
theorem zw_215 : Cond.fieldLink RX6 20 "BlendCellar$Planner" "dears" "[J" ∈ zT := zTm (zt_1 (List.mem_of_getElem? (i := 115) (by decide +kernel))) rfl
theorem zw_216 : Cond.fieldLink RX6 24 "BlendCellar$Planner" "mostSteps" "[I" ∈ zT := zTm (zt_1 (List.mem_of_getElem? (i := 116) (by decide +kernel))) rfl
theorem zw_217 : Cond.fieldLink RX6 28 "BlendCellar$Planner" "tried" "[I" ∈ zT := zTm (zt_1 (List.mem_of_getElem? (i := 117) (by decide +kernel))) rfl
theorem zw_218 : Cond.fieldLink RX6 31 "BlendCellar$Planner" "best" "[I" ∈ zT := zTm (zt_1 (List.mem_of_getElem? (i := 118) (by decide +kernel))) rfl
theorem zw_219 : Cond.fieldLink RX6 34 "BlendCellar$Planner" "wanted" "LBlendCellar$Label;" ∈ zT := zTm (zt_1 (List.mem_of_getElem? (i := 119) (by decide +kernel))) rfl
theorem zw_220 : Cond.fieldLink RX6 38 "BlendCellar$Planner" "count" "I" ∈ zT := zTm (zt_1 (List.mem_of_getElem? (i := 120) (by decide +kernel))) rfl
theorem zw_221 : Cond.fieldLink RX6 44 "BlendCellar$Planner" "least" "J" ∈ zT := zTm (zt_1 (List.mem_of_getElem? (i := 121) (by decide +kernel))) rfl
theorem zw_222 : Cond.fieldLink RX6 48 "BlendCellar$Planner" "settled" "[J" ∈ zT := zTm (zt_1 (List.mem_of_getElem? (i := 122) (by decide +kernel))) rfl
theorem zw_223 : Cond.fieldLink RX6 51 "BlendCellar$Planner" "settledCount" "I" ∈ zT := zTm (zt_1 (List.mem_of_getElem? (i := 123) (by decide +kernel))) rfl
theorem zw_245 : Cond.classLink RX11 48 RX10 ∈ zT := zTm (zt_1 (List.mem_of_getElem? (i := 145) (by decide +kernel))) rfl
theorem zw_247 : Cond.instantiable RX10 4 ∈ zT := zTm (zt_1 (List.mem_of_getElem? (i := 147) (by decide +kernel))) rfl
theorem zw_248 : Cond.methodLinkNest RX11 54 yX10_init "BlendCellar" ∈ zT := zTm (zt_1 (List.mem_of_getElem? (i := 148) (by decide +kernel))) rfl
theorem zw_249 : Cond.instanceMethod yX10_init ∈ zT := zTm (zt_1 (List.mem_of_getElem? (i := 149) (by decide +kernel))) rfl
theorem zw_250 : Cond.code yX10_init cX10_init 1 none ∈ zT := zTm (zt_1 (List.mem_of_getElem? (i := 150) (by decide +kernel))) rfl
theorem zw_251 : Cond.methodLink RX10 1 objectInit ∈ zT := zTm (zt_1 (List.mem_of_getElem? (i := 151) (by decide +kernel))) rfl
theorem zw_252 : Cond.fieldLink RX10 7 "BlendCellar$Wine" "parts" "[I" ∈ zT := zTm (zt_1 (List.mem_of_getElem? (i := 152) (by decide +kernel))) rfl
theorem zw_253 : Cond.fieldLink RX8 74 "BlendCellar$Wine" "parts" "[I" ∈ zT := zTm (zt_1 (List.mem_of_getElem? (i := 153) (by decide +kernel))) rfl
theorem zw_254 : Cond.fieldLink RX2 92 "BlendCellar$Wine" "parts" "[I" ∈ zT := zTm (zt_1 (List.mem_of_getElem? (i := 154) (by decide +kernel))) rfl
theorem zw_255 : Cond.fieldLink RX0 119 "BlendCellar$Wine" "parts" "[I" ∈ zT := zTm (zt_1 (List.mem_of_getElem? (i := 155) (by decide +kernel))) rfl
theorem zw_256 : Cond.fieldLink RX11 422 "BlendCellar$Wine" "parts" "[I" ∈ zT := zTm (zt_1 (List.mem_of_getElem? (i := 156) (by decide +kernel))) rfl
theorem zw_257 : Cond.fieldLink RX10 13 "BlendCellar$Wine" "amounts" "[J" ∈ zT := zTm (zt_1 (List.mem_of_getElem? (i := 157) (by decide +kernel))) rfl
theorem zw_258 : Cond.fieldLink RX8 77 "BlendCellar$Wine" "amounts" "[J" ∈ zT := zTm (zt_1 (List.mem_of_getElem? (i := 158) (by decide +kernel))) rfl
theorem zw_259 : Cond.fieldLink RX2 91 "BlendCellar$Wine" "amounts" "[J" ∈ zT := zTm (zt_1 (List.mem_of_getElem? (i := 159) (by decide +kernel))) rfl
theorem zw_260 : Cond.fieldLink RX0 123 "BlendCellar$Wine" "amounts" "[J" ∈ zT := zTm (zt_1 (List.mem_of_getElem? (i := 160) (by decide +kernel))) rfl
theorem zw_261 : Cond.fieldLink RX11 425 "BlendCellar$Wine" "amounts" "[J" ∈ zT := zTm (zt_1 (List.mem_of_getElem? (i := 161) (by decide +kernel))) rfl
theorem zw_262 : Cond.fieldLink RX10 17 "BlendCellar$Wine" "count" "I" ∈ zT := zTm (zt_1 (List.mem_of_getElem? (i := 162) (by decide +kernel))) rfl
theorem zw_263 : Cond.fieldLink RX8 69 "BlendCellar$Wine" "count" "I" ∈ zT := zTm (zt_1 (List.mem_of_getElem? (i := 163) (by decide +kernel))) rfl
theorem zw_264 : Cond.fieldLink RX2 90 "BlendCellar$Wine" "count" "I" ∈ zT := zTm (zt_1 (List.mem_of_getElem? (i := 164) (by decide +kernel))) rfl
theorem zw_265 : Cond.fieldLink RX0 67 "BlendCellar$Wine" "count" "I" ∈ zT := zTm (zt_1 (List.mem_of_getElem? (i := 165) (by decide +kernel))) rfl
theorem zw_266 : Cond.fieldLink RX11 280 "BlendCellar$Wine" "count" "I" ∈ zT := zTm (zt_1 (List.mem_of_getElem? (i := 166) (by decide +kernel))) rfl
theorem zw_267 : Cond.fieldLink RX10 21 "BlendCellar$Wine" "total" "J" ∈ zT := zTm (zt_1 (List.mem_of_getElem? (i := 167) (by decide +kernel))) rfl
theorem zw_268 : Cond.fieldLink RX0 59 "BlendCellar$Wine" "total" "J" ∈ zT := zTm (zt_1 (List.mem_of_getElem? (i := 168) (by decide +kernel))) rfl
theorem zw_269 : Cond.fieldLink RX2 86 "BlendCellar$Wine" "total" "J" ∈ zT := zTm (zt_1 (List.mem_of_getElem? (i := 169) (by decide +kernel))) rfl
theorem zw_270 : Cond.fieldLink RX11 271 "BlendCellar$Wine" "total" "J" ∈ zT := zTm (zt_1 (List.mem_of_getElem? (i := 170) (by decide +kernel))) rfl
theorem zw_280 : Cond.classLink RX11 59 RX4 ∈ zT := zTm (zt_1 (List.mem_of_getElem? (i := 180) (by decide +kernel))) rfl
theorem zw_281 : Cond.instantiable RX4 2 ∈ zT := zTm (zt_1 (List.mem_of_getElem? (i := 181) (by decide +kernel))) rfl
theorem zw_282 : Cond.methodLinkNest RX11 61 yX4_init "BlendCellar" ∈ zT := zTm (zt_1 (List.mem_of_getElem? (i := 182) (by decide +kernel))) rfl
theorem zw_283 : Cond.instanceMethod yX4_init ∈ zT := zTm (zt_1 (List.mem_of_getElem? (i := 183) (by decide +kernel))) rfl
theorem zw_284 : Cond.code yX4_init cX4_init 1 none ∈ zT := zTm (zt_1 (List.mem_of_getElem? (i := 184) (by decide +kernel))) rfl
theorem zw_285 : Cond.methodLink RX4 3 objectInit ∈ zT := zTm (zt_1 (List.mem_of_getElem? (i := 185) (by decide +kernel))) rfl
theorem zw_286 : Cond.fieldLink RX4 11 "BlendCellar$Lines" "numbers" "[J" ∈ zT := zTm (zt_1 (List.mem_of_getElem? (i := 186) (by decide +kernel))) rfl
theorem zw_287 : Cond.fieldLink RX4 15 "BlendCellar$Lines" "count" "I" ∈ zT := zTm (zt_1 (List.mem_of_getElem? (i := 187) (by decide +kernel))) rfl
theorem zw_288 : Cond.fieldLink RX11 591 "BlendCellar$Lines" "count" "I" ∈ zT := zTm (zt_1 (List.mem_of_getElem? (i := 188) (by decide +kernel))) rfl
theorem zw_294 : Cond.classLink RX11 69 RX2 ∈ zT := zTm (zt_1 (List.mem_of_getElem? (i := 194) (by decide +kernel))) rfl
theorem zw_295 : Cond.instantiable RX2 5 ∈ zT := zTm (zt_1 (List.mem_of_getElem? (i := 195) (by decide +kernel))) rfl
theorem zw_296 : Cond.methodLinkNest RX11 71 yX2_init "BlendCellar" ∈ zT := zTm (zt_1 (List.mem_of_getElem? (i := 196) (by decide +kernel))) rfl
theorem zw_297 : Cond.instanceMethod yX2_init ∈ zT := zTm (zt_1 (List.mem_of_getElem? (i := 197) (by decide +kernel))) rfl
theorem zw_298 : Cond.code yX2_init cX2_init 1 none ∈ zT := zTm (zt_1 (List.mem_of_getElem? (i := 198) (by decide +kernel))) rfl
theorem zw_299 : Cond.methodLink RX2 3 objectInit ∈ zT := zTm (zt_1 (List.mem_of_getElem? (i := 199) (by decide +kernel))) rfl
theorem zw_300 : Cond.classLink RX2 9 RX0 ∈ zT := zTm (zt_1 (List.mem_of_getElem? (i := 200) (by decide +kernel))) rfl
theorem zw_301 : Cond.classLink RX2 28 RX10 ∈ zT := zTm (zt_1 (List.mem_of_getElem? (i := 201) (by decide +kernel))) rfl
theorem zw_302 : Cond.methodLinkNest RX2 30 yX10_init "BlendCellar" ∈ zT := zTm (zt_1 (List.mem_of_getElem? (i := 202) (by decide +kernel))) rfl
theorem zw_303 : Cond.fieldLink RX2 11 "BlendCellar$Drawing" "vessels" "[LBlendCellar$Barrel;" ∈ zT := zTm (zt_1 (List.mem_of_getElem? (i := 203) (by decide +kernel))) rfl
theorem zw_304 : Cond.fieldLink RX2 17 "BlendCellar$Drawing" "amounts" "[J" ∈ zT := zTm (zt_1 (List.mem_of_getElem? (i := 204) (by decide +kernel))) rfl
theorem zw_305 : Cond.fieldLink RX2 21 "BlendCellar$Drawing" "going" "[J" ∈ zT := zTm (zt_1 (List.mem_of_getElem? (i := 205) (by decide +kernel))) rfl
theorem zw_306 : Cond.fieldLink RX2 24 "BlendCellar$Drawing" "count" "I" ∈ zT := zTm (zt_1 (List.mem_of_getElem? (i := 206) (by decide +kernel))) rfl
theorem zw_307 : Cond.fieldLink RX2 31 "BlendCellar$Drawing" "drawn" "LBlendCellar$Wine;" ∈ zT := zTm (zt_1 (List.mem_of_getElem? (i := 207) (by decide +kernel))) rfl
theorem zw_308 : Cond.fieldLink RX11 512 "BlendCellar$Drawing" "drawn" "LBlendCellar$Wine;" ∈ zT := zTm (zt_1 (List.mem_of_getElem? (i := 208) (by decide +kernel))) rfl
theorem zw_320 : Cond.classLink RX11 76 RX1 ∈ zT := zTm (zt_1 (List.mem_of_getElem? (i := 220) (by decide +kernel))) rfl
theorem zw_321 : Cond.instantiable RX1 11 ∈ zT := zTm (zt_1 (List.mem_of_getElem? (i := 221) (by decide +kernel))) rfl
theorem zw_322 : Cond.methodLinkNest RX11 78 yX1_init "BlendCellar" ∈ zT := zTm (zt_1 (List.mem_of_getElem? (i := 222) (by decide +kernel))) rfl
theorem zw_323 : Cond.instanceMethod yX1_init ∈ zT := zTm (zt_1 (List.mem_of_getElem? (i := 223) (by decide +kernel))) rfl
theorem zw_324 : Cond.code yX1_init cX1_init 1 none ∈ zT := zTm (zt_1 (List.mem_of_getElem? (i := 224) (by decide +kernel))) rfl
theorem zw_325 : Cond.methodLink RX1 3 objectInit ∈ zT := zTm (zt_1 (List.mem_of_getElem? (i := 225) (by decide +kernel))) rfl
theorem zw_326 : Cond.classLink RX1 40 RX10 ∈ zT := zTm (zt_1 (List.mem_of_getElem? (i := 226) (by decide +kernel))) rfl
theorem zw_327 : Cond.methodLinkNest RX1 42 yX10_init "BlendCellar" ∈ zT := zTm (zt_1 (List.mem_of_getElem? (i := 227) (by decide +kernel))) rfl
theorem zw_328 : Cond.classLink RX1 47 RJx4a65c ∈ zT := zTm (zt_1 (List.mem_of_getElem? (i := 228) (by decide +kernel))) rfl
theorem zw_329 : Cond.methodLink RX1 49 yJx4a65c_init_da8c8 ∈ zT := zTm (zt_1 (List.mem_of_getElem? (i := 229) (by decide +kernel))) rfl
theorem zw_330 : Cond.fieldLink RX1 9 "BlendCellar$Before" "ready" "Z" ∈ zT := zTm (zt_1 (List.mem_of_getElem? (i := 230) (by decide +kernel))) rfl
theorem zw_331 : Cond.fieldLink RX11 522 "BlendCellar$Before" "ready" "Z" ∈ zT := zTm (zt_1 (List.mem_of_getElem? (i := 231) (by decide +kernel))) rfl
theorem zw_332 : Cond.fieldLink RX1 15 "BlendCellar$Before" "barrelCount" "I" ∈ zT := zTm (zt_1 (List.mem_of_getElem? (i := 232) (by decide +kernel))) rfl
theorem zw_333 : Cond.fieldLink RX11 528 "BlendCellar$Before" "barrelCount" "I" ∈ zT := zTm (zt_1 (List.mem_of_getElem? (i := 233) (by decide +kernel))) rfl
theorem zw_334 : Cond.fieldLink RX1 19 "BlendCellar$Before" "months" "I" ∈ zT := zTm (zt_1 (List.mem_of_getElem? (i := 234) (by decide +kernel))) rfl
theorem zw_335 : Cond.fieldLink RX11 551 "BlendCellar$Before" "months" "I" ∈ zT := zTm (zt_1 (List.mem_of_getElem? (i := 235) (by decide +kernel))) rfl
theorem zw_336 : Cond.fieldLink RX1 22 "BlendCellar$Before" "journalCount" "I" ∈ zT := zTm (zt_1 (List.mem_of_getElem? (i := 236) (by decide +kernel))) rfl
theorem zw_337 : Cond.fieldLink RX11 552 "BlendCellar$Before" "journalCount" "I" ∈ zT := zTm (zt_1 (List.mem_of_getElem? (i := 237) (by decide +kernel))) rfl
theorem zw_338 : Cond.fieldLink RX1 25 "BlendCellar$Before" "bottledCount" "I" ∈ zT := zTm (zt_1 (List.mem_of_getElem? (i := 238) (by decide +kernel))) rfl
theorem zw_339 : Cond.fieldLink RX11 558 "BlendCellar$Before" "bottledCount" "I" ∈ zT := zTm (zt_1 (List.mem_of_getElem? (i := 239) (by decide +kernel))) rfl
theorem zw_340 : Cond.fieldLink RX1 28 "BlendCellar$Before" "row" "I" ∈ zT := zTm (zt_2 (List.mem_of_getElem? (i := 0) (by decide +kernel))) rfl
theorem zw_341 : Cond.fieldLink RX11 534 "BlendCellar$Before" "row" "I" ∈ zT := zTm (zt_2 (List.mem_of_getElem? (i := 1) (by decide +kernel))) rfl
theorem zw_342 : Cond.fieldLink RX1 31 "BlendCellar$Before" "place" "I" ∈ zT := zTm (zt_2 (List.mem_of_getElem? (i := 2) (by decide +kernel))) rfl
theorem zw_343 : Cond.fieldLink RX11 537 "BlendCellar$Before" "place" "I" ∈ zT := zTm (zt_2 (List.mem_of_getElem? (i := 3) (by decide +kernel))) rfl
theorem zw_344 : Cond.fieldLink RX1 34 "BlendCellar$Before" "lay" "I" ∈ zT := zTm (zt_2 (List.mem_of_getElem? (i := 4) (by decide +kernel))) rfl
theorem zw_345 : Cond.fieldLink RX11 561 "BlendCellar$Before" "lay" "I" ∈ zT := zTm (zt_2 (List.mem_of_getElem? (i := 5) (by decide +kernel))) rfl
theorem zw_346 : Cond.fieldLink RX1 37 "BlendCellar$Before" "how" "I" ∈ zT := zTm (zt_2 (List.mem_of_getElem? (i := 6) (by decide +kernel))) rfl
theorem zw_347 : Cond.fieldLink RX11 541 "BlendCellar$Before" "how" "I" ∈ zT := zTm (zt_2 (List.mem_of_getElem? (i := 7) (by decide +kernel))) rfl
theorem zw_348 : Cond.fieldLink RX1 43 "BlendCellar$Before" "account" "LBlendCellar$Wine;" ∈ zT := zTm (zt_2 (List.mem_of_getElem? (i := 8) (by decide +kernel))) rfl
theorem zw_349 : Cond.fieldLink RX11 544 "BlendCellar$Before" "account" "LBlendCellar$Wine;" ∈ zT := zTm (zt_2 (List.mem_of_getElem? (i := 9) (by decide +kernel))) rfl
theorem zw_350 : Cond.fieldLink RX1 50 "BlendCellar$Before" "changed" "Ljava/util/ArrayList;" ∈ zT := zTm (zt_2 (List.mem_of_getElem? (i := 10) (by decide +kernel))) rfl
theorem zw_374 : Cond.classLink RX11 83 RX9 ∈ zT := zTm (zt_2 (List.mem_of_getElem? (i := 34) (by decide +kernel))) rfl
theorem zw_375 : Cond.instantiable RX9 2 ∈ zT := zTm (zt_2 (List.mem_of_getElem? (i := 35) (by decide +kernel))) rfl
theorem zw_376 : Cond.methodLink RX11 85 yX9_init ∈ zT := zTm (zt_2 (List.mem_of_getElem? (i := 36) (by decide +kernel))) rfl
theorem zw_377 : Cond.instanceMethod yX9_init ∈ zT := zTm (zt_2 (List.mem_of_getElem? (i := 37) (by decide +kernel))) rfl
theorem zw_378 : Cond.code yX9_init cX9_init 2 none ∈ zT := zTm (zt_2 (List.mem_of_getElem? (i := 38) (by decide +kernel))) rfl
theorem zw_379 : Cond.methodLink RX9 1 objectInit ∈ zT := zTm (zt_2 (List.mem_of_getElem? (i := 39) (by decide +kernel))) rfl
theorem zw_380 : Cond.methodLink RX9 13 yJ9_max_7cf53 ∈ zT := zTm (zt_2 (List.mem_of_getElem? (i := 40) (by decide +kernel))) rfl
theorem zw_381 : Cond.fieldLink RX9 19 "BlendCellar$Trace" "numbers" "[I" ∈ zT := zTm (zt_2 (List.mem_of_getElem? (i := 41) (by decide +kernel))) rfl
theorem zw_382 : Cond.fieldLink RX9 7 "BlendCellar$Trace" "count" "I" ∈ zT := zTm (zt_2 (List.mem_of_getElem? (i := 42) (by decide +kernel))) rfl
theorem zw_388 : Cond.fieldLink RX11 12 "BlendCellar" "barrels" "Ljava/util/ArrayList;" ∈ zT := zTm (zt_2 (List.mem_of_getElem? (i := 48) (by decide +kernel))) rfl
theorem zw_389 : Cond.fieldLink RX11 18 "BlendCellar" "rows" "[LBlendCellar$Row;" ∈ zT := zTm (zt_2 (List.mem_of_getElem? (i := 49) (by decide +kernel))) rfl
theorem zw_390 : Cond.fieldLink RX11 22 "BlendCellar" "labels" "Ljava/util/ArrayList;" ∈ zT := zTm (zt_2 (List.mem_of_getElem? (i := 50) (by decide +kernel))) rfl
theorem zw_391 : Cond.fieldLink RX11 28 "BlendCellar" "picks" "LBlendCellar$Picks;" ∈ zT := zTm (zt_2 (List.mem_of_getElem? (i := 51) (by decide +kernel))) rfl
theorem zw_392 : Cond.fieldLink RX11 37 "BlendCellar" "judged" "LBlendCellar$Tally;" ∈ zT := zTm (zt_2 (List.mem_of_getElem? (i := 52) (by decide +kernel))) rfl
theorem zw_393 : Cond.fieldLink RX11 44 "BlendCellar" "planner" "LBlendCellar$Planner;" ∈ zT := zTm (zt_2 (List.mem_of_getElem? (i := 53) (by decide +kernel))) rfl
theorem zw_394 : Cond.fieldLink RX11 50 "BlendCellar" "accounts" "[LBlendCellar$Wine;" ∈ zT := zTm (zt_2 (List.mem_of_getElem? (i := 54) (by decide +kernel))) rfl
theorem zw_395 : Cond.fieldLink RX11 55 "BlendCellar" "balance" "LBlendCellar$Wine;" ∈ zT := zTm (zt_2 (List.mem_of_getElem? (i := 55) (by decide +kernel))) rfl
theorem zw_396 : Cond.fieldLink RX11 62 "BlendCellar" "journal" "LBlendCellar$Lines;" ∈ zT := zTm (zt_2 (List.mem_of_getElem? (i := 56) (by decide +kernel))) rfl
theorem zw_397 : Cond.fieldLink RX11 66 "BlendCellar" "bottled" "LBlendCellar$Lines;" ∈ zT := zTm (zt_2 (List.mem_of_getElem? (i := 57) (by decide +kernel))) rfl
theorem zw_398 : Cond.fieldLink RX11 72 "BlendCellar" "drawing" "LBlendCellar$Drawing;" ∈ zT := zTm (zt_2 (List.mem_of_getElem? (i := 58) (by decide +kernel))) rfl
theorem zw_399 : Cond.fieldLink RX11 79 "BlendCellar" "before" "LBlendCellar$Before;" ∈ zT := zTm (zt_2 (List.mem_of_getElem? (i := 59) (by decide +kernel))) rfl
theorem zw_400 : Cond.fieldLink RX11 86 "BlendCellar" "bodies" "LBlendCellar$Trace;" ∈ zT := zTm (zt_2 (List.mem_of_getElem? (i := 60) (by decide +kernel))) rfl
theorem zw_401 : Cond.fieldLink RX11 90 "BlendCellar" "unheard" "LBlendCellar$Trace;" ∈ zT := zTm (zt_2 (List.mem_of_getElem? (i := 61) (by decide +kernel))) rfl
theorem zw_402 : Cond.fieldLink RX11 93 "BlendCellar" "months" "I" ∈ zT := zTm (zt_2 (List.mem_of_getElem? (i := 62) (by decide +kernel))) rfl
theorem zw_403 : Cond.fieldLink RX11 97 "BlendCellar" "numbersGiven" "J" ∈ zT := zTm (zt_2 (List.mem_of_getElem? (i := 63) (by decide +kernel))) rfl
theorem zw_404 : Cond.fieldLink RX11 101 "BlendCellar" "triesMade" "I" ∈ zT := zTm (zt_2 (List.mem_of_getElem? (i := 64) (by decide +kernel))) rfl
theorem zw_405 : Cond.fieldLink RX11 104 "BlendCellar" "tapOpen" "Z" ∈ zT := zTm (zt_2 (List.mem_of_getElem? (i := 65) (by decide +kernel))) rfl
theorem zw_406 : Cond.fieldLink RX11 108 "BlendCellar" "reason" "I" ∈ zT := zTm (zt_2 (List.mem_of_getElem? (i := 66) (by decide +kernel))) rfl
theorem zw_407 : Cond.fieldLink RX11 111 "BlendCellar" "brokenRule" "I" ∈ zT := zTm (zt_2 (List.mem_of_getElem? (i := 67) (by decide +kernel))) rfl
theorem zw_452 : Cond.code yX11_row cX11_row 4 (some .long) ∈ zT := zTm (zt_2 (List.mem_of_getElem? (i := 112) (by decide +kernel))) rfl
theorem zw_453 : Cond.methodLink RX11 114 yX11_openTap ∈ zT := zTm (zt_2 (List.mem_of_getElem? (i := 113) (by decide +kernel))) rfl
theorem zw_455 : Cond.instanceMethod yX11_openTap ∈ zT := zTm (zt_2 (List.mem_of_getElem? (i := 115) (by decide +kernel))) rfl
theorem zw_456 : Cond.code yX11_openTap cX11_openTap 1 none ∈ zT := zTm (zt_2 (List.mem_of_getElem? (i := 116) (by decide +kernel))) rfl
theorem zw_457 : Cond.methodLink RX11 605 yX9_clear ∈ zT := zTm (zt_2 (List.mem_of_getElem? (i := 117) (by decide +kernel))) rfl
theorem zw_458 : Cond.instanceMethod yX9_clear ∈ zT := zTm (zt_2 (List.mem_of_getElem? (i := 118) (by decide +kernel))) rfl
theorem zw_459 : Cond.selects RX9 yX9_clear yX9_clear ∈ zT := zTm (zt_2 (List.mem_of_getElem? (i := 119) (by decide +kernel))) rfl
theorem zw_460 : Cond.code yX9_clear cX9_clear 1 none ∈ zT := zTm (zt_2 (List.mem_of_getElem? (i := 120) (by decide +kernel))) rfl
theorem zw_461 : Cond.methodLink RX11 117 yX11_buildRow ∈ zT := zTm (zt_2 (List.mem_of_getElem? (i := 121) (by decide +kernel))) rfl
theorem zw_463 : Cond.instanceMethod yX11_buildRow ∈ zT := zTm (zt_2 (List.mem_of_getElem? (i := 123) (by decide +kernel))) rfl
theorem zw_464 : Cond.code yX11_buildRow cX11_buildRow 4 (some .long) ∈ zT := zTm (zt_2 (List.mem_of_getElem? (i := 124) (by decide +kernel))) rfl
theorem zw_465 : Cond.constantLong RX11 125 (-1) ∈ zT := zTm (zt_2 (List.mem_of_getElem? (i := 125) (by decide +kernel))) rfl
theorem zw_466 : Cond.constantLong RX11 127 (-3) ∈ zT := zTm (zt_2 (List.mem_of_getElem? (i := 126) (by decide +kernel))) rfl
theorem zw_467 : Cond.constantLong RX11 129 (-8) ∈ zT := zTm (zt_2 (List.mem_of_getElem? (i := 127) (by decide +kernel))) rfl
theorem zw_468 : Cond.constantLong RX11 131 (-7) ∈ zT := zTm (zt_2 (List.mem_of_getElem? (i := 128) (by decide +kernel))) rfl
theorem zw_469 : Cond.methodLink RX11 133 yX11_remember ∈ zT := zTm (zt_2 (List.mem_of_getElem? (i := 129) (by decide +kernel))) rfl
theorem zw_471 : Cond.instanceMethod yX11_remember ∈ zT := zTm (zt_2 (List.mem_of_getElem? (i := 131) (by decide +kernel))) rfl
theorem zw_472 : Cond.code yX11_remember cX11_remember 1 none ∈ zT := zTm (zt_2 (List.mem_of_getElem? (i := 132) (by decide +kernel))) rfl
theorem zw_473 : Cond.methodLink RX11 150 yJx4a65c_size_8abf5 ∈ zT := zTm (zt_2 (List.mem_of_getElem? (i := 133) (by decide +kernel))) rfl
theorem zw_474 : Cond.instanceMethod yJx4a65c_size_8abf5 ∈ zT := zTm (zt_2 (List.mem_of_getElem? (i := 134) (by decide +kernel))) rfl
theorem zw_475 : Cond.selects RJx4a65c yJx4a65c_size_8abf5 yJx4a65c_size_8abf5 ∈ zT := zTm (zt_2 (List.mem_of_getElem? (i := 135) (by decide +kernel))) rfl
theorem zw_476 : Cond.code yJx4a65c_size_8abf5 cJx4a65c_size_8abf5 1 (some .int) ∈ zT := zTm (zt_2 (List.mem_of_getElem? (i := 136) (by decide +kernel))) rfl
theorem zw_477 : Cond.methodLink RX11 606 yX1_begin ∈ zT := zTm (zt_2 (List.mem_of_getElem? (i := 137) (by decide +kernel))) rfl
theorem zw_478 : Cond.instanceMethod yX1_begin ∈ zT := zTm (zt_2 (List.mem_of_getElem? (i := 138) (by decide +kernel))) rfl
theorem zw_479 : Cond.selects RX1 yX1_begin yX1_begin ∈ zT := zTm (zt_2 (List.mem_of_getElem? (i := 139) (by decide +kernel))) rfl
theorem zw_480 : Cond.code yX1_begin cX1_begin 5 none ∈ zT := zTm (zt_2 (List.mem_of_getElem? (i := 140) (by decide +kernel))) rfl
theorem zw_481 : Cond.methodLink RX1 54 yJx4a65c_clear_da8c8 ∈ zT := zTm (zt_2 (List.mem_of_getElem? (i := 141) (by decide +kernel))) rfl
theorem zw_482 : Cond.instanceMethod yJx4a65c_clear_da8c8 ∈ zT := zTm (zt_2 (List.mem_of_getElem? (i := 142) (by decide +kernel))) rfl
theorem zw_483 : Cond.selects RJx4a65c yJx4a65c_clear_da8c8 yJx4a65c_clear_da8c8 ∈ zT := zTm (zt_2 (List.mem_of_getElem? (i := 143) (by decide +kernel))) rfl
theorem zw_484 : Cond.code yJx4a65c_clear_da8c8 cJx4a65c_clear_da8c8 4 none ∈ zT := zTm (zt_2 (List.mem_of_getElem? (i := 144) (by decide +kernel))) rfl
theorem zw_485 : Cond.methodLink RX11 136 yX1_keepRow ∈ zT := zTm (zt_2 (List.mem_of_getElem? (i := 145) (by decide +kernel))) rfl
theorem zw_486 : Cond.instanceMethod yX1_keepRow ∈ zT := zTm (zt_2 (List.mem_of_getElem? (i := 146) (by decide +kernel))) rfl
theorem zw_487 : Cond.selects RX1 yX1_keepRow yX1_keepRow ∈ zT := zTm (zt_2 (List.mem_of_getElem? (i := 147) (by decide +kernel))) rfl
theorem zw_488 : Cond.code yX1_keepRow cX1_keepRow 2 none ∈ zT := zTm (zt_2 (List.mem_of_getElem? (i := 148) (by decide +kernel))) rfl
theorem zw_489 : Cond.methodLink RX1 66 yX1_keepPlace ∈ zT := zTm (zt_2 (List.mem_of_getElem? (i := 149) (by decide +kernel))) rfl
theorem zw_490 : Cond.instanceMethod yX1_keepPlace ∈ zT := zTm (zt_2 (List.mem_of_getElem? (i := 150) (by decide +kernel))) rfl
theorem zw_491 : Cond.selects RX1 yX1_keepPlace yX1_keepPlace ∈ zT := zTm (zt_2 (List.mem_of_getElem? (i := 151) (by decide +kernel))) rfl
theorem zw_492 : Cond.code yX1_keepPlace cX1_keepPlace 4 none ∈ zT := zTm (zt_2 (List.mem_of_getElem? (i := 152) (by decide +kernel))) rfl
theorem zw_493 : Cond.instantiable RX7 2 ∈ zT := zTm (zt_2 (List.mem_of_getElem? (i := 153) (by decide +kernel))) rfl
theorem zw_494 : Cond.methodLink RX11 139 yX7_init ∈ zT := zTm (zt_2 (List.mem_of_getElem? (i := 154) (by decide +kernel))) rfl
theorem zw_495 : Cond.instanceMethod yX7_init ∈ zT := zTm (zt_2 (List.mem_of_getElem? (i := 155) (by decide +kernel))) rfl
theorem zw_496 : Cond.code yX7_init cX7_init 3 none ∈ zT := zTm (zt_2 (List.mem_of_getElem? (i := 156) (by decide +kernel))) rfl
theorem zw_497 : Cond.methodLink RX7 3 objectInit ∈ zT := zTm (zt_2 (List.mem_of_getElem? (i := 157) (by decide +kernel))) rfl
theorem zw_498 : Cond.methodLink RX7 15 yJ9_max_7cf53 ∈ zT := zTm (zt_2 (List.mem_of_getElem? (i := 158) (by decide +kernel))) rfl
theorem zw_499 : Cond.methodLink RX7 25 yJ7_fill_53178 ∈ zT := zTm (zt_2 (List.mem_of_getElem? (i := 159) (by decide +kernel))) rfl
theorem zw_500 : Cond.static yJ7_fill_53178 ∈ zT := zTm (zt_2 (List.mem_of_getElem? (i := 160) (by decide +kernel))) rfl
theorem zw_501 : Cond.code yJ7_fill_53178 cJ7_fill_53178 4 none ∈ zT := zTm (zt_2 (List.mem_of_getElem? (i := 161) (by decide +kernel))) rfl
theorem zw_502 : Cond.fieldLink RX7 9 "BlendCellar$Row" "kind" "I" ∈ zT := zTm (zt_2 (List.mem_of_getElem? (i := 162) (by decide +kernel))) rfl
theorem zw_503 : Cond.fieldLink RX7 21 "BlendCellar$Row" "places" "[I" ∈ zT := zTm (zt_2 (List.mem_of_getElem? (i := 163) (by decide +kernel))) rfl
theorem zw_504 : Cond.fieldLink RX11 223 "BlendCellar$Row" "places" "[I" ∈ zT := zTm (zt_2 (List.mem_of_getElem? (i := 164) (by decide +kernel))) rfl
theorem zw_510 : Cond.methodLink RX11 121 yX11_closeTap ∈ zT := zTm (zt_2 (List.mem_of_getElem? (i := 170) (by decide +kernel))) rfl
theorem zw_512 : Cond.instanceMethod yX11_closeTap ∈ zT := zTm (zt_2 (List.mem_of_getElem? (i := 172) (by decide +kernel))) rfl
theorem zw_513 : Cond.code yX11_closeTap cX11_closeTap 3 (some .long) ∈ zT := zTm (zt_2 (List.mem_of_getElem? (i := 173) (by decide +kernel))) rfl
theorem zw_517 : Cond.code yX11_barrel cX11_barrel 4 (some .long) ∈ zT := zTm (zt_2 (List.mem_of_getElem? (i := 177) (by decide +kernel))) rfl
theorem zw_518 : Cond.methodLink RX11 142 yX11_makeBarrel ∈ zT := zTm (zt_2 (List.mem_of_getElem? (i := 178) (by decide +kernel))) rfl
theorem zw_520 : Cond.instanceMethod yX11_makeBarrel ∈ zT := zTm (zt_2 (List.mem_of_getElem? (i := 180) (by decide +kernel))) rfl
theorem zw_521 : Cond.code yX11_makeBarrel cX11_makeBarrel 5 (some .long) ∈ zT := zTm (zt_2 (List.mem_of_getElem? (i := 181) (by decide +kernel))) rfl
theorem zw_522 : Cond.methodLink RX11 145 yX11_isCents ∈ zT := zTm (zt_2 (List.mem_of_getElem? (i := 182) (by decide +kernel))) rfl
theorem zw_523 : Cond.static yX11_isCents ∈ zT := zTm (zt_2 (List.mem_of_getElem? (i := 183) (by decide +kernel))) rfl
theorem zw_524 : Cond.code yX11_isCents cX11_isCents 1 (some .boolean) ∈ zT := zTm (zt_2 (List.mem_of_getElem? (i := 184) (by decide +kernel))) rfl
theorem zw_525 : Cond.constant RX11 397 (1000000) ∈ zT := zTm (zt_2 (List.mem_of_getElem? (i := 185) (by decide +kernel))) rfl
theorem zw_526 : Cond.constant RX11 149 (1000000000) ∈ zT := zTm (zt_2 (List.mem_of_getElem? (i := 186) (by decide +kernel))) rfl
theorem zw_527 : Cond.constantLong RX11 154 (-12) ∈ zT := zTm (zt_2 (List.mem_of_getElem? (i := 187) (by decide +kernel))) rfl
theorem zw_528 : Cond.classLink RX11 156 RX0 ∈ zT := zTm (zt_2 (List.mem_of_getElem? (i := 188) (by decide +kernel))) rfl
theorem zw_529 : Cond.instantiable RX0 14 ∈ zT := zTm (zt_2 (List.mem_of_getElem? (i := 189) (by decide +kernel))) rfl
theorem zw_530 : Cond.methodLink RX11 158 yX0_init ∈ zT := zTm (zt_2 (List.mem_of_getElem? (i := 190) (by decide +kernel))) rfl
theorem zw_531 : Cond.instanceMethod yX0_init ∈ zT := zTm (zt_2 (List.mem_of_getElem? (i := 191) (by decide +kernel))) rfl
theorem zw_532 : Cond.code yX0_init cX0_init 5 none ∈ zT := zTm (zt_2 (List.mem_of_getElem? (i := 192) (by decide +kernel))) rfl
theorem zw_533 : Cond.methodLink RX0 3 objectInit ∈ zT := zTm (zt_2 (List.mem_of_getElem? (i := 193) (by decide +kernel))) rfl
theorem zw_534 : Cond.classLink RX0 15 RX10 ∈ zT := zTm (zt_2 (List.mem_of_getElem? (i := 194) (by decide +kernel))) rfl
theorem zw_535 : Cond.methodLinkNest RX0 17 yX10_init "BlendCellar" ∈ zT := zTm (zt_2 (List.mem_of_getElem? (i := 195) (by decide +kernel))) rfl
theorem zw_536 : Cond.classLink RX0 10 RX0 ∈ zT := zTm (zt_2 (List.mem_of_getElem? (i := 196) (by decide +kernel))) rfl
theorem zw_537 : Cond.fieldLink RX0 47 "BlendCellar$Barrel" "number" "I" ∈ zT := zTm (zt_2 (List.mem_of_getElem? (i := 197) (by decide +kernel))) rfl
theorem zw_538 : Cond.fieldLink RX5 25 "BlendCellar$Barrel" "number" "I" ∈ zT := zTm (zt_2 (List.mem_of_getElem? (i := 198) (by decide +kernel))) rfl
theorem zw_539 : Cond.fieldLink RX11 211 "BlendCellar$Barrel" "number" "I" ∈ zT := zTm (zt_2 (List.mem_of_getElem? (i := 199) (by decide +kernel))) rfl
theorem zw_540 : Cond.fieldLink RX0 50 "BlendCellar$Barrel" "kind" "I" ∈ zT := zTm (zt_2 (List.mem_of_getElem? (i := 200) (by decide +kernel))) rfl
theorem zw_541 : Cond.fieldLink RX2 38 "BlendCellar$Barrel" "kind" "I" ∈ zT := zTm (zt_2 (List.mem_of_getElem? (i := 201) (by decide +kernel))) rfl
theorem zw_542 : Cond.fieldLink RX11 227 "BlendCellar$Barrel" "kind" "I" ∈ zT := zTm (zt_2 (List.mem_of_getElem? (i := 202) (by decide +kernel))) rfl
theorem zw_543 : Cond.fieldLink RX0 53 "BlendCellar$Barrel" "size" "I" ∈ zT := zTm (zt_2 (List.mem_of_getElem? (i := 203) (by decide +kernel))) rfl
theorem zw_544 : Cond.fieldLink RX0 56 "BlendCellar$Barrel" "cents" "I" ∈ zT := zTm (zt_2 (List.mem_of_getElem? (i := 204) (by decide +kernel))) rfl
theorem zw_545 : Cond.fieldLink RX11 254 "BlendCellar$Barrel" "cents" "I" ∈ zT := zTm (zt_2 (List.mem_of_getElem? (i := 205) (by decide +kernel))) rfl
theorem zw_546 : Cond.fieldLink RX0 9 "BlendCellar$Barrel" "place" "I" ∈ zT := zTm (zt_2 (List.mem_of_getElem? (i := 206) (by decide +kernel))) rfl
theorem zw_547 : Cond.fieldLink RX11 208 "BlendCellar$Barrel" "place" "I" ∈ zT := zTm (zt_2 (List.mem_of_getElem? (i := 207) (by decide +kernel))) rfl
theorem zw_548 : Cond.fieldLink RX0 18 "BlendCellar$Barrel" "wine" "LBlendCellar$Wine;" ∈ zT := zTm (zt_2 (List.mem_of_getElem? (i := 208) (by decide +kernel))) rfl
theorem zw_549 : Cond.fieldLink RX8 54 "BlendCellar$Barrel" "wine" "LBlendCellar$Wine;" ∈ zT := zTm (zt_2 (List.mem_of_getElem? (i := 209) (by decide +kernel))) rfl
theorem zw_550 : Cond.fieldLink RX2 61 "BlendCellar$Barrel" "wine" "LBlendCellar$Wine;" ∈ zT := zTm (zt_2 (List.mem_of_getElem? (i := 210) (by decide +kernel))) rfl
theorem zw_551 : Cond.fieldLink RX11 268 "BlendCellar$Barrel" "wine" "LBlendCellar$Wine;" ∈ zT := zTm (zt_2 (List.mem_of_getElem? (i := 211) (by decide +kernel))) rfl
theorem zw_552 : Cond.fieldLink RX0 22 "BlendCellar$Barrel" "members" "[LBlendCellar$Barrel;" ∈ zT := zTm (zt_2 (List.mem_of_getElem? (i := 212) (by decide +kernel))) rfl
theorem zw_553 : Cond.fieldLink RX2 48 "BlendCellar$Barrel" "members" "[LBlendCellar$Barrel;" ∈ zT := zTm (zt_2 (List.mem_of_getElem? (i := 213) (by decide +kernel))) rfl
theorem zw_554 : Cond.fieldLink RX8 65 "BlendCellar$Barrel" "members" "[LBlendCellar$Barrel;" ∈ zT := zTm (zt_2 (List.mem_of_getElem? (i := 214) (by decide +kernel))) rfl
theorem zw_555 : Cond.fieldLink RX11 204 "BlendCellar$Barrel" "members" "[LBlendCellar$Barrel;" ∈ zT := zTm (zt_2 (List.mem_of_getElem? (i := 215) (by decide +kernel))) rfl
theorem zw_556 : Cond.fieldLink RX0 26 "BlendCellar$Barrel" "memberCount" "I" ∈ zT := zTm (zt_2 (List.mem_of_getElem? (i := 216) (by decide +kernel))) rfl
theorem zw_557 : Cond.fieldLink RX2 45 "BlendCellar$Barrel" "memberCount" "I" ∈ zT := zTm (zt_2 (List.mem_of_getElem? (i := 217) (by decide +kernel))) rfl
theorem zw_558 : Cond.fieldLink RX8 62 "BlendCellar$Barrel" "memberCount" "I" ∈ zT := zTm (zt_2 (List.mem_of_getElem? (i := 218) (by decide +kernel))) rfl
theorem zw_559 : Cond.fieldLink RX11 190 "BlendCellar$Barrel" "memberCount" "I" ∈ zT := zTm (zt_2 (List.mem_of_getElem? (i := 219) (by decide +kernel))) rfl
theorem zw_560 : Cond.fieldLink RX0 29 "BlendCellar$Barrel" "keptCents" "I" ∈ zT := zTm (zt_2 (List.mem_of_getElem? (i := 220) (by decide +kernel))) rfl
theorem zw_561 : Cond.fieldLink RX0 32 "BlendCellar$Barrel" "keptPlace" "I" ∈ zT := zTm (zt_2 (List.mem_of_getElem? (i := 221) (by decide +kernel))) rfl
theorem zw_562 : Cond.fieldLink RX0 35 "BlendCellar$Barrel" "keptMemberCount" "I" ∈ zT := zTm (zt_2 (List.mem_of_getElem? (i := 222) (by decide +kernel))) rfl
theorem zw_563 : Cond.fieldLink RX0 38 "BlendCellar$Barrel" "keptWine" "LBlendCellar$Wine;" ∈ zT := zTm (zt_2 (List.mem_of_getElem? (i := 223) (by decide +kernel))) rfl
theorem zw_564 : Cond.fieldLink RX0 41 "BlendCellar$Barrel" "timesSeen" "I" ∈ zT := zTm (zt_2 (List.mem_of_getElem? (i := 224) (by decide +kernel))) rfl
theorem zw_565 : Cond.fieldLink RX0 44 "BlendCellar$Barrel" "seenAt" "I" ∈ zT := zTm (zt_2 (List.mem_of_getElem? (i := 225) (by decide +kernel))) rfl
theorem zw_595 : Cond.methodLink RX11 161 yJx4a65c_add_9ea2d ∈ zT := zTm (zt_3 (List.mem_of_getElem? (i := 15) (by decide +kernel))) rfl
theorem zw_596 : Cond.instanceMethod yJx4a65c_add_9ea2d ∈ zT := zTm (zt_3 (List.mem_of_getElem? (i := 16) (by decide +kernel))) rfl
theorem zw_597 : Cond.selects RJx4a65c yJx4a65c_add_9ea2d yJx4a65c_add_9ea2d ∈ zT := zTm (zt_3 (List.mem_of_getElem? (i := 17) (by decide +kernel))) rfl
theorem zw_598 : Cond.code yJx4a65c_add_9ea2d cJx4a65c_add_9ea2d 2 (some .boolean) ∈ zT := zTm (zt_3 (List.mem_of_getElem? (i := 18) (by decide +kernel))) rfl
theorem zw_599 : Cond.methodLink RJx4a65c 131 yJx4a65c_add_72be8 ∈ zT := zTm (zt_3 (List.mem_of_getElem? (i := 19) (by decide +kernel))) rfl
theorem zw_601 : Cond.instanceMethod yJx4a65c_add_72be8 ∈ zT := zTm (zt_3 (List.mem_of_getElem? (i := 21) (by decide +kernel))) rfl
theorem zw_602 : Cond.code yJx4a65c_add_72be8 cJx4a65c_add_72be8 4 none ∈ zT := zTm (zt_3 (List.mem_of_getElem? (i := 22) (by decide +kernel))) rfl
theorem zw_603 : Cond.methodLink RJx4a65c 129 yJx4a65c_grow_d5877 ∈ zT := zTm (zt_3 (List.mem_of_getElem? (i := 23) (by decide +kernel))) rfl
theorem zw_605 : Cond.instanceMethod yJx4a65c_grow_d5877 ∈ zT := zTm (zt_3 (List.mem_of_getElem? (i := 25) (by decide +kernel))) rfl
theorem zw_606 : Cond.code yJx4a65c_grow_d5877 cJx4a65c_grow_d5877 1 (some (.array (.object "java/lang/Object"))) ∈ zT := zTm (zt_3 (List.mem_of_getElem? (i := 26) (by decide +kernel))) rfl
theorem zw_607 : Cond.methodLink RJx4a65c 69 yJx4a65c_grow_92f84 ∈ zT := zTm (zt_3 (List.mem_of_getElem? (i := 27) (by decide +kernel))) rfl
theorem zw_609 : Cond.instanceMethod yJx4a65c_grow_92f84 ∈ zT := zTm (zt_3 (List.mem_of_getElem? (i := 29) (by decide +kernel))) rfl
theorem zw_610 : Cond.code yJx4a65c_grow_92f84 cJx4a65c_grow_92f84 4 (some (.array (.object "java/lang/Object"))) ∈ zT := zTm (zt_3 (List.mem_of_getElem? (i := 30) (by decide +kernel))) rfl
theorem zw_611 : Cond.methodLink RJx4a65c 73 yJ8_newLength_cabcc ∈ zT := zTm (zt_3 (List.mem_of_getElem? (i := 31) (by decide +kernel))) rfl
theorem zw_612 : Cond.static yJ8_newLength_cabcc ∈ zT := zTm (zt_3 (List.mem_of_getElem? (i := 32) (by decide +kernel))) rfl
theorem zw_613 : Cond.code yJ8_newLength_cabcc cJ8_newLength_cabcc 4 (some .int) ∈ zT := zTm (zt_3 (List.mem_of_getElem? (i := 33) (by decide +kernel))) rfl
theorem zw_614 : Cond.methodLink RJ8 194 yJ9_max_7cf53 ∈ zT := zTm (zt_3 (List.mem_of_getElem? (i := 34) (by decide +kernel))) rfl
theorem zw_615 : Cond.constant RJ8 200 (2147483639) ∈ zT := zTm (zt_3 (List.mem_of_getElem? (i := 35) (by decide +kernel))) rfl
theorem zw_619 : Cond.methodLink RJx4a65c 66 yJ7_copyOf_1904c ∈ zT := zTm (zt_3 (List.mem_of_getElem? (i := 39) (by decide +kernel))) rfl
theorem zw_620 : Cond.static yJ7_copyOf_1904c ∈ zT := zTm (zt_3 (List.mem_of_getElem? (i := 40) (by decide +kernel))) rfl
theorem zw_621 : Cond.code yJ7_copyOf_1904c cJ7_copyOf_1904c 2 (some (.array (.object "java/lang/Object"))) ∈ zT := zTm (zt_3 (List.mem_of_getElem? (i := 41) (by decide +kernel))) rfl
theorem zw_622 : Cond.methodLink RJ7 86 ⟨"java/lang/Object", "getClass", "()Ljava/lang/Class;"⟩ ∈ zT := zTm (zt_3 (List.mem_of_getElem? (i := 42) (by decide +kernel))) rfl
theorem zw_640 : Cond.methodLink RJ7 300 yJ7_copyOf_6403c ∈ zT := zTm (zt_3 (List.mem_of_getElem? (i := 60) (by decide +kernel))) rfl
theorem zw_641 : Cond.static yJ7_copyOf_6403c ∈ zT := zTm (zt_3 (List.mem_of_getElem? (i := 61) (by decide +kernel))) rfl
theorem zw_642 : Cond.code yJ7_copyOf_6403c cJ7_copyOf_6403c 4 (some (.array (.object "java/lang/Object"))) ∈ zT := zTm (zt_3 (List.mem_of_getElem? (i := 62) (by decide +kernel))) rfl
theorem zw_643 : Cond.classLink RJ7 110 "[Ljava/lang/Object;" ∈ zT := zTm (zt_3 (List.mem_of_getElem? (i := 63) (by decide +kernel))) rfl
theorem zw_645 : Cond.classLink RJ7 2 "java/lang/Object" ∈ zT := zTm (zt_3 (List.mem_of_getElem? (i := 65) (by decide +kernel))) rfl
theorem zw_646 : Cond.methodLink RJ7 304 yJ9_min_7cf53 ∈ zT := zTm (zt_3 (List.mem_of_getElem? (i := 66) (by decide +kernel))) rfl
theorem zw_649 : Cond.methodLink RJ7 150 arraycopyName ∈ zT := zTm (zt_3 (List.mem_of_getElem? (i := 69) (by decide +kernel))) rfl
theorem zw_652 : Cond.methodLink RJx4a65c 79 yJ9_max_7cf53 ∈ zT := zTm (zt_3 (List.mem_of_getElem? (i := 72) (by decide +kernel))) rfl
theorem zw_653 : Cond.classLink RJx4a65c 7 "java/lang/Object" ∈ zT := zTm (zt_3 (List.mem_of_getElem? (i := 73) (by decide +kernel))) rfl
theorem zw_657 : Cond.code yX11_join cX11_join 3 (some .long) ∈ zT := zTm (zt_3 (List.mem_of_getElem? (i := 77) (by decide +kernel))) rfl
theorem zw_658 : Cond.methodLink RX11 165 yX11_joinCask ∈ zT := zTm (zt_3 (List.mem_of_getElem? (i := 78) (by decide +kernel))) rfl
theorem zw_660 : Cond.instanceMethod yX11_joinCask ∈ zT := zTm (zt_3 (List.mem_of_getElem? (i := 80) (by decide +kernel))) rfl
theorem zw_661 : Cond.code yX11_joinCask cX11_joinCask 6 (some .long) ∈ zT := zTm (zt_3 (List.mem_of_getElem? (i := 81) (by decide +kernel))) rfl
theorem zw_662 : Cond.methodLink RX11 169 yX11_lookUpCask ∈ zT := zTm (zt_3 (List.mem_of_getElem? (i := 82) (by decide +kernel))) rfl
theorem zw_664 : Cond.instanceMethod yX11_lookUpCask ∈ zT := zTm (zt_3 (List.mem_of_getElem? (i := 84) (by decide +kernel))) rfl
theorem zw_665 : Cond.code yX11_lookUpCask cX11_lookUpCask 3 (some .int) ∈ zT := zTm (zt_3 (List.mem_of_getElem? (i := 85) (by decide +kernel))) rfl
theorem zw_666 : Cond.methodLink RX11 217 yX11_lookUp ∈ zT := zTm (zt_3 (List.mem_of_getElem? (i := 86) (by decide +kernel))) rfl
theorem zw_668 : Cond.instanceMethod yX11_lookUp ∈ zT := zTm (zt_3 (List.mem_of_getElem? (i := 88) (by decide +kernel))) rfl
theorem zw_669 : Cond.code yX11_lookUp cX11_lookUp 2 (some .int) ∈ zT := zTm (zt_3 (List.mem_of_getElem? (i := 89) (by decide +kernel))) rfl
theorem zw_670 : Cond.methodLink RX11 180 yJx4a65c_get_915e3 ∈ zT := zTm (zt_3 (List.mem_of_getElem? (i := 90) (by decide +kernel))) rfl
theorem zw_671 : Cond.instanceMethod yJx4a65c_get_915e3 ∈ zT := zTm (zt_3 (List.mem_of_getElem? (i := 91) (by decide +kernel))) rfl
theorem zw_672 : Cond.selects RJx4a65c yJx4a65c_get_915e3 yJx4a65c_get_915e3 ∈ zT := zTm (zt_3 (List.mem_of_getElem? (i := 92) (by decide +kernel))) rfl
theorem zw_673 : Cond.code yJx4a65c_get_915e3 cJx4a65c_get_915e3 2 (some (.object "java/lang/Object")) ∈ zT := zTm (zt_3 (List.mem_of_getElem? (i := 93) (by decide +kernel))) rfl
theorem zw_674 : Cond.methodLink RJx4a65c 118 yJ15_checkIndex_7cf53 ∈ zT := zTm (zt_3 (List.mem_of_getElem? (i := 94) (by decide +kernel))) rfl
theorem zw_675 : Cond.static yJ15_checkIndex_7cf53 ∈ zT := zTm (zt_3 (List.mem_of_getElem? (i := 95) (by decide +kernel))) rfl
theorem zw_676 : Cond.code yJ15_checkIndex_7cf53 cJ15_checkIndex_7cf53 2 (some .int) ∈ zT := zTm (zt_3 (List.mem_of_getElem? (i := 96) (by decide +kernel))) rfl
theorem zw_677 : Cond.methodLink RJ15 105 yJ3_checkIndex_8e157 ∈ zT := zTm (zt_3 (List.mem_of_getElem? (i := 97) (by decide +kernel))) rfl
theorem zw_678 : Cond.static yJ3_checkIndex_8e157 ∈ zT := zTm (zt_3 (List.mem_of_getElem? (i := 98) (by decide +kernel))) rfl
theorem zw_679 : Cond.code yJ3_checkIndex_8e157 cJ3_checkIndex_8e157 3 (some .int) ∈ zT := zTm (zt_3 (List.mem_of_getElem? (i := 99) (by decide +kernel))) rfl
theorem zw_680 : Cond.methodLink RJx4a65c 123 yJx4a65c_elementData_915e3 ∈ zT := zTm (zt_3 (List.mem_of_getElem? (i := 100) (by decide +kernel))) rfl
theorem zw_681 : Cond.instanceMethod yJx4a65c_elementData_915e3 ∈ zT := zTm (zt_3 (List.mem_of_getElem? (i := 101) (by decide +kernel))) rfl
theorem zw_682 : Cond.selects RJx4a65c yJx4a65c_elementData_915e3 yJx4a65c_elementData_915e3 ∈ zT := zTm (zt_3 (List.mem_of_getElem? (i := 102) (by decide +kernel))) rfl
theorem zw_683 : Cond.code yJx4a65c_elementData_915e3 cJx4a65c_elementData_915e3 2 (some (.object "java/lang/Object")) ∈ zT := zTm (zt_3 (List.mem_of_getElem? (i := 103) (by decide +kernel))) rfl
theorem zw_684 : Cond.methodLink RX11 173 yX11_lookUpVessel ∈ zT := zTm (zt_3 (List.mem_of_getElem? (i := 104) (by decide +kernel))) rfl
theorem zw_686 : Cond.instanceMethod yX11_lookUpVessel ∈ zT := zTm (zt_3 (List.mem_of_getElem? (i := 106) (by decide +kernel))) rfl
theorem zw_687 : Cond.code yX11_lookUpVessel cX11_lookUpVessel 3 (some .int) ∈ zT := zTm (zt_3 (List.mem_of_getElem? (i := 107) (by decide +kernel))) rfl
theorem zw_688 : Cond.methodLink RX11 176 yX11_firstOf ∈ zT := zTm (zt_3 (List.mem_of_getElem? (i := 108) (by decide +kernel))) rfl
theorem zw_689 : Cond.static yX11_firstOf ∈ zT := zTm (zt_3 (List.mem_of_getElem? (i := 109) (by decide +kernel))) rfl
theorem zw_690 : Cond.code yX11_firstOf cX11_firstOf 2 (some .int) ∈ zT := zTm (zt_3 (List.mem_of_getElem? (i := 110) (by decide +kernel))) rfl
theorem zw_691 : Cond.methodLink RX11 184 yX0_onFloor ∈ zT := zTm (zt_3 (List.mem_of_getElem? (i := 111) (by decide +kernel))) rfl
theorem zw_692 : Cond.instanceMethod yX0_onFloor ∈ zT := zTm (zt_3 (List.mem_of_getElem? (i := 112) (by decide +kernel))) rfl
theorem zw_693 : Cond.selects RX0 yX0_onFloor yX0_onFloor ∈ zT := zTm (zt_3 (List.mem_of_getElem? (i := 113) (by decide +kernel))) rfl
theorem zw_694 : Cond.code yX0_onFloor cX0_onFloor 1 (some .boolean) ∈ zT := zTm (zt_3 (List.mem_of_getElem? (i := 114) (by decide +kernel))) rfl
theorem zw_695 : Cond.constantLong RX11 188 (-9) ∈ zT := zTm (zt_3 (List.mem_of_getElem? (i := 115) (by decide +kernel))) rfl
theorem zw_696 : Cond.methodLink RX11 193 yX1_keepBarrel ∈ zT := zTm (zt_3 (List.mem_of_getElem? (i := 116) (by decide +kernel))) rfl
theorem zw_697 : Cond.instanceMethod yX1_keepBarrel ∈ zT := zTm (zt_3 (List.mem_of_getElem? (i := 117) (by decide +kernel))) rfl
theorem zw_698 : Cond.selects RX1 yX1_keepBarrel yX1_keepBarrel ∈ zT := zTm (zt_3 (List.mem_of_getElem? (i := 118) (by decide +kernel))) rfl
theorem zw_699 : Cond.code yX1_keepBarrel cX1_keepBarrel 2 none ∈ zT := zTm (zt_3 (List.mem_of_getElem? (i := 119) (by decide +kernel))) rfl
theorem zw_700 : Cond.methodLink RX1 57 yX0_keep ∈ zT := zTm (zt_3 (List.mem_of_getElem? (i := 120) (by decide +kernel))) rfl
theorem zw_701 : Cond.instanceMethod yX0_keep ∈ zT := zTm (zt_3 (List.mem_of_getElem? (i := 121) (by decide +kernel))) rfl
theorem zw_702 : Cond.selects RX0 yX0_keep yX0_keep ∈ zT := zTm (zt_3 (List.mem_of_getElem? (i := 122) (by decide +kernel))) rfl
theorem zw_703 : Cond.code yX0_keep cX0_keep 1 none ∈ zT := zTm (zt_3 (List.mem_of_getElem? (i := 123) (by decide +kernel))) rfl
theorem zw_704 : Cond.methodLink RX0 106 yX10_copyFrom ∈ zT := zTm (zt_3 (List.mem_of_getElem? (i := 124) (by decide +kernel))) rfl
theorem zw_705 : Cond.instanceMethod yX10_copyFrom ∈ zT := zTm (zt_3 (List.mem_of_getElem? (i := 125) (by decide +kernel))) rfl
theorem zw_706 : Cond.selects RX10 yX10_copyFrom yX10_copyFrom ∈ zT := zTm (zt_3 (List.mem_of_getElem? (i := 126) (by decide +kernel))) rfl
theorem zw_707 : Cond.code yX10_copyFrom cX10_copyFrom 2 none ∈ zT := zTm (zt_3 (List.mem_of_getElem? (i := 127) (by decide +kernel))) rfl
theorem zw_708 : Cond.methodLink RX10 42 arraycopyName ∈ zT := zTm (zt_3 (List.mem_of_getElem? (i := 128) (by decide +kernel))) rfl
theorem zw_709 : Cond.methodLink RX1 62 yJx4a65c_add_9ea2d ∈ zT := zTm (zt_3 (List.mem_of_getElem? (i := 129) (by decide +kernel))) rfl
theorem zw_710 : Cond.methodLink RX11 197 yX0_takeIn ∈ zT := zTm (zt_3 (List.mem_of_getElem? (i := 130) (by decide +kernel))) rfl
theorem zw_711 : Cond.instanceMethod yX0_takeIn ∈ zT := zTm (zt_3 (List.mem_of_getElem? (i := 131) (by decide +kernel))) rfl
theorem zw_712 : Cond.selects RX0 yX0_takeIn yX0_takeIn ∈ zT := zTm (zt_3 (List.mem_of_getElem? (i := 132) (by decide +kernel))) rfl
theorem zw_713 : Cond.code yX0_takeIn cX0_takeIn 2 none ∈ zT := zTm (zt_3 (List.mem_of_getElem? (i := 133) (by decide +kernel))) rfl
theorem zw_717 : Cond.code yX11_leave cX11_leave 2 (some .long) ∈ zT := zTm (zt_3 (List.mem_of_getElem? (i := 137) (by decide +kernel))) rfl
theorem zw_718 : Cond.methodLink RX11 200 yX11_leaveCask ∈ zT := zTm (zt_3 (List.mem_of_getElem? (i := 138) (by decide +kernel))) rfl
theorem zw_720 : Cond.instanceMethod yX11_leaveCask ∈ zT := zTm (zt_3 (List.mem_of_getElem? (i := 140) (by decide +kernel))) rfl
theorem zw_721 : Cond.code yX11_leaveCask cX11_leaveCask 5 (some .long) ∈ zT := zTm (zt_3 (List.mem_of_getElem? (i := 141) (by decide +kernel))) rfl
theorem zw_725 : Cond.code yX11_lay cX11_lay 4 (some .long) ∈ zT := zTm (zt_3 (List.mem_of_getElem? (i := 145) (by decide +kernel))) rfl
theorem zw_726 : Cond.methodLink RX11 214 yX11_layBarrel ∈ zT := zTm (zt_3 (List.mem_of_getElem? (i := 146) (by decide +kernel))) rfl
theorem zw_728 : Cond.instanceMethod yX11_layBarrel ∈ zT := zTm (zt_3 (List.mem_of_getElem? (i := 148) (by decide +kernel))) rfl
theorem zw_729 : Cond.code yX11_layBarrel cX11_layBarrel 7 (some .long) ∈ zT := zTm (zt_3 (List.mem_of_getElem? (i := 149) (by decide +kernel))) rfl
theorem zw_730 : Cond.methodLink RX11 220 yX11_readPlace ∈ zT := zTm (zt_3 (List.mem_of_getElem? (i := 150) (by decide +kernel))) rfl
theorem zw_732 : Cond.instanceMethod yX11_readPlace ∈ zT := zTm (zt_3 (List.mem_of_getElem? (i := 152) (by decide +kernel))) rfl
theorem zw_733 : Cond.code yX11_readPlace cX11_readPlace 3 (some .int) ∈ zT := zTm (zt_3 (List.mem_of_getElem? (i := 153) (by decide +kernel))) rfl
theorem zw_734 : Cond.methodLink RX11 230 yX7_takes ∈ zT := zTm (zt_3 (List.mem_of_getElem? (i := 154) (by decide +kernel))) rfl
theorem zw_735 : Cond.instanceMethod yX7_takes ∈ zT := zTm (zt_3 (List.mem_of_getElem? (i := 155) (by decide +kernel))) rfl
theorem zw_736 : Cond.selects RX7 yX7_takes yX7_takes ∈ zT := zTm (zt_3 (List.mem_of_getElem? (i := 156) (by decide +kernel))) rfl
theorem zw_737 : Cond.code yX7_takes cX7_takes 2 (some .boolean) ∈ zT := zTm (zt_3 (List.mem_of_getElem? (i := 157) (by decide +kernel))) rfl
theorem zw_738 : Cond.constantLong RX11 233 (-4) ∈ zT := zTm (zt_3 (List.mem_of_getElem? (i := 158) (by decide +kernel))) rfl
theorem zw_739 : Cond.methodLink RX11 235 yX1_keepPlace ∈ zT := zTm (zt_3 (List.mem_of_getElem? (i := 159) (by decide +kernel))) rfl
theorem zw_740 : Cond.methodLink RX11 239 yX11_placeCode ∈ zT := zTm (zt_3 (List.mem_of_getElem? (i := 160) (by decide +kernel))) rfl
theorem zw_741 : Cond.static yX11_placeCode ∈ zT := zTm (zt_3 (List.mem_of_getElem? (i := 161) (by decide +kernel))) rfl
theorem zw_742 : Cond.code yX11_placeCode cX11_placeCode 2 (some .int) ∈ zT := zTm (zt_3 (List.mem_of_getElem? (i := 162) (by decide +kernel))) rfl
theorem zw_746 : Cond.code yX11_lift cX11_lift 3 (some .long) ∈ zT := zTm (zt_3 (List.mem_of_getElem? (i := 166) (by decide +kernel))) rfl
theorem zw_747 : Cond.methodLink RX11 242 yX11_liftBarrel ∈ zT := zTm (zt_3 (List.mem_of_getElem? (i := 167) (by decide +kernel))) rfl
theorem zw_749 : Cond.instanceMethod yX11_liftBarrel ∈ zT := zTm (zt_3 (List.mem_of_getElem? (i := 169) (by decide +kernel))) rfl
theorem zw_750 : Cond.code yX11_liftBarrel cX11_liftBarrel 6 (some .long) ∈ zT := zTm (zt_3 (List.mem_of_getElem? (i := 170) (by decide +kernel))) rfl
theorem zw_751 : Cond.methodLink RX11 245 yX11_find ∈ zT := zTm (zt_3 (List.mem_of_getElem? (i := 171) (by decide +kernel))) rfl
theorem zw_753 : Cond.instanceMethod yX11_find ∈ zT := zTm (zt_3 (List.mem_of_getElem? (i := 173) (by decide +kernel))) rfl
theorem zw_754 : Cond.code yX11_find cX11_find 2 (some (.object "BlendCellar$Barrel")) ∈ zT := zTm (zt_3 (List.mem_of_getElem? (i := 174) (by decide +kernel))) rfl
theorem zw_755 : Cond.constantLong RX11 249 (-2) ∈ zT := zTm (zt_3 (List.mem_of_getElem? (i := 175) (by decide +kernel))) rfl
theorem zw_759 : Cond.code yX11_worth cX11_worth 3 (some .long) ∈ zT := zTm (zt_3 (List.mem_of_getElem? (i := 179) (by decide +kernel))) rfl
theorem zw_760 : Cond.methodLink RX11 251 yX11_tellCents ∈ zT := zTm (zt_3 (List.mem_of_getElem? (i := 180) (by decide +kernel))) rfl
theorem zw_762 : Cond.instanceMethod yX11_tellCents ∈ zT := zTm (zt_3 (List.mem_of_getElem? (i := 182) (by decide +kernel))) rfl
theorem zw_763 : Cond.code yX11_tellCents cX11_tellCents 6 (some .long) ∈ zT := zTm (zt_3 (List.mem_of_getElem? (i := 183) (by decide +kernel))) rfl
theorem zw_767 : Cond.code yX11_fill cX11_fill 5 (some .long) ∈ zT := zTm (zt_3 (List.mem_of_getElem? (i := 187) (by decide +kernel))) rfl
theorem zw_768 : Cond.methodLink RX11 257 yX11_fillVessel ∈ zT := zTm (zt_3 (List.mem_of_getElem? (i := 188) (by decide +kernel))) rfl
theorem zw_770 : Cond.instanceMethod yX11_fillVessel ∈ zT := zTm (zt_3 (List.mem_of_getElem? (i := 190) (by decide +kernel))) rfl
theorem zw_771 : Cond.code yX11_fillVessel cX11_fillVessel 8 (some .long) ∈ zT := zTm (zt_3 (List.mem_of_getElem? (i := 191) (by decide +kernel))) rfl
theorem zw_772 : Cond.methodLink RX11 261 yX11_isMl ∈ zT := zTm (zt_3 (List.mem_of_getElem? (i := 192) (by decide +kernel))) rfl
theorem zw_773 : Cond.static yX11_isMl ∈ zT := zTm (zt_3 (List.mem_of_getElem? (i := 193) (by decide +kernel))) rfl
theorem zw_774 : Cond.code yX11_isMl cX11_isMl 2 (some .boolean) ∈ zT := zTm (zt_3 (List.mem_of_getElem? (i := 194) (by decide +kernel))) rfl
theorem zw_775 : Cond.constantLong RX11 608 (1000000000) ∈ zT := zTm (zt_3 (List.mem_of_getElem? (i := 195) (by decide +kernel))) rfl
theorem zw_776 : Cond.methodLink RX11 265 yX11_lookUpFreeVessel ∈ zT := zTm (zt_3 (List.mem_of_getElem? (i := 196) (by decide +kernel))) rfl
theorem zw_778 : Cond.instanceMethod yX11_lookUpFreeVessel ∈ zT := zTm (zt_3 (List.mem_of_getElem? (i := 198) (by decide +kernel))) rfl
theorem zw_779 : Cond.code yX11_lookUpFreeVessel cX11_lookUpFreeVessel 3 (some .int) ∈ zT := zTm (zt_3 (List.mem_of_getElem? (i := 199) (by decide +kernel))) rfl
theorem zw_780 : Cond.methodLink RX11 351 yX0_inCask ∈ zT := zTm (zt_3 (List.mem_of_getElem? (i := 200) (by decide +kernel))) rfl
theorem zw_781 : Cond.instanceMethod yX0_inCask ∈ zT := zTm (zt_3 (List.mem_of_getElem? (i := 201) (by decide +kernel))) rfl
theorem zw_782 : Cond.selects RX0 yX0_inCask yX0_inCask ∈ zT := zTm (zt_3 (List.mem_of_getElem? (i := 202) (by decide +kernel))) rfl
theorem zw_783 : Cond.code yX0_inCask cX0_inCask 1 (some .boolean) ∈ zT := zTm (zt_3 (List.mem_of_getElem? (i := 203) (by decide +kernel))) rfl
theorem zw_784 : Cond.methodLink RX11 274 yX0_takesInAll ∈ zT := zTm (zt_3 (List.mem_of_getElem? (i := 204) (by decide +kernel))) rfl
theorem zw_785 : Cond.instanceMethod yX0_takesInAll ∈ zT := zTm (zt_3 (List.mem_of_getElem? (i := 205) (by decide +kernel))) rfl
theorem zw_786 : Cond.selects RX0 yX0_takesInAll yX0_takesInAll ∈ zT := zTm (zt_3 (List.mem_of_getElem? (i := 206) (by decide +kernel))) rfl
theorem zw_787 : Cond.code yX0_takesInAll cX0_takesInAll 5 (some .long) ∈ zT := zTm (zt_3 (List.mem_of_getElem? (i := 207) (by decide +kernel))) rfl
theorem zw_788 : Cond.methodLink RX0 70 yX0_vesselTakes ∈ zT := zTm (zt_3 (List.mem_of_getElem? (i := 208) (by decide +kernel))) rfl
theorem zw_790 : Cond.instanceMethod yX0_vesselTakes ∈ zT := zTm (zt_3 (List.mem_of_getElem? (i := 210) (by decide +kernel))) rfl
theorem zw_791 : Cond.code yX0_vesselTakes cX0_vesselTakes 2 (some .long) ∈ zT := zTm (zt_3 (List.mem_of_getElem? (i := 211) (by decide +kernel))) rfl
theorem zw_792 : Cond.methodLink RX0 80 yX0_steelTakes ∈ zT := zTm (zt_3 (List.mem_of_getElem? (i := 212) (by decide +kernel))) rfl
theorem zw_794 : Cond.instanceMethod yX0_steelTakes ∈ zT := zTm (zt_3 (List.mem_of_getElem? (i := 214) (by decide +kernel))) rfl
theorem zw_795 : Cond.code yX0_steelTakes cX0_steelTakes 2 (some .long) ∈ zT := zTm (zt_3 (List.mem_of_getElem? (i := 215) (by decide +kernel))) rfl
theorem zw_796 : Cond.methodLink RX0 74 yX9_ran ∈ zT := zTm (zt_3 (List.mem_of_getElem? (i := 216) (by decide +kernel))) rfl
theorem zw_797 : Cond.instanceMethod yX9_ran ∈ zT := zTm (zt_3 (List.mem_of_getElem? (i := 217) (by decide +kernel))) rfl
theorem zw_798 : Cond.selects RX9 yX9_ran yX9_ran ∈ zT := zTm (zt_3 (List.mem_of_getElem? (i := 218) (by decide +kernel))) rfl
theorem zw_799 : Cond.code yX9_ran cX9_ran 2 none ∈ zT := zTm (zt_3 (List.mem_of_getElem? (i := 219) (by decide +kernel))) rfl
theorem zw_800 : Cond.constantLong RX0 83 (10) ∈ zT := zTm (zt_3 (List.mem_of_getElem? (i := 220) (by decide +kernel))) rfl
theorem zw_801 : Cond.methodLink RX0 85 yJ9_max_f86c9 ∈ zT := zTm (zt_3 (List.mem_of_getElem? (i := 221) (by decide +kernel))) rfl
theorem zw_804 : Cond.constantLong RX11 278 (-11) ∈ zT := zTm (zt_3 (List.mem_of_getElem? (i := 224) (by decide +kernel))) rfl
theorem zw_805 : Cond.methodLink RX11 283 yX10_amountOf ∈ zT := zTm (zt_3 (List.mem_of_getElem? (i := 225) (by decide +kernel))) rfl
theorem zw_806 : Cond.instanceMethod yX10_amountOf ∈ zT := zTm (zt_3 (List.mem_of_getElem? (i := 226) (by decide +kernel))) rfl
theorem zw_807 : Cond.selects RX10 yX10_amountOf yX10_amountOf ∈ zT := zTm (zt_3 (List.mem_of_getElem? (i := 227) (by decide +kernel))) rfl
theorem zw_808 : Cond.code yX10_amountOf cX10_amountOf 3 (some .long) ∈ zT := zTm (zt_3 (List.mem_of_getElem? (i := 228) (by decide +kernel))) rfl
theorem zw_809 : Cond.methodLink RX10 25 yX10_indexOf ∈ zT := zTm (zt_3 (List.mem_of_getElem? (i := 229) (by decide +kernel))) rfl
theorem zw_811 : Cond.instanceMethod yX10_indexOf ∈ zT := zTm (zt_3 (List.mem_of_getElem? (i := 231) (by decide +kernel))) rfl
theorem zw_812 : Cond.code yX10_indexOf cX10_indexOf 5 (some .int) ∈ zT := zTm (zt_3 (List.mem_of_getElem? (i := 232) (by decide +kernel))) rfl
theorem zw_813 : Cond.methodLink RX10 29 yX10_isAt ∈ zT := zTm (zt_3 (List.mem_of_getElem? (i := 233) (by decide +kernel))) rfl
theorem zw_815 : Cond.instanceMethod yX10_isAt ∈ zT := zTm (zt_3 (List.mem_of_getElem? (i := 235) (by decide +kernel))) rfl
theorem zw_816 : Cond.code yX10_isAt cX10_isAt 3 (some .boolean) ∈ zT := zTm (zt_3 (List.mem_of_getElem? (i := 236) (by decide +kernel))) rfl
theorem zw_817 : Cond.methodLink RX11 286 yX1_keepAccount ∈ zT := zTm (zt_3 (List.mem_of_getElem? (i := 237) (by decide +kernel))) rfl
theorem zw_818 : Cond.instanceMethod yX1_keepAccount ∈ zT := zTm (zt_3 (List.mem_of_getElem? (i := 238) (by decide +kernel))) rfl
theorem zw_819 : Cond.selects RX1 yX1_keepAccount yX1_keepAccount ∈ zT := zTm (zt_3 (List.mem_of_getElem? (i := 239) (by decide +kernel))) rfl
theorem zw_820 : Cond.code yX1_keepAccount cX1_keepAccount 3 none ∈ zT := zTm (zt_4 (List.mem_of_getElem? (i := 0) (by decide +kernel))) rfl
theorem zw_821 : Cond.methodLink RX1 70 yX10_copyFrom ∈ zT := zTm (zt_4 (List.mem_of_getElem? (i := 1) (by decide +kernel))) rfl
theorem zw_822 : Cond.methodLink RX11 290 yX10_add ∈ zT := zTm (zt_4 (List.mem_of_getElem? (i := 2) (by decide +kernel))) rfl
theorem zw_823 : Cond.instanceMethod yX10_add ∈ zT := zTm (zt_4 (List.mem_of_getElem? (i := 3) (by decide +kernel))) rfl
theorem zw_824 : Cond.selects RX10 yX10_add yX10_add ∈ zT := zTm (zt_4 (List.mem_of_getElem? (i := 4) (by decide +kernel))) rfl
theorem zw_825 : Cond.code yX10_add cX10_add 5 none ∈ zT := zTm (zt_4 (List.mem_of_getElem? (i := 5) (by decide +kernel))) rfl
theorem zw_826 : Cond.methodLink RX10 33 yJ7_copyOf_59c91 ∈ zT := zTm (zt_4 (List.mem_of_getElem? (i := 6) (by decide +kernel))) rfl
theorem zw_827 : Cond.static yJ7_copyOf_59c91 ∈ zT := zTm (zt_4 (List.mem_of_getElem? (i := 7) (by decide +kernel))) rfl
theorem zw_828 : Cond.code yJ7_copyOf_59c91 cJ7_copyOf_59c91 3 (some (.array .int)) ∈ zT := zTm (zt_4 (List.mem_of_getElem? (i := 8) (by decide +kernel))) rfl
theorem zw_836 : Cond.methodLink RX10 39 yJ7_copyOf_c38d5 ∈ zT := zTm (zt_4 (List.mem_of_getElem? (i := 16) (by decide +kernel))) rfl
theorem zw_837 : Cond.static yJ7_copyOf_c38d5 ∈ zT := zTm (zt_4 (List.mem_of_getElem? (i := 17) (by decide +kernel))) rfl
theorem zw_838 : Cond.code yJ7_copyOf_c38d5 cJ7_copyOf_c38d5 3 (some (.array .long)) ∈ zT := zTm (zt_4 (List.mem_of_getElem? (i := 18) (by decide +kernel))) rfl
theorem zw_844 : Cond.methodLink RX11 293 yX4_add ∈ zT := zTm (zt_4 (List.mem_of_getElem? (i := 24) (by decide +kernel))) rfl
theorem zw_845 : Cond.instanceMethod yX4_add ∈ zT := zTm (zt_4 (List.mem_of_getElem? (i := 25) (by decide +kernel))) rfl
theorem zw_846 : Cond.selects RX4 yX4_add yX4_add ∈ zT := zTm (zt_4 (List.mem_of_getElem? (i := 26) (by decide +kernel))) rfl
theorem zw_847 : Cond.code yX4_add cX4_add 10 none ∈ zT := zTm (zt_4 (List.mem_of_getElem? (i := 27) (by decide +kernel))) rfl
theorem zw_848 : Cond.methodLink RX4 19 yJ7_copyOf_c38d5 ∈ zT := zTm (zt_4 (List.mem_of_getElem? (i := 28) (by decide +kernel))) rfl
theorem zw_852 : Cond.code yX11_rack cX11_rack 5 (some .long) ∈ zT := zTm (zt_4 (List.mem_of_getElem? (i := 32) (by decide +kernel))) rfl
theorem zw_853 : Cond.methodLink RX11 296 yX11_rackWine ∈ zT := zTm (zt_4 (List.mem_of_getElem? (i := 33) (by decide +kernel))) rfl
theorem zw_855 : Cond.instanceMethod yX11_rackWine ∈ zT := zTm (zt_4 (List.mem_of_getElem? (i := 35) (by decide +kernel))) rfl
theorem zw_856 : Cond.code yX11_rackWine cX11_rackWine 8 (some .long) ∈ zT := zTm (zt_4 (List.mem_of_getElem? (i := 36) (by decide +kernel))) rfl
theorem zw_857 : Cond.methodLink RX11 299 yX11_checkPair ∈ zT := zTm (zt_4 (List.mem_of_getElem? (i := 37) (by decide +kernel))) rfl
theorem zw_859 : Cond.instanceMethod yX11_checkPair ∈ zT := zTm (zt_4 (List.mem_of_getElem? (i := 39) (by decide +kernel))) rfl
theorem zw_860 : Cond.code yX11_checkPair cX11_checkPair 3 (some .int) ∈ zT := zTm (zt_4 (List.mem_of_getElem? (i := 40) (by decide +kernel))) rfl
theorem zw_861 : Cond.methodLink RX11 302 yX0_maySpare ∈ zT := zTm (zt_4 (List.mem_of_getElem? (i := 41) (by decide +kernel))) rfl
theorem zw_862 : Cond.instanceMethod yX0_maySpare ∈ zT := zTm (zt_4 (List.mem_of_getElem? (i := 42) (by decide +kernel))) rfl
theorem zw_863 : Cond.selects RX0 yX0_maySpare yX0_maySpare ∈ zT := zTm (zt_4 (List.mem_of_getElem? (i := 43) (by decide +kernel))) rfl
theorem zw_864 : Cond.code yX0_maySpare cX0_maySpare 5 (some .long) ∈ zT := zTm (zt_4 (List.mem_of_getElem? (i := 44) (by decide +kernel))) rfl
theorem zw_865 : Cond.methodLink RX0 91 yX0_vesselSpares ∈ zT := zTm (zt_4 (List.mem_of_getElem? (i := 45) (by decide +kernel))) rfl
theorem zw_867 : Cond.instanceMethod yX0_vesselSpares ∈ zT := zTm (zt_4 (List.mem_of_getElem? (i := 47) (by decide +kernel))) rfl
theorem zw_868 : Cond.code yX0_vesselSpares cX0_vesselSpares 2 (some .long) ∈ zT := zTm (zt_4 (List.mem_of_getElem? (i := 48) (by decide +kernel))) rfl
theorem zw_869 : Cond.methodLink RX0 94 yX0_oakSpares ∈ zT := zTm (zt_4 (List.mem_of_getElem? (i := 49) (by decide +kernel))) rfl
theorem zw_871 : Cond.instanceMethod yX0_oakSpares ∈ zT := zTm (zt_4 (List.mem_of_getElem? (i := 51) (by decide +kernel))) rfl
theorem zw_872 : Cond.code yX0_oakSpares cX0_oakSpares 2 (some .long) ∈ zT := zTm (zt_4 (List.mem_of_getElem? (i := 52) (by decide +kernel))) rfl
theorem zw_873 : Cond.constantLong RX11 305 (-10) ∈ zT := zTm (zt_4 (List.mem_of_getElem? (i := 53) (by decide +kernel))) rfl
theorem zw_874 : Cond.methodLink RX11 307 yX2_clear ∈ zT := zTm (zt_4 (List.mem_of_getElem? (i := 54) (by decide +kernel))) rfl
theorem zw_875 : Cond.instanceMethod yX2_clear ∈ zT := zTm (zt_4 (List.mem_of_getElem? (i := 55) (by decide +kernel))) rfl
theorem zw_876 : Cond.selects RX2 yX2_clear yX2_clear ∈ zT := zTm (zt_4 (List.mem_of_getElem? (i := 56) (by decide +kernel))) rfl
theorem zw_877 : Cond.code yX2_clear cX2_clear 1 none ∈ zT := zTm (zt_4 (List.mem_of_getElem? (i := 57) (by decide +kernel))) rfl
theorem zw_878 : Cond.methodLink RX2 35 yX10_clear ∈ zT := zTm (zt_4 (List.mem_of_getElem? (i := 58) (by decide +kernel))) rfl
theorem zw_879 : Cond.instanceMethod yX10_clear ∈ zT := zTm (zt_4 (List.mem_of_getElem? (i := 59) (by decide +kernel))) rfl
theorem zw_880 : Cond.selects RX10 yX10_clear yX10_clear ∈ zT := zTm (zt_4 (List.mem_of_getElem? (i := 60) (by decide +kernel))) rfl
theorem zw_881 : Cond.code yX10_clear cX10_clear 1 none ∈ zT := zTm (zt_4 (List.mem_of_getElem? (i := 61) (by decide +kernel))) rfl
theorem zw_882 : Cond.methodLink RX11 310 yX2_drawFrom ∈ zT := zTm (zt_4 (List.mem_of_getElem? (i := 62) (by decide +kernel))) rfl
theorem zw_883 : Cond.instanceMethod yX2_drawFrom ∈ zT := zTm (zt_4 (List.mem_of_getElem? (i := 63) (by decide +kernel))) rfl
theorem zw_884 : Cond.selects RX2 yX2_drawFrom yX2_drawFrom ∈ zT := zTm (zt_4 (List.mem_of_getElem? (i := 64) (by decide +kernel))) rfl
theorem zw_885 : Cond.code yX2_drawFrom cX2_drawFrom 11 none ∈ zT := zTm (zt_4 (List.mem_of_getElem? (i := 65) (by decide +kernel))) rfl
theorem zw_886 : Cond.methodLink RX2 41 yX2_drawFromVessel ∈ zT := zTm (zt_4 (List.mem_of_getElem? (i := 66) (by decide +kernel))) rfl
theorem zw_888 : Cond.instanceMethod yX2_drawFromVessel ∈ zT := zTm (zt_4 (List.mem_of_getElem? (i := 68) (by decide +kernel))) rfl
theorem zw_889 : Cond.code yX2_drawFromVessel cX2_drawFromVessel 4 none ∈ zT := zTm (zt_4 (List.mem_of_getElem? (i := 69) (by decide +kernel))) rfl
theorem zw_890 : Cond.methodLink RX2 64 yX2_reckonShares ∈ zT := zTm (zt_4 (List.mem_of_getElem? (i := 70) (by decide +kernel))) rfl
theorem zw_892 : Cond.instanceMethod yX2_reckonShares ∈ zT := zTm (zt_4 (List.mem_of_getElem? (i := 72) (by decide +kernel))) rfl
theorem zw_893 : Cond.code yX2_reckonShares cX2_reckonShares 9 none ∈ zT := zTm (zt_4 (List.mem_of_getElem? (i := 73) (by decide +kernel))) rfl
theorem zw_894 : Cond.methodLink RX2 68 yX2_addGoing ∈ zT := zTm (zt_4 (List.mem_of_getElem? (i := 74) (by decide +kernel))) rfl
theorem zw_896 : Cond.instanceMethod yX2_addGoing ∈ zT := zTm (zt_4 (List.mem_of_getElem? (i := 76) (by decide +kernel))) rfl
theorem zw_897 : Cond.code yX2_addGoing cX2_addGoing 4 none ∈ zT := zTm (zt_4 (List.mem_of_getElem? (i := 77) (by decide +kernel))) rfl
theorem zw_898 : Cond.methodLink RX2 96 yX10_add ∈ zT := zTm (zt_4 (List.mem_of_getElem? (i := 78) (by decide +kernel))) rfl
theorem zw_899 : Cond.methodLink RX2 51 yX0_maySpare ∈ zT := zTm (zt_4 (List.mem_of_getElem? (i := 79) (by decide +kernel))) rfl
theorem zw_900 : Cond.methodLink RX2 55 yJ9_min_f86c9 ∈ zT := zTm (zt_4 (List.mem_of_getElem? (i := 80) (by decide +kernel))) rfl
theorem zw_903 : Cond.methodLink RX11 314 yX11_hasTooManyPartsFor ∈ zT := zTm (zt_4 (List.mem_of_getElem? (i := 83) (by decide +kernel))) rfl
theorem zw_905 : Cond.instanceMethod yX11_hasTooManyPartsFor ∈ zT := zTm (zt_4 (List.mem_of_getElem? (i := 85) (by decide +kernel))) rfl
theorem zw_906 : Cond.code yX11_hasTooManyPartsFor cX11_hasTooManyPartsFor 2 (some .boolean) ∈ zT := zTm (zt_4 (List.mem_of_getElem? (i := 86) (by decide +kernel))) rfl
theorem zw_907 : Cond.methodLink RX11 610 yX10_countWith ∈ zT := zTm (zt_4 (List.mem_of_getElem? (i := 87) (by decide +kernel))) rfl
theorem zw_908 : Cond.instanceMethod yX10_countWith ∈ zT := zTm (zt_4 (List.mem_of_getElem? (i := 88) (by decide +kernel))) rfl
theorem zw_909 : Cond.selects RX10 yX10_countWith yX10_countWith ∈ zT := zTm (zt_4 (List.mem_of_getElem? (i := 89) (by decide +kernel))) rfl
theorem zw_910 : Cond.code yX10_countWith cX10_countWith 4 (some .int) ∈ zT := zTm (zt_4 (List.mem_of_getElem? (i := 90) (by decide +kernel))) rfl
theorem zw_911 : Cond.methodLink RX11 318 yX11_pourInto ∈ zT := zTm (zt_4 (List.mem_of_getElem? (i := 91) (by decide +kernel))) rfl
theorem zw_913 : Cond.instanceMethod yX11_pourInto ∈ zT := zTm (zt_4 (List.mem_of_getElem? (i := 93) (by decide +kernel))) rfl
theorem zw_914 : Cond.code yX11_pourInto cX11_pourInto 2 none ∈ zT := zTm (zt_4 (List.mem_of_getElem? (i := 94) (by decide +kernel))) rfl
theorem zw_915 : Cond.methodLink RX11 614 yX2_carryOut ∈ zT := zTm (zt_4 (List.mem_of_getElem? (i := 95) (by decide +kernel))) rfl
theorem zw_916 : Cond.instanceMethod yX2_carryOut ∈ zT := zTm (zt_4 (List.mem_of_getElem? (i := 96) (by decide +kernel))) rfl
theorem zw_917 : Cond.selects RX2 yX2_carryOut yX2_carryOut ∈ zT := zTm (zt_4 (List.mem_of_getElem? (i := 97) (by decide +kernel))) rfl
theorem zw_918 : Cond.code yX2_carryOut cX2_carryOut 4 none ∈ zT := zTm (zt_4 (List.mem_of_getElem? (i := 98) (by decide +kernel))) rfl
theorem zw_919 : Cond.methodLink RX2 72 yX1_keepBarrel ∈ zT := zTm (zt_4 (List.mem_of_getElem? (i := 99) (by decide +kernel))) rfl
theorem zw_920 : Cond.methodLink RX2 78 yX2_takeOut ∈ zT := zTm (zt_4 (List.mem_of_getElem? (i := 100) (by decide +kernel))) rfl
theorem zw_921 : Cond.instanceMethod yX2_takeOut ∈ zT := zTm (zt_4 (List.mem_of_getElem? (i := 101) (by decide +kernel))) rfl
theorem zw_922 : Cond.selects RX2 yX2_takeOut yX2_takeOut ∈ zT := zTm (zt_4 (List.mem_of_getElem? (i := 102) (by decide +kernel))) rfl
theorem zw_923 : Cond.code yX2_takeOut cX2_takeOut 5 none ∈ zT := zTm (zt_4 (List.mem_of_getElem? (i := 103) (by decide +kernel))) rfl
theorem zw_924 : Cond.methodLink RX2 82 yX10_lessen ∈ zT := zTm (zt_4 (List.mem_of_getElem? (i := 104) (by decide +kernel))) rfl
theorem zw_925 : Cond.instanceMethod yX10_lessen ∈ zT := zTm (zt_4 (List.mem_of_getElem? (i := 105) (by decide +kernel))) rfl
theorem zw_926 : Cond.selects RX10 yX10_lessen yX10_lessen ∈ zT := zTm (zt_4 (List.mem_of_getElem? (i := 106) (by decide +kernel))) rfl
theorem zw_927 : Cond.code yX10_lessen cX10_lessen 6 none ∈ zT := zTm (zt_4 (List.mem_of_getElem? (i := 107) (by decide +kernel))) rfl
theorem zw_928 : Cond.constantLong RX11 321 (2) ∈ zT := zTm (zt_4 (List.mem_of_getElem? (i := 108) (by decide +kernel))) rfl
theorem zw_932 : Cond.code yX11_topUp cX11_topUp 3 (some .long) ∈ zT := zTm (zt_4 (List.mem_of_getElem? (i := 112) (by decide +kernel))) rfl
theorem zw_933 : Cond.methodLink RX11 323 yX11_topUpVessel ∈ zT := zTm (zt_4 (List.mem_of_getElem? (i := 113) (by decide +kernel))) rfl
theorem zw_935 : Cond.instanceMethod yX11_topUpVessel ∈ zT := zTm (zt_4 (List.mem_of_getElem? (i := 115) (by decide +kernel))) rfl
theorem zw_936 : Cond.code yX11_topUpVessel cX11_topUpVessel 12 (some .long) ∈ zT := zTm (zt_4 (List.mem_of_getElem? (i := 116) (by decide +kernel))) rfl
theorem zw_937 : Cond.methodLink RX11 326 yJ9_min_f86c9 ∈ zT := zTm (zt_4 (List.mem_of_getElem? (i := 117) (by decide +kernel))) rfl
theorem zw_938 : Cond.constantLong RX11 332 (3) ∈ zT := zTm (zt_4 (List.mem_of_getElem? (i := 118) (by decide +kernel))) rfl
theorem zw_942 : Cond.code yX11_pick cX11_pick 4 (some .long) ∈ zT := zTm (zt_4 (List.mem_of_getElem? (i := 122) (by decide +kernel))) rfl
theorem zw_943 : Cond.methodLink RX11 334 yX11_pickBarrel ∈ zT := zTm (zt_4 (List.mem_of_getElem? (i := 123) (by decide +kernel))) rfl
theorem zw_945 : Cond.instanceMethod yX11_pickBarrel ∈ zT := zTm (zt_4 (List.mem_of_getElem? (i := 125) (by decide +kernel))) rfl
theorem zw_946 : Cond.code yX11_pickBarrel cX11_pickBarrel 5 (some .long) ∈ zT := zTm (zt_4 (List.mem_of_getElem? (i := 126) (by decide +kernel))) rfl
theorem zw_947 : Cond.methodLink RX11 338 yX5_has ∈ zT := zTm (zt_4 (List.mem_of_getElem? (i := 127) (by decide +kernel))) rfl
theorem zw_948 : Cond.instanceMethod yX5_has ∈ zT := zTm (zt_4 (List.mem_of_getElem? (i := 128) (by decide +kernel))) rfl
theorem zw_949 : Cond.selects RX5 yX5_has yX5_has ∈ zT := zTm (zt_4 (List.mem_of_getElem? (i := 129) (by decide +kernel))) rfl
theorem zw_950 : Cond.code yX5_has cX5_has 3 (some .boolean) ∈ zT := zTm (zt_4 (List.mem_of_getElem? (i := 130) (by decide +kernel))) rfl
theorem zw_951 : Cond.constantLong RX11 341 (-13) ∈ zT := zTm (zt_4 (List.mem_of_getElem? (i := 131) (by decide +kernel))) rfl
theorem zw_952 : Cond.methodLink RX11 344 yX5_add ∈ zT := zTm (zt_4 (List.mem_of_getElem? (i := 132) (by decide +kernel))) rfl
theorem zw_953 : Cond.instanceMethod yX5_add ∈ zT := zTm (zt_4 (List.mem_of_getElem? (i := 133) (by decide +kernel))) rfl
theorem zw_954 : Cond.selects RX5 yX5_add yX5_add ∈ zT := zTm (zt_4 (List.mem_of_getElem? (i := 134) (by decide +kernel))) rfl
theorem zw_955 : Cond.code yX5_add cX5_add 4 none ∈ zT := zTm (zt_4 (List.mem_of_getElem? (i := 135) (by decide +kernel))) rfl
theorem zw_959 : Cond.code yX11_forget cX11_forget 2 (some .long) ∈ zT := zTm (zt_4 (List.mem_of_getElem? (i := 139) (by decide +kernel))) rfl
theorem zw_960 : Cond.methodLink RX11 347 yX5_clear ∈ zT := zTm (zt_4 (List.mem_of_getElem? (i := 140) (by decide +kernel))) rfl
theorem zw_961 : Cond.instanceMethod yX5_clear ∈ zT := zTm (zt_4 (List.mem_of_getElem? (i := 141) (by decide +kernel))) rfl
theorem zw_962 : Cond.selects RX5 yX5_clear yX5_clear ∈ zT := zTm (zt_4 (List.mem_of_getElem? (i := 142) (by decide +kernel))) rfl
theorem zw_963 : Cond.code yX5_clear cX5_clear 1 none ∈ zT := zTm (zt_4 (List.mem_of_getElem? (i := 143) (by decide +kernel))) rfl
theorem zw_967 : Cond.code yX11_blend cX11_blend 2 (some .long) ∈ zT := zTm (zt_4 (List.mem_of_getElem? (i := 147) (by decide +kernel))) rfl
theorem zw_968 : Cond.methodLink RX11 348 yX11_blendInto ∈ zT := zTm (zt_4 (List.mem_of_getElem? (i := 148) (by decide +kernel))) rfl
theorem zw_970 : Cond.instanceMethod yX11_blendInto ∈ zT := zTm (zt_4 (List.mem_of_getElem? (i := 150) (by decide +kernel))) rfl
theorem zw_971 : Cond.code yX11_blendInto cX11_blendInto 7 (some .long) ∈ zT := zTm (zt_4 (List.mem_of_getElem? (i := 151) (by decide +kernel))) rfl
theorem zw_972 : Cond.methodLink RX11 354 yX5_anyInCask ∈ zT := zTm (zt_4 (List.mem_of_getElem? (i := 152) (by decide +kernel))) rfl
theorem zw_973 : Cond.instanceMethod yX5_anyInCask ∈ zT := zTm (zt_4 (List.mem_of_getElem? (i := 153) (by decide +kernel))) rfl
theorem zw_974 : Cond.selects RX5 yX5_anyInCask yX5_anyInCask ∈ zT := zTm (zt_4 (List.mem_of_getElem? (i := 154) (by decide +kernel))) rfl
theorem zw_975 : Cond.code yX5_anyInCask cX5_anyInCask 2 (some .boolean) ∈ zT := zTm (zt_4 (List.mem_of_getElem? (i := 155) (by decide +kernel))) rfl
theorem zw_976 : Cond.methodLink RX5 28 yX0_inCask ∈ zT := zTm (zt_4 (List.mem_of_getElem? (i := 156) (by decide +kernel))) rfl
theorem zw_977 : Cond.methodLink RX11 357 yX5_allSpared ∈ zT := zTm (zt_4 (List.mem_of_getElem? (i := 157) (by decide +kernel))) rfl
theorem zw_978 : Cond.instanceMethod yX5_allSpared ∈ zT := zTm (zt_4 (List.mem_of_getElem? (i := 158) (by decide +kernel))) rfl
theorem zw_979 : Cond.selects RX5 yX5_allSpared yX5_allSpared ∈ zT := zTm (zt_4 (List.mem_of_getElem? (i := 159) (by decide +kernel))) rfl
theorem zw_980 : Cond.code yX5_allSpared cX5_allSpared 3 (some .boolean) ∈ zT := zTm (zt_4 (List.mem_of_getElem? (i := 160) (by decide +kernel))) rfl
theorem zw_981 : Cond.methodLink RX5 32 yX0_maySpare ∈ zT := zTm (zt_4 (List.mem_of_getElem? (i := 161) (by decide +kernel))) rfl
theorem zw_982 : Cond.methodLink RX11 361 yX5_sum ∈ zT := zTm (zt_4 (List.mem_of_getElem? (i := 162) (by decide +kernel))) rfl
theorem zw_983 : Cond.instanceMethod yX5_sum ∈ zT := zTm (zt_4 (List.mem_of_getElem? (i := 163) (by decide +kernel))) rfl
theorem zw_984 : Cond.selects RX5 yX5_sum yX5_sum ∈ zT := zTm (zt_4 (List.mem_of_getElem? (i := 164) (by decide +kernel))) rfl
theorem zw_985 : Cond.code yX5_sum cX5_sum 4 (some .long) ∈ zT := zTm (zt_4 (List.mem_of_getElem? (i := 165) (by decide +kernel))) rfl
theorem zw_986 : Cond.methodLink RX11 365 yX11_drawPicked ∈ zT := zTm (zt_4 (List.mem_of_getElem? (i := 166) (by decide +kernel))) rfl
theorem zw_988 : Cond.instanceMethod yX11_drawPicked ∈ zT := zTm (zt_4 (List.mem_of_getElem? (i := 168) (by decide +kernel))) rfl
theorem zw_989 : Cond.code yX11_drawPicked cX11_drawPicked 2 none ∈ zT := zTm (zt_4 (List.mem_of_getElem? (i := 169) (by decide +kernel))) rfl
theorem zw_990 : Cond.constantLong RX11 368 (4) ∈ zT := zTm (zt_4 (List.mem_of_getElem? (i := 170) (by decide +kernel))) rfl
theorem zw_994 : Cond.code yX11_breathe cX11_breathe 2 (some .long) ∈ zT := zTm (zt_4 (List.mem_of_getElem? (i := 174) (by decide +kernel))) rfl
theorem zw_995 : Cond.methodLink RX11 376 yX11_letMonthsGoBy ∈ zT := zTm (zt_4 (List.mem_of_getElem? (i := 175) (by decide +kernel))) rfl
theorem zw_997 : Cond.instanceMethod yX11_letMonthsGoBy ∈ zT := zTm (zt_4 (List.mem_of_getElem? (i := 177) (by decide +kernel))) rfl
theorem zw_998 : Cond.code yX11_letMonthsGoBy cX11_letMonthsGoBy 8 (some .long) ∈ zT := zTm (zt_4 (List.mem_of_getElem? (i := 178) (by decide +kernel))) rfl
theorem zw_999 : Cond.methodLink RX11 379 yX0_breathes ∈ zT := zTm (zt_4 (List.mem_of_getElem? (i := 179) (by decide +kernel))) rfl
theorem zw_1000 : Cond.instanceMethod yX0_breathes ∈ zT := zTm (zt_4 (List.mem_of_getElem? (i := 180) (by decide +kernel))) rfl
theorem zw_1001 : Cond.selects RX0 yX0_breathes yX0_breathes ∈ zT := zTm (zt_4 (List.mem_of_getElem? (i := 181) (by decide +kernel))) rfl
theorem zw_1002 : Cond.code yX0_breathes cX0_breathes 2 (some .long) ∈ zT := zTm (zt_4 (List.mem_of_getElem? (i := 182) (by decide +kernel))) rfl
theorem zw_1003 : Cond.methodLink RX0 97 yX0_oakBreathes ∈ zT := zTm (zt_4 (List.mem_of_getElem? (i := 183) (by decide +kernel))) rfl
theorem zw_1004 : Cond.static yX0_oakBreathes ∈ zT := zTm (zt_4 (List.mem_of_getElem? (i := 184) (by decide +kernel))) rfl
theorem zw_1005 : Cond.code yX0_oakBreathes cX0_oakBreathes 1 (some .long) ∈ zT := zTm (zt_4 (List.mem_of_getElem? (i := 185) (by decide +kernel))) rfl
theorem zw_1006 : Cond.constantLong RX0 102 (20) ∈ zT := zTm (zt_4 (List.mem_of_getElem? (i := 186) (by decide +kernel))) rfl
theorem zw_1007 : Cond.constantLong RX0 100 (15) ∈ zT := zTm (zt_4 (List.mem_of_getElem? (i := 187) (by decide +kernel))) rfl
theorem zw_1008 : Cond.methodLink RX11 382 yX11_breatheAway ∈ zT := zTm (zt_4 (List.mem_of_getElem? (i := 188) (by decide +kernel))) rfl
theorem zw_1010 : Cond.instanceMethod yX11_breatheAway ∈ zT := zTm (zt_4 (List.mem_of_getElem? (i := 190) (by decide +kernel))) rfl
theorem zw_1011 : Cond.code yX11_breatheAway cX11_breatheAway 10 (some .long) ∈ zT := zTm (zt_4 (List.mem_of_getElem? (i := 191) (by decide +kernel))) rfl
theorem zw_1012 : Cond.constantLong RX11 388 (10000) ∈ zT := zTm (zt_4 (List.mem_of_getElem? (i := 192) (by decide +kernel))) rfl
theorem zw_1013 : Cond.methodLink RX11 390 yX2_takeOut ∈ zT := zTm (zt_4 (List.mem_of_getElem? (i := 193) (by decide +kernel))) rfl
theorem zw_1014 : Cond.constantLong RX11 386 (5) ∈ zT := zTm (zt_4 (List.mem_of_getElem? (i := 194) (by decide +kernel))) rfl
theorem zw_1018 : Cond.code yX11_bottle cX11_bottle 5 (some .long) ∈ zT := zTm (zt_4 (List.mem_of_getElem? (i := 198) (by decide +kernel))) rfl
theorem zw_1019 : Cond.methodLink RX11 394 yX11_fillBottles ∈ zT := zTm (zt_4 (List.mem_of_getElem? (i := 199) (by decide +kernel))) rfl
theorem zw_1021 : Cond.instanceMethod yX11_fillBottles ∈ zT := zTm (zt_4 (List.mem_of_getElem? (i := 201) (by decide +kernel))) rfl
theorem zw_1022 : Cond.code yX11_fillBottles cX11_fillBottles 9 (some .long) ∈ zT := zTm (zt_4 (List.mem_of_getElem? (i := 202) (by decide +kernel))) rfl
theorem zw_1023 : Cond.constantLong RX11 398 (-5) ∈ zT := zTm (zt_4 (List.mem_of_getElem? (i := 203) (by decide +kernel))) rfl
theorem zw_1024 : Cond.methodLink RX11 400 yX11_drawOff ∈ zT := zTm (zt_4 (List.mem_of_getElem? (i := 204) (by decide +kernel))) rfl
theorem zw_1026 : Cond.instanceMethod yX11_drawOff ∈ zT := zTm (zt_4 (List.mem_of_getElem? (i := 206) (by decide +kernel))) rfl
theorem zw_1027 : Cond.code yX11_drawOff cX11_drawOff 5 none ∈ zT := zTm (zt_4 (List.mem_of_getElem? (i := 207) (by decide +kernel))) rfl
theorem zw_1028 : Cond.constantLong RX11 404 (6) ∈ zT := zTm (zt_4 (List.mem_of_getElem? (i := 208) (by decide +kernel))) rfl
theorem zw_1032 : Cond.code yX11_drain cX11_drain 5 (some .long) ∈ zT := zTm (zt_4 (List.mem_of_getElem? (i := 212) (by decide +kernel))) rfl
theorem zw_1033 : Cond.methodLink RX11 406 yX11_drainVessel ∈ zT := zTm (zt_4 (List.mem_of_getElem? (i := 213) (by decide +kernel))) rfl
theorem zw_1035 : Cond.instanceMethod yX11_drainVessel ∈ zT := zTm (zt_4 (List.mem_of_getElem? (i := 215) (by decide +kernel))) rfl
theorem zw_1036 : Cond.code yX11_drainVessel cX11_drainVessel 7 (some .long) ∈ zT := zTm (zt_4 (List.mem_of_getElem? (i := 216) (by decide +kernel))) rfl
theorem zw_1037 : Cond.constantLong RX11 410 (7) ∈ zT := zTm (zt_4 (List.mem_of_getElem? (i := 217) (by decide +kernel))) rfl
theorem zw_1038 : Cond.constantLong RX11 412 (8) ∈ zT := zTm (zt_4 (List.mem_of_getElem? (i := 218) (by decide +kernel))) rfl
theorem zw_1042 : Cond.code yX11_wash cX11_wash 2 (some .long) ∈ zT := zTm (zt_4 (List.mem_of_getElem? (i := 222) (by decide +kernel))) rfl
theorem zw_1043 : Cond.methodLink RX11 414 yX11_washVessel ∈ zT := zTm (zt_4 (List.mem_of_getElem? (i := 223) (by decide +kernel))) rfl
theorem zw_1045 : Cond.instanceMethod yX11_washVessel ∈ zT := zTm (zt_4 (List.mem_of_getElem? (i := 225) (by decide +kernel))) rfl
theorem zw_1046 : Cond.code yX11_washVessel cX11_washVessel 6 (some .long) ∈ zT := zTm (zt_4 (List.mem_of_getElem? (i := 226) (by decide +kernel))) rfl
theorem zw_1047 : Cond.constantLong RX11 417 (9) ∈ zT := zTm (zt_4 (List.mem_of_getElem? (i := 227) (by decide +kernel))) rfl
theorem zw_1051 : Cond.code yX11_partAt cX11_partAt 4 (some .long) ∈ zT := zTm (zt_4 (List.mem_of_getElem? (i := 231) (by decide +kernel))) rfl
theorem zw_1052 : Cond.methodLink RX11 419 yX11_lookUpPart ∈ zT := zTm (zt_4 (List.mem_of_getElem? (i := 232) (by decide +kernel))) rfl
theorem zw_1054 : Cond.instanceMethod yX11_lookUpPart ∈ zT := zTm (zt_4 (List.mem_of_getElem? (i := 234) (by decide +kernel))) rfl
theorem zw_1055 : Cond.code yX11_lookUpPart cX11_lookUpPart 5 (some .int) ∈ zT := zTm (zt_4 (List.mem_of_getElem? (i := 235) (by decide +kernel))) rfl
theorem zw_1059 : Cond.code yX11_amountAt cX11_amountAt 4 (some .long) ∈ zT := zTm (zt_4 (List.mem_of_getElem? (i := 239) (by decide +kernel))) rfl
theorem zw_1063 : Cond.code yX11_room cX11_room 3 (some .long) ∈ zT := zTm (zt_5 (List.mem_of_getElem? (i := 3) (by decide +kernel))) rfl
theorem zw_1064 : Cond.methodLink RX11 426 yX11_roomOf ∈ zT := zTm (zt_5 (List.mem_of_getElem? (i := 4) (by decide +kernel))) rfl
theorem zw_1066 : Cond.instanceMethod yX11_roomOf ∈ zT := zTm (zt_5 (List.mem_of_getElem? (i := 6) (by decide +kernel))) rfl
theorem zw_1067 : Cond.code yX11_roomOf cX11_roomOf 2 (some .long) ∈ zT := zTm (zt_5 (List.mem_of_getElem? (i := 7) (by decide +kernel))) rfl
theorem zw_1068 : Cond.methodLink RX11 430 yX0_has ∈ zT := zTm (zt_5 (List.mem_of_getElem? (i := 8) (by decide +kernel))) rfl
theorem zw_1069 : Cond.instanceMethod yX0_has ∈ zT := zTm (zt_5 (List.mem_of_getElem? (i := 9) (by decide +kernel))) rfl
theorem zw_1070 : Cond.selects RX0 yX0_has yX0_has ∈ zT := zTm (zt_5 (List.mem_of_getElem? (i := 10) (by decide +kernel))) rfl
theorem zw_1071 : Cond.code yX0_has cX0_has 4 (some .long) ∈ zT := zTm (zt_5 (List.mem_of_getElem? (i := 11) (by decide +kernel))) rfl
theorem zw_1075 : Cond.code yX11_label cX11_label 1 (some .long) ∈ zT := zTm (zt_5 (List.mem_of_getElem? (i := 15) (by decide +kernel))) rfl
theorem zw_1076 : Cond.methodLink RX11 432 yX11_makeLabel ∈ zT := zTm (zt_5 (List.mem_of_getElem? (i := 16) (by decide +kernel))) rfl
theorem zw_1078 : Cond.instanceMethod yX11_makeLabel ∈ zT := zTm (zt_5 (List.mem_of_getElem? (i := 18) (by decide +kernel))) rfl
theorem zw_1079 : Cond.code yX11_makeLabel cX11_makeLabel 2 (some .long) ∈ zT := zTm (zt_5 (List.mem_of_getElem? (i := 19) (by decide +kernel))) rfl
theorem zw_1080 : Cond.classLink RX11 435 RX3 ∈ zT := zTm (zt_5 (List.mem_of_getElem? (i := 20) (by decide +kernel))) rfl
theorem zw_1081 : Cond.instantiable RX3 8 ∈ zT := zTm (zt_5 (List.mem_of_getElem? (i := 21) (by decide +kernel))) rfl
theorem zw_1082 : Cond.methodLinkNest RX11 437 yX3_init "BlendCellar" ∈ zT := zTm (zt_5 (List.mem_of_getElem? (i := 22) (by decide +kernel))) rfl
theorem zw_1083 : Cond.instanceMethod yX3_init ∈ zT := zTm (zt_5 (List.mem_of_getElem? (i := 23) (by decide +kernel))) rfl
theorem zw_1084 : Cond.code yX3_init cX3_init 1 none ∈ zT := zTm (zt_5 (List.mem_of_getElem? (i := 24) (by decide +kernel))) rfl
theorem zw_1085 : Cond.methodLink RX3 3 objectInit ∈ zT := zTm (zt_5 (List.mem_of_getElem? (i := 25) (by decide +kernel))) rfl
theorem zw_1086 : Cond.fieldLink RX3 9 "BlendCellar$Label" "ops" "[I" ∈ zT := zTm (zt_5 (List.mem_of_getElem? (i := 26) (by decide +kernel))) rfl
theorem zw_1087 : Cond.fieldLink RX3 15 "BlendCellar$Label" "dims" "[I" ∈ zT := zTm (zt_5 (List.mem_of_getElem? (i := 27) (by decide +kernel))) rfl
theorem zw_1088 : Cond.fieldLink RX3 18 "BlendCellar$Label" "values" "[I" ∈ zT := zTm (zt_5 (List.mem_of_getElem? (i := 28) (by decide +kernel))) rfl
theorem zw_1089 : Cond.fieldLink RX3 21 "BlendCellar$Label" "hundredths" "[I" ∈ zT := zTm (zt_5 (List.mem_of_getElem? (i := 29) (by decide +kernel))) rfl
theorem zw_1090 : Cond.fieldLink RX3 24 "BlendCellar$Label" "leafCount" "I" ∈ zT := zTm (zt_5 (List.mem_of_getElem? (i := 30) (by decide +kernel))) rfl
theorem zw_1091 : Cond.fieldLink RX3 28 "BlendCellar$Label" "firstLeaves" "[I" ∈ zT := zTm (zt_5 (List.mem_of_getElem? (i := 31) (by decide +kernel))) rfl
theorem zw_1092 : Cond.fieldLink RX3 31 "BlendCellar$Label" "ruleCount" "I" ∈ zT := zTm (zt_5 (List.mem_of_getElem? (i := 32) (by decide +kernel))) rfl
theorem zw_1093 : Cond.fieldLink RX11 455 "BlendCellar$Label" "ruleCount" "I" ∈ zT := zTm (zt_5 (List.mem_of_getElem? (i := 33) (by decide +kernel))) rfl
theorem zw_1094 : Cond.fieldLink RX3 34 "BlendCellar$Label" "made" "I" ∈ zT := zTm (zt_5 (List.mem_of_getElem? (i := 34) (by decide +kernel))) rfl
theorem zw_1095 : Cond.fieldLink RX11 449 "BlendCellar$Label" "made" "I" ∈ zT := zTm (zt_5 (List.mem_of_getElem? (i := 35) (by decide +kernel))) rfl
theorem zw_1116 : Cond.code yX11_rule cX11_rule 6 (some .long) ∈ zT := zTm (zt_5 (List.mem_of_getElem? (i := 56) (by decide +kernel))) rfl
theorem zw_1117 : Cond.methodLink RX11 438 yX11_makeRule ∈ zT := zTm (zt_5 (List.mem_of_getElem? (i := 57) (by decide +kernel))) rfl
theorem zw_1119 : Cond.instanceMethod yX11_makeRule ∈ zT := zTm (zt_5 (List.mem_of_getElem? (i := 59) (by decide +kernel))) rfl
theorem zw_1120 : Cond.code yX11_makeRule cX11_makeRule 8 (some .long) ∈ zT := zTm (zt_5 (List.mem_of_getElem? (i := 60) (by decide +kernel))) rfl
theorem zw_1121 : Cond.methodLink RX11 442 yX11_isRuleOver ∈ zT := zTm (zt_5 (List.mem_of_getElem? (i := 61) (by decide +kernel))) rfl
theorem zw_1122 : Cond.static yX11_isRuleOver ∈ zT := zTm (zt_5 (List.mem_of_getElem? (i := 62) (by decide +kernel))) rfl
theorem zw_1123 : Cond.code yX11_isRuleOver cX11_isRuleOver 3 (some .boolean) ∈ zT := zTm (zt_5 (List.mem_of_getElem? (i := 63) (by decide +kernel))) rfl
theorem zw_1124 : Cond.methodLink RX11 446 yX11_lookUpLabel ∈ zT := zTm (zt_5 (List.mem_of_getElem? (i := 64) (by decide +kernel))) rfl
theorem zw_1126 : Cond.instanceMethod yX11_lookUpLabel ∈ zT := zTm (zt_5 (List.mem_of_getElem? (i := 66) (by decide +kernel))) rfl
theorem zw_1127 : Cond.code yX11_lookUpLabel cX11_lookUpLabel 2 (some .int) ∈ zT := zTm (zt_5 (List.mem_of_getElem? (i := 67) (by decide +kernel))) rfl
theorem zw_1128 : Cond.methodLink RX11 452 yX3_addRule ∈ zT := zTm (zt_5 (List.mem_of_getElem? (i := 68) (by decide +kernel))) rfl
theorem zw_1129 : Cond.instanceMethod yX3_addRule ∈ zT := zTm (zt_5 (List.mem_of_getElem? (i := 69) (by decide +kernel))) rfl
theorem zw_1130 : Cond.selects RX3 yX3_addRule yX3_addRule ∈ zT := zTm (zt_5 (List.mem_of_getElem? (i := 70) (by decide +kernel))) rfl
theorem zw_1131 : Cond.code yX3_addRule cX3_addRule 5 none ∈ zT := zTm (zt_5 (List.mem_of_getElem? (i := 71) (by decide +kernel))) rfl
theorem zw_1132 : Cond.methodLink RX11 458 yX3_uniteLastTwo ∈ zT := zTm (zt_5 (List.mem_of_getElem? (i := 72) (by decide +kernel))) rfl
theorem zw_1133 : Cond.instanceMethod yX3_uniteLastTwo ∈ zT := zTm (zt_5 (List.mem_of_getElem? (i := 73) (by decide +kernel))) rfl
theorem zw_1134 : Cond.selects RX3 yX3_uniteLastTwo yX3_uniteLastTwo ∈ zT := zTm (zt_5 (List.mem_of_getElem? (i := 74) (by decide +kernel))) rfl
theorem zw_1135 : Cond.code yX3_uniteLastTwo cX3_uniteLastTwo 1 none ∈ zT := zTm (zt_5 (List.mem_of_getElem? (i := 75) (by decide +kernel))) rfl
theorem zw_1139 : Cond.code yX11_judge cX11_judge 3 (some .long) ∈ zT := zTm (zt_5 (List.mem_of_getElem? (i := 79) (by decide +kernel))) rfl
theorem zw_1140 : Cond.methodLink RX11 461 yX11_judgeBarrel ∈ zT := zTm (zt_5 (List.mem_of_getElem? (i := 80) (by decide +kernel))) rfl
theorem zw_1142 : Cond.instanceMethod yX11_judgeBarrel ∈ zT := zTm (zt_5 (List.mem_of_getElem? (i := 82) (by decide +kernel))) rfl
theorem zw_1143 : Cond.code yX11_judgeBarrel cX11_judgeBarrel 5 (some .long) ∈ zT := zTm (zt_5 (List.mem_of_getElem? (i := 83) (by decide +kernel))) rfl
theorem zw_1144 : Cond.methodLink RX11 464 yX8_countAlone ∈ zT := zTm (zt_5 (List.mem_of_getElem? (i := 84) (by decide +kernel))) rfl
theorem zw_1145 : Cond.instanceMethod yX8_countAlone ∈ zT := zTm (zt_5 (List.mem_of_getElem? (i := 85) (by decide +kernel))) rfl
theorem zw_1146 : Cond.selects RX8 yX8_countAlone yX8_countAlone ∈ zT := zTm (zt_5 (List.mem_of_getElem? (i := 86) (by decide +kernel))) rfl
theorem zw_1147 : Cond.code yX8_countAlone cX8_countAlone 3 none ∈ zT := zTm (zt_5 (List.mem_of_getElem? (i := 87) (by decide +kernel))) rfl
theorem zw_1148 : Cond.methodLink RX8 36 yX0_has ∈ zT := zTm (zt_5 (List.mem_of_getElem? (i := 88) (by decide +kernel))) rfl
theorem zw_1149 : Cond.methodLink RX8 42 yX8_begin ∈ zT := zTm (zt_5 (List.mem_of_getElem? (i := 89) (by decide +kernel))) rfl
theorem zw_1150 : Cond.instanceMethod yX8_begin ∈ zT := zTm (zt_5 (List.mem_of_getElem? (i := 90) (by decide +kernel))) rfl
theorem zw_1151 : Cond.selects RX8 yX8_begin yX8_begin ∈ zT := zTm (zt_5 (List.mem_of_getElem? (i := 91) (by decide +kernel))) rfl
theorem zw_1152 : Cond.code yX8_begin cX8_begin 4 none ∈ zT := zTm (zt_5 (List.mem_of_getElem? (i := 92) (by decide +kernel))) rfl
theorem zw_1153 : Cond.methodLink RX8 33 yJ9_min_7cf53 ∈ zT := zTm (zt_5 (List.mem_of_getElem? (i := 93) (by decide +kernel))) rfl
theorem zw_1154 : Cond.methodLink RX8 46 yX8_choose ∈ zT := zTm (zt_5 (List.mem_of_getElem? (i := 94) (by decide +kernel))) rfl
theorem zw_1155 : Cond.instanceMethod yX8_choose ∈ zT := zTm (zt_5 (List.mem_of_getElem? (i := 95) (by decide +kernel))) rfl
theorem zw_1156 : Cond.selects RX8 yX8_choose yX8_choose ∈ zT := zTm (zt_5 (List.mem_of_getElem? (i := 96) (by decide +kernel))) rfl
theorem zw_1157 : Cond.code yX8_choose cX8_choose 3 none ∈ zT := zTm (zt_5 (List.mem_of_getElem? (i := 97) (by decide +kernel))) rfl
theorem zw_1158 : Cond.methodLink RX8 50 yX8_clearSlot ∈ zT := zTm (zt_5 (List.mem_of_getElem? (i := 98) (by decide +kernel))) rfl
theorem zw_1159 : Cond.instanceMethod yX8_clearSlot ∈ zT := zTm (zt_5 (List.mem_of_getElem? (i := 99) (by decide +kernel))) rfl
theorem zw_1160 : Cond.selects RX8 yX8_clearSlot yX8_clearSlot ∈ zT := zTm (zt_5 (List.mem_of_getElem? (i := 100) (by decide +kernel))) rfl
theorem zw_1161 : Cond.code yX8_clearSlot cX8_clearSlot 3 none ∈ zT := zTm (zt_5 (List.mem_of_getElem? (i := 101) (by decide +kernel))) rfl
theorem zw_1162 : Cond.methodLink RX8 58 yX8_addToSlot ∈ zT := zTm (zt_5 (List.mem_of_getElem? (i := 102) (by decide +kernel))) rfl
theorem zw_1163 : Cond.instanceMethod yX8_addToSlot ∈ zT := zTm (zt_5 (List.mem_of_getElem? (i := 103) (by decide +kernel))) rfl
theorem zw_1164 : Cond.selects RX8 yX8_addToSlot yX8_addToSlot ∈ zT := zTm (zt_5 (List.mem_of_getElem? (i := 104) (by decide +kernel))) rfl
theorem zw_1165 : Cond.code yX8_addToSlot cX8_addToSlot 6 none ∈ zT := zTm (zt_5 (List.mem_of_getElem? (i := 105) (by decide +kernel))) rfl
theorem zw_1166 : Cond.methodLink RX11 467 yX3_firstBroken ∈ zT := zTm (zt_5 (List.mem_of_getElem? (i := 106) (by decide +kernel))) rfl
theorem zw_1167 : Cond.instanceMethod yX3_firstBroken ∈ zT := zTm (zt_5 (List.mem_of_getElem? (i := 107) (by decide +kernel))) rfl
theorem zw_1168 : Cond.selects RX3 yX3_firstBroken yX3_firstBroken ∈ zT := zTm (zt_5 (List.mem_of_getElem? (i := 108) (by decide +kernel))) rfl
theorem zw_1169 : Cond.code yX3_firstBroken cX3_firstBroken 3 (some .int) ∈ zT := zTm (zt_5 (List.mem_of_getElem? (i := 109) (by decide +kernel))) rfl
theorem zw_1170 : Cond.methodLink RX3 37 yX3_answerOf ∈ zT := zTm (zt_5 (List.mem_of_getElem? (i := 110) (by decide +kernel))) rfl
theorem zw_1171 : Cond.instanceMethod yX3_answerOf ∈ zT := zTm (zt_5 (List.mem_of_getElem? (i := 111) (by decide +kernel))) rfl
theorem zw_1172 : Cond.selects RX3 yX3_answerOf yX3_answerOf ∈ zT := zTm (zt_5 (List.mem_of_getElem? (i := 112) (by decide +kernel))) rfl
theorem zw_1173 : Cond.code yX3_answerOf cX3_answerOf 6 (some .int) ∈ zT := zTm (zt_5 (List.mem_of_getElem? (i := 113) (by decide +kernel))) rfl
theorem zw_1174 : Cond.methodLink RX3 41 yX3_answerOfLeaf ∈ zT := zTm (zt_5 (List.mem_of_getElem? (i := 114) (by decide +kernel))) rfl
theorem zw_1176 : Cond.instanceMethod yX3_answerOfLeaf ∈ zT := zTm (zt_5 (List.mem_of_getElem? (i := 116) (by decide +kernel))) rfl
theorem zw_1177 : Cond.code yX3_answerOfLeaf cX3_answerOfLeaf 7 (some .int) ∈ zT := zTm (zt_5 (List.mem_of_getElem? (i := 117) (by decide +kernel))) rfl
theorem zw_1178 : Cond.methodLink RX3 44 yX8_having ∈ zT := zTm (zt_5 (List.mem_of_getElem? (i := 118) (by decide +kernel))) rfl
theorem zw_1179 : Cond.instanceMethod yX8_having ∈ zT := zTm (zt_5 (List.mem_of_getElem? (i := 119) (by decide +kernel))) rfl
theorem zw_1180 : Cond.selects RX8 yX8_having yX8_having ∈ zT := zTm (zt_5 (List.mem_of_getElem? (i := 120) (by decide +kernel))) rfl
theorem zw_1181 : Cond.code yX8_having cX8_having 7 (some .long) ∈ zT := zTm (zt_5 (List.mem_of_getElem? (i := 121) (by decide +kernel))) rfl
theorem zw_1182 : Cond.methodLink RX3 54 yX3_isSo ∈ zT := zTm (zt_5 (List.mem_of_getElem? (i := 122) (by decide +kernel))) rfl
theorem zw_1183 : Cond.static yX3_isSo ∈ zT := zTm (zt_5 (List.mem_of_getElem? (i := 123) (by decide +kernel))) rfl
theorem zw_1184 : Cond.code yX3_isSo cX3_isSo 6 (some .boolean) ∈ zT := zTm (zt_5 (List.mem_of_getElem? (i := 124) (by decide +kernel))) rfl
theorem zw_1185 : Cond.constantLong RX3 58 (100) ∈ zT := zTm (zt_5 (List.mem_of_getElem? (i := 125) (by decide +kernel))) rfl
theorem zw_1186 : Cond.methodLink RX11 471 yX3_answerOf ∈ zT := zTm (zt_5 (List.mem_of_getElem? (i := 126) (by decide +kernel))) rfl
theorem zw_1190 : Cond.code yX11_plan cX11_plan 5 (some .long) ∈ zT := zTm (zt_5 (List.mem_of_getElem? (i := 130) (by decide +kernel))) rfl
theorem zw_1191 : Cond.methodLink RX11 475 yX11_planBlend ∈ zT := zTm (zt_5 (List.mem_of_getElem? (i := 131) (by decide +kernel))) rfl
theorem zw_1193 : Cond.instanceMethod yX11_planBlend ∈ zT := zTm (zt_5 (List.mem_of_getElem? (i := 133) (by decide +kernel))) rfl
theorem zw_1194 : Cond.code yX11_planBlend cX11_planBlend 9 (some .long) ∈ zT := zTm (zt_5 (List.mem_of_getElem? (i := 134) (by decide +kernel))) rfl
theorem zw_1195 : Cond.methodLink RX11 478 yX11_checkSteps ∈ zT := zTm (zt_5 (List.mem_of_getElem? (i := 135) (by decide +kernel))) rfl
theorem zw_1196 : Cond.static yX11_checkSteps ∈ zT := zTm (zt_5 (List.mem_of_getElem? (i := 136) (by decide +kernel))) rfl
theorem zw_1197 : Cond.code yX11_checkSteps cX11_checkSteps 3 (some .int) ∈ zT := zTm (zt_5 (List.mem_of_getElem? (i := 137) (by decide +kernel))) rfl
theorem zw_1198 : Cond.constantLong RX11 502 (12) ∈ zT := zTm (zt_5 (List.mem_of_getElem? (i := 138) (by decide +kernel))) rfl
theorem zw_1199 : Cond.methodLink RX11 482 yX11_checkPicksForPlan ∈ zT := zTm (zt_5 (List.mem_of_getElem? (i := 139) (by decide +kernel))) rfl
theorem zw_1201 : Cond.instanceMethod yX11_checkPicksForPlan ∈ zT := zTm (zt_5 (List.mem_of_getElem? (i := 141) (by decide +kernel))) rfl
theorem zw_1202 : Cond.code yX11_checkPicksForPlan cX11_checkPicksForPlan 1 (some .int) ∈ zT := zTm (zt_5 (List.mem_of_getElem? (i := 142) (by decide +kernel))) rfl
theorem zw_1203 : Cond.methodLink RX11 485 yX6_begin ∈ zT := zTm (zt_5 (List.mem_of_getElem? (i := 143) (by decide +kernel))) rfl
theorem zw_1204 : Cond.instanceMethod yX6_begin ∈ zT := zTm (zt_5 (List.mem_of_getElem? (i := 144) (by decide +kernel))) rfl
theorem zw_1205 : Cond.selects RX6 yX6_begin yX6_begin ∈ zT := zTm (zt_5 (List.mem_of_getElem? (i := 145) (by decide +kernel))) rfl
theorem zw_1206 : Cond.code yX6_begin cX6_begin 5 none ∈ zT := zTm (zt_5 (List.mem_of_getElem? (i := 146) (by decide +kernel))) rfl
theorem zw_1207 : Cond.methodLink RX6 54 yJ9_min_7cf53 ∈ zT := zTm (zt_5 (List.mem_of_getElem? (i := 147) (by decide +kernel))) rfl
theorem zw_1208 : Cond.methodLink RX6 60 yJ7_fill_53178 ∈ zT := zTm (zt_5 (List.mem_of_getElem? (i := 148) (by decide +kernel))) rfl
theorem zw_1209 : Cond.methodLink RX6 66 yX8_begin ∈ zT := zTm (zt_5 (List.mem_of_getElem? (i := 149) (by decide +kernel))) rfl
theorem zw_1210 : Cond.methodLink RX11 489 yX11_askForPlan ∈ zT := zTm (zt_5 (List.mem_of_getElem? (i := 150) (by decide +kernel))) rfl
theorem zw_1212 : Cond.instanceMethod yX11_askForPlan ∈ zT := zTm (zt_5 (List.mem_of_getElem? (i := 152) (by decide +kernel))) rfl
theorem zw_1213 : Cond.code yX11_askForPlan cX11_askForPlan 9 none ∈ zT := zTm (zt_5 (List.mem_of_getElem? (i := 153) (by decide +kernel))) rfl
theorem zw_1214 : Cond.methodLink RX11 504 yX0_isDear ∈ zT := zTm (zt_5 (List.mem_of_getElem? (i := 154) (by decide +kernel))) rfl
theorem zw_1215 : Cond.instanceMethod yX0_isDear ∈ zT := zTm (zt_5 (List.mem_of_getElem? (i := 155) (by decide +kernel))) rfl
theorem zw_1216 : Cond.selects RX0 yX0_isDear yX0_isDear ∈ zT := zTm (zt_5 (List.mem_of_getElem? (i := 156) (by decide +kernel))) rfl
theorem zw_1217 : Cond.code yX0_isDear cX0_isDear 6 (some .long) ∈ zT := zTm (zt_5 (List.mem_of_getElem? (i := 157) (by decide +kernel))) rfl
theorem zw_1218 : Cond.constantLong RX0 104 (2) ∈ zT := zTm (zt_5 (List.mem_of_getElem? (i := 158) (by decide +kernel))) rfl
theorem zw_1219 : Cond.methodLink RX11 508 yX6_setDear ∈ zT := zTm (zt_5 (List.mem_of_getElem? (i := 159) (by decide +kernel))) rfl
theorem zw_1220 : Cond.instanceMethod yX6_setDear ∈ zT := zTm (zt_5 (List.mem_of_getElem? (i := 160) (by decide +kernel))) rfl
theorem zw_1221 : Cond.selects RX6 yX6_setDear yX6_setDear ∈ zT := zTm (zt_5 (List.mem_of_getElem? (i := 161) (by decide +kernel))) rfl
theorem zw_1222 : Cond.code yX6_setDear cX6_setDear 5 none ∈ zT := zTm (zt_5 (List.mem_of_getElem? (i := 162) (by decide +kernel))) rfl
theorem zw_1223 : Cond.methodLink RX6 70 yX6_slotOf ∈ zT := zTm (zt_5 (List.mem_of_getElem? (i := 163) (by decide +kernel))) rfl
theorem zw_1224 : Cond.static yX6_slotOf ∈ zT := zTm (zt_5 (List.mem_of_getElem? (i := 164) (by decide +kernel))) rfl
theorem zw_1225 : Cond.code yX6_slotOf cX6_slotOf 2 (some .int) ∈ zT := zTm (zt_5 (List.mem_of_getElem? (i := 165) (by decide +kernel))) rfl
theorem zw_1226 : Cond.methodLink RX11 515 yX6_offer ∈ zT := zTm (zt_5 (List.mem_of_getElem? (i := 166) (by decide +kernel))) rfl
theorem zw_1227 : Cond.instanceMethod yX6_offer ∈ zT := zTm (zt_5 (List.mem_of_getElem? (i := 167) (by decide +kernel))) rfl
theorem zw_1228 : Cond.selects RX6 yX6_offer yX6_offer ∈ zT := zTm (zt_5 (List.mem_of_getElem? (i := 168) (by decide +kernel))) rfl
theorem zw_1229 : Cond.code yX6_offer cX6_offer 4 none ∈ zT := zTm (zt_5 (List.mem_of_getElem? (i := 169) (by decide +kernel))) rfl
theorem zw_1230 : Cond.methodLink RX6 73 yX8_clearSlot ∈ zT := zTm (zt_5 (List.mem_of_getElem? (i := 170) (by decide +kernel))) rfl
theorem zw_1231 : Cond.methodLink RX6 76 yX8_addToSlot ∈ zT := zTm (zt_5 (List.mem_of_getElem? (i := 171) (by decide +kernel))) rfl
theorem zw_1232 : Cond.methodLink RX11 493 yX6_search ∈ zT := zTm (zt_5 (List.mem_of_getElem? (i := 172) (by decide +kernel))) rfl
theorem zw_1233 : Cond.instanceMethod yX6_search ∈ zT := zTm (zt_5 (List.mem_of_getElem? (i := 173) (by decide +kernel))) rfl
theorem zw_1234 : Cond.selects RX6 yX6_search yX6_search ∈ zT := zTm (zt_5 (List.mem_of_getElem? (i := 174) (by decide +kernel))) rfl
theorem zw_1235 : Cond.code yX6_search cX6_search 2 (some .long) ∈ zT := zTm (zt_5 (List.mem_of_getElem? (i := 175) (by decide +kernel))) rfl
theorem zw_1236 : Cond.methodLink RX6 80 yX6_chooseFrom ∈ zT := zTm (zt_5 (List.mem_of_getElem? (i := 176) (by decide +kernel))) rfl
theorem zw_1238 : Cond.instanceMethod yX6_chooseFrom ∈ zT := zTm (zt_5 (List.mem_of_getElem? (i := 178) (by decide +kernel))) rfl
theorem zw_1239 : Cond.code yX6_chooseFrom cX6_chooseFrom 8 none ∈ zT := zTm (zt_5 (List.mem_of_getElem? (i := 179) (by decide +kernel))) rfl
theorem zw_1240 : Cond.methodLink RX6 84 yX3_firstBroken ∈ zT := zTm (zt_5 (List.mem_of_getElem? (i := 180) (by decide +kernel))) rfl
theorem zw_1241 : Cond.methodLink RX6 90 arraycopyName ∈ zT := zTm (zt_5 (List.mem_of_getElem? (i := 181) (by decide +kernel))) rfl
theorem zw_1242 : Cond.methodLink RX6 96 yX8_choose ∈ zT := zTm (zt_5 (List.mem_of_getElem? (i := 182) (by decide +kernel))) rfl
theorem zw_1243 : Cond.constantLong RX11 496 (-14) ∈ zT := zTm (zt_5 (List.mem_of_getElem? (i := 183) (by decide +kernel))) rfl
theorem zw_1244 : Cond.methodLink RX11 498 yX6_settle ∈ zT := zTm (zt_5 (List.mem_of_getElem? (i := 184) (by decide +kernel))) rfl
theorem zw_1245 : Cond.instanceMethod yX6_settle ∈ zT := zTm (zt_5 (List.mem_of_getElem? (i := 185) (by decide +kernel))) rfl
theorem zw_1246 : Cond.selects RX6 yX6_settle yX6_settle ∈ zT := zTm (zt_5 (List.mem_of_getElem? (i := 186) (by decide +kernel))) rfl
theorem zw_1247 : Cond.code yX6_settle cX6_settle 4 none ∈ zT := zTm (zt_5 (List.mem_of_getElem? (i := 187) (by decide +kernel))) rfl
theorem zw_1251 : Cond.code yX11_undo cX11_undo 1 (some .long) ∈ zT := zTm (zt_5 (List.mem_of_getElem? (i := 191) (by decide +kernel))) rfl
theorem zw_1252 : Cond.methodLink RX11 519 yX11_takeBack ∈ zT := zTm (zt_5 (List.mem_of_getElem? (i := 192) (by decide +kernel))) rfl
theorem zw_1254 : Cond.instanceMethod yX11_takeBack ∈ zT := zTm (zt_5 (List.mem_of_getElem? (i := 194) (by decide +kernel))) rfl
theorem zw_1255 : Cond.code yX11_takeBack cX11_takeBack 2 (some .long) ∈ zT := zTm (zt_5 (List.mem_of_getElem? (i := 195) (by decide +kernel))) rfl
theorem zw_1256 : Cond.methodLink RX11 525 yX1_restoreBarrels ∈ zT := zTm (zt_5 (List.mem_of_getElem? (i := 196) (by decide +kernel))) rfl
theorem zw_1257 : Cond.instanceMethod yX1_restoreBarrels ∈ zT := zTm (zt_5 (List.mem_of_getElem? (i := 197) (by decide +kernel))) rfl
theorem zw_1258 : Cond.selects RX1 yX1_restoreBarrels yX1_restoreBarrels ∈ zT := zTm (zt_5 (List.mem_of_getElem? (i := 198) (by decide +kernel))) rfl
theorem zw_1259 : Cond.code yX1_restoreBarrels cX1_restoreBarrels 2 none ∈ zT := zTm (zt_5 (List.mem_of_getElem? (i := 199) (by decide +kernel))) rfl
theorem zw_1260 : Cond.methodLink RX1 74 yJx4a65c_size_8abf5 ∈ zT := zTm (zt_5 (List.mem_of_getElem? (i := 200) (by decide +kernel))) rfl
theorem zw_1261 : Cond.methodLink RX1 78 yJx4a65c_get_915e3 ∈ zT := zTm (zt_5 (List.mem_of_getElem? (i := 201) (by decide +kernel))) rfl
theorem zw_1262 : Cond.classLink RX1 58 RX0 ∈ zT := zTm (zt_5 (List.mem_of_getElem? (i := 202) (by decide +kernel))) rfl
theorem zw_1263 : Cond.methodLink RX1 82 yX0_restore ∈ zT := zTm (zt_5 (List.mem_of_getElem? (i := 203) (by decide +kernel))) rfl
theorem zw_1264 : Cond.instanceMethod yX0_restore ∈ zT := zTm (zt_5 (List.mem_of_getElem? (i := 204) (by decide +kernel))) rfl
theorem zw_1265 : Cond.selects RX0 yX0_restore yX0_restore ∈ zT := zTm (zt_5 (List.mem_of_getElem? (i := 205) (by decide +kernel))) rfl
theorem zw_1266 : Cond.code yX0_restore cX0_restore 1 none ∈ zT := zTm (zt_5 (List.mem_of_getElem? (i := 206) (by decide +kernel))) rfl
theorem zw_1267 : Cond.methodLink RX11 531 yJx4a65c_remove_915e3 ∈ zT := zTm (zt_5 (List.mem_of_getElem? (i := 207) (by decide +kernel))) rfl
theorem zw_1268 : Cond.instanceMethod yJx4a65c_remove_915e3 ∈ zT := zTm (zt_5 (List.mem_of_getElem? (i := 208) (by decide +kernel))) rfl
theorem zw_1269 : Cond.selects RJx4a65c yJx4a65c_remove_915e3 yJx4a65c_remove_915e3 ∈ zT := zTm (zt_5 (List.mem_of_getElem? (i := 209) (by decide +kernel))) rfl
theorem zw_1270 : Cond.code yJx4a65c_remove_915e3 cJx4a65c_remove_915e3 4 (some (.object "java/lang/Object")) ∈ zT := zTm (zt_5 (List.mem_of_getElem? (i := 210) (by decide +kernel))) rfl
theorem zw_1271 : Cond.methodLink RJx4a65c 144 yJx4a65c_fastRemove_b59b0 ∈ zT := zTm (zt_5 (List.mem_of_getElem? (i := 211) (by decide +kernel))) rfl
theorem zw_1273 : Cond.instanceMethod yJx4a65c_fastRemove_b59b0 ∈ zT := zTm (zt_5 (List.mem_of_getElem? (i := 213) (by decide +kernel))) rfl
theorem zw_1274 : Cond.code yJx4a65c_fastRemove_b59b0 cJx4a65c_fastRemove_b59b0 4 none ∈ zT := zTm (zt_5 (List.mem_of_getElem? (i := 214) (by decide +kernel))) rfl
theorem zw_1275 : Cond.methodLink RJx4a65c 112 arraycopyName ∈ zT := zTm (zt_5 (List.mem_of_getElem? (i := 215) (by decide +kernel))) rfl
theorem zw_1276 : Cond.methodLink RX11 538 yX11_restorePlace ∈ zT := zTm (zt_5 (List.mem_of_getElem? (i := 216) (by decide +kernel))) rfl
theorem zw_1278 : Cond.instanceMethod yX11_restorePlace ∈ zT := zTm (zt_5 (List.mem_of_getElem? (i := 218) (by decide +kernel))) rfl
theorem zw_1279 : Cond.code yX11_restorePlace cX11_restorePlace 3 none ∈ zT := zTm (zt_5 (List.mem_of_getElem? (i := 219) (by decide +kernel))) rfl
theorem zw_1280 : Cond.methodLink RX11 547 yX10_copyFrom ∈ zT := zTm (zt_5 (List.mem_of_getElem? (i := 220) (by decide +kernel))) rfl
theorem zw_1281 : Cond.methodLink RX11 555 yX4_cutTo ∈ zT := zTm (zt_5 (List.mem_of_getElem? (i := 221) (by decide +kernel))) rfl
theorem zw_1282 : Cond.instanceMethod yX4_cutTo ∈ zT := zTm (zt_5 (List.mem_of_getElem? (i := 222) (by decide +kernel))) rfl
theorem zw_1283 : Cond.selects RX4 yX4_cutTo yX4_cutTo ∈ zT := zTm (zt_5 (List.mem_of_getElem? (i := 223) (by decide +kernel))) rfl
theorem zw_1284 : Cond.code yX4_cutTo cX4_cutTo 2 none ∈ zT := zTm (zt_5 (List.mem_of_getElem? (i := 224) (by decide +kernel))) rfl
theorem zw_1285 : Cond.methodLink RX4 27 yJ9_min_7cf53 ∈ zT := zTm (zt_5 (List.mem_of_getElem? (i := 225) (by decide +kernel))) rfl
theorem zw_1289 : Cond.code yX11_kindOf cX11_kindOf 3 (some .int) ∈ zT := zTm (zt_5 (List.mem_of_getElem? (i := 229) (by decide +kernel))) rfl
theorem zw_1293 : Cond.code yX11_where cX11_where 3 (some .int) ∈ zT := zTm (zt_5 (List.mem_of_getElem? (i := 233) (by decide +kernel))) rfl
theorem zw_1297 : Cond.code yX11_at cX11_at 3 (some .int) ∈ zT := zTm (zt_5 (List.mem_of_getElem? (i := 237) (by decide +kernel))) rfl
theorem zw_1301 : Cond.code yX11_amount cX11_amount 3 (some .long) ∈ zT := zTm (zt_6 (List.mem_of_getElem? (i := 1) (by decide +kernel))) rfl
theorem zw_1305 : Cond.code yX11_part cX11_part 4 (some .long) ∈ zT := zTm (zt_6 (List.mem_of_getElem? (i := 5) (by decide +kernel))) rfl
theorem zw_1306 : Cond.methodLink RX11 564 yX0_hasOf ∈ zT := zTm (zt_6 (List.mem_of_getElem? (i := 6) (by decide +kernel))) rfl
theorem zw_1307 : Cond.instanceMethod yX0_hasOf ∈ zT := zTm (zt_6 (List.mem_of_getElem? (i := 7) (by decide +kernel))) rfl
theorem zw_1308 : Cond.selects RX0 yX0_hasOf yX0_hasOf ∈ zT := zTm (zt_6 (List.mem_of_getElem? (i := 8) (by decide +kernel))) rfl
theorem zw_1309 : Cond.code yX0_hasOf cX0_hasOf 5 (some .long) ∈ zT := zTm (zt_6 (List.mem_of_getElem? (i := 9) (by decide +kernel))) rfl
theorem zw_1310 : Cond.methodLink RX0 63 yX10_amountOf ∈ zT := zTm (zt_6 (List.mem_of_getElem? (i := 10) (by decide +kernel))) rfl
theorem zw_1314 : Cond.code yX11_parts cX11_parts 3 (some .int) ∈ zT := zTm (zt_6 (List.mem_of_getElem? (i := 14) (by decide +kernel))) rfl
theorem zw_1315 : Cond.methodLink RX11 567 yX0_countInside ∈ zT := zTm (zt_6 (List.mem_of_getElem? (i := 15) (by decide +kernel))) rfl
theorem zw_1316 : Cond.instanceMethod yX0_countInside ∈ zT := zTm (zt_6 (List.mem_of_getElem? (i := 16) (by decide +kernel))) rfl
theorem zw_1317 : Cond.selects RX0 yX0_countInside yX0_countInside ∈ zT := zTm (zt_6 (List.mem_of_getElem? (i := 17) (by decide +kernel))) rfl
theorem zw_1318 : Cond.code yX0_countInside cX0_countInside 1 (some .int) ∈ zT := zTm (zt_6 (List.mem_of_getElem? (i := 18) (by decide +kernel))) rfl
theorem zw_1322 : Cond.code yX11_account cX11_account 3 (some .long) ∈ zT := zTm (zt_6 (List.mem_of_getElem? (i := 22) (by decide +kernel))) rfl
theorem zw_1326 : Cond.code yX11_odd cX11_odd 2 (some .int) ∈ zT := zTm (zt_6 (List.mem_of_getElem? (i := 26) (by decide +kernel))) rfl
theorem zw_1327 : Cond.methodLink RX11 570 yX10_subtract ∈ zT := zTm (zt_6 (List.mem_of_getElem? (i := 27) (by decide +kernel))) rfl
theorem zw_1328 : Cond.instanceMethod yX10_subtract ∈ zT := zTm (zt_6 (List.mem_of_getElem? (i := 28) (by decide +kernel))) rfl
theorem zw_1329 : Cond.selects RX10 yX10_subtract yX10_subtract ∈ zT := zTm (zt_6 (List.mem_of_getElem? (i := 29) (by decide +kernel))) rfl
theorem zw_1330 : Cond.code yX10_subtract cX10_subtract 3 none ∈ zT := zTm (zt_6 (List.mem_of_getElem? (i := 30) (by decide +kernel))) rfl
theorem zw_1331 : Cond.methodLink RX10 48 yX10_add ∈ zT := zTm (zt_6 (List.mem_of_getElem? (i := 31) (by decide +kernel))) rfl
theorem zw_1332 : Cond.methodLink RX11 573 yX10_countUneven ∈ zT := zTm (zt_6 (List.mem_of_getElem? (i := 32) (by decide +kernel))) rfl
theorem zw_1333 : Cond.instanceMethod yX10_countUneven ∈ zT := zTm (zt_6 (List.mem_of_getElem? (i := 33) (by decide +kernel))) rfl
theorem zw_1334 : Cond.selects RX10 yX10_countUneven yX10_countUneven ∈ zT := zTm (zt_6 (List.mem_of_getElem? (i := 34) (by decide +kernel))) rfl
theorem zw_1335 : Cond.code yX10_countUneven cX10_countUneven 3 (some .int) ∈ zT := zTm (zt_6 (List.mem_of_getElem? (i := 35) (by decide +kernel))) rfl
theorem zw_1339 : Cond.code yX11_strays cX11_strays 3 (some .int) ∈ zT := zTm (zt_6 (List.mem_of_getElem? (i := 39) (by decide +kernel))) rfl
theorem zw_1340 : Cond.methodLink RX11 576 yX0_loseSight ∈ zT := zTm (zt_6 (List.mem_of_getElem? (i := 40) (by decide +kernel))) rfl
theorem zw_1341 : Cond.instanceMethod yX0_loseSight ∈ zT := zTm (zt_6 (List.mem_of_getElem? (i := 41) (by decide +kernel))) rfl
theorem zw_1342 : Cond.selects RX0 yX0_loseSight yX0_loseSight ∈ zT := zTm (zt_6 (List.mem_of_getElem? (i := 42) (by decide +kernel))) rfl
theorem zw_1343 : Cond.code yX0_loseSight cX0_loseSight 1 none ∈ zT := zTm (zt_6 (List.mem_of_getElem? (i := 43) (by decide +kernel))) rfl
theorem zw_1344 : Cond.methodLink RX11 579 yX11_seeRow ∈ zT := zTm (zt_6 (List.mem_of_getElem? (i := 44) (by decide +kernel))) rfl
theorem zw_1346 : Cond.instanceMethod yX11_seeRow ∈ zT := zTm (zt_6 (List.mem_of_getElem? (i := 46) (by decide +kernel))) rfl
theorem zw_1347 : Cond.code yX11_seeRow cX11_seeRow 5 none ∈ zT := zTm (zt_6 (List.mem_of_getElem? (i := 47) (by decide +kernel))) rfl
theorem zw_1348 : Cond.methodLink RX11 588 yX0_seeAt ∈ zT := zTm (zt_6 (List.mem_of_getElem? (i := 48) (by decide +kernel))) rfl
theorem zw_1349 : Cond.instanceMethod yX0_seeAt ∈ zT := zTm (zt_6 (List.mem_of_getElem? (i := 49) (by decide +kernel))) rfl
theorem zw_1350 : Cond.selects RX0 yX0_seeAt yX0_seeAt ∈ zT := zTm (zt_6 (List.mem_of_getElem? (i := 50) (by decide +kernel))) rfl
theorem zw_1351 : Cond.code yX0_seeAt cX0_seeAt 2 none ∈ zT := zTm (zt_6 (List.mem_of_getElem? (i := 51) (by decide +kernel))) rfl
theorem zw_1352 : Cond.methodLink RX11 582 yX0_seeMembers ∈ zT := zTm (zt_6 (List.mem_of_getElem? (i := 52) (by decide +kernel))) rfl
theorem zw_1353 : Cond.instanceMethod yX0_seeMembers ∈ zT := zTm (zt_6 (List.mem_of_getElem? (i := 53) (by decide +kernel))) rfl
theorem zw_1354 : Cond.selects RX0 yX0_seeMembers yX0_seeMembers ∈ zT := zTm (zt_6 (List.mem_of_getElem? (i := 54) (by decide +kernel))) rfl
theorem zw_1355 : Cond.code yX0_seeMembers cX0_seeMembers 2 none ∈ zT := zTm (zt_6 (List.mem_of_getElem? (i := 55) (by decide +kernel))) rfl
theorem zw_1356 : Cond.methodLink RX0 110 yX0_seeAt ∈ zT := zTm (zt_6 (List.mem_of_getElem? (i := 56) (by decide +kernel))) rfl
theorem zw_1357 : Cond.methodLink RX11 585 yX0_isStray ∈ zT := zTm (zt_6 (List.mem_of_getElem? (i := 57) (by decide +kernel))) rfl
theorem zw_1358 : Cond.instanceMethod yX0_isStray ∈ zT := zTm (zt_6 (List.mem_of_getElem? (i := 58) (by decide +kernel))) rfl
theorem zw_1359 : Cond.selects RX0 yX0_isStray yX0_isStray ∈ zT := zTm (zt_6 (List.mem_of_getElem? (i := 59) (by decide +kernel))) rfl
theorem zw_1360 : Cond.code yX0_isStray cX0_isStray 1 (some .boolean) ∈ zT := zTm (zt_6 (List.mem_of_getElem? (i := 60) (by decide +kernel))) rfl
theorem zw_1364 : Cond.code yX11_month cX11_month 1 (some .int) ∈ zT := zTm (zt_6 (List.mem_of_getElem? (i := 64) (by decide +kernel))) rfl
theorem zw_1368 : Cond.code yX11_bottlings cX11_bottlings 1 (some .int) ∈ zT := zTm (zt_6 (List.mem_of_getElem? (i := 68) (by decide +kernel))) rfl
theorem zw_1372 : Cond.code yX11_bottling cX11_bottling 3 (some .long) ∈ zT := zTm (zt_6 (List.mem_of_getElem? (i := 72) (by decide +kernel))) rfl
theorem zw_1373 : Cond.methodLink RX11 592 yX4_read ∈ zT := zTm (zt_6 (List.mem_of_getElem? (i := 73) (by decide +kernel))) rfl
theorem zw_1374 : Cond.instanceMethod yX4_read ∈ zT := zTm (zt_6 (List.mem_of_getElem? (i := 74) (by decide +kernel))) rfl
theorem zw_1375 : Cond.selects RX4 yX4_read yX4_read ∈ zT := zTm (zt_6 (List.mem_of_getElem? (i := 75) (by decide +kernel))) rfl
theorem zw_1376 : Cond.code yX4_read cX4_read 3 (some .long) ∈ zT := zTm (zt_6 (List.mem_of_getElem? (i := 76) (by decide +kernel))) rfl
theorem zw_1377 : Cond.constantLong RX4 25 (-1) ∈ zT := zTm (zt_6 (List.mem_of_getElem? (i := 77) (by decide +kernel))) rfl
theorem zw_1381 : Cond.code yX11_entries cX11_entries 1 (some .int) ∈ zT := zTm (zt_6 (List.mem_of_getElem? (i := 81) (by decide +kernel))) rfl
theorem zw_1385 : Cond.code yX11_entry cX11_entry 3 (some .long) ∈ zT := zTm (zt_6 (List.mem_of_getElem? (i := 85) (by decide +kernel))) rfl
theorem zw_1389 : Cond.code yX11_tries cX11_tries 1 (some .int) ∈ zT := zTm (zt_6 (List.mem_of_getElem? (i := 89) (by decide +kernel))) rfl
theorem zw_1393 : Cond.code yX11_closed cX11_closed 1 (some .int) ∈ zT := zTm (zt_6 (List.mem_of_getElem? (i := 93) (by decide +kernel))) rfl
theorem zw_1397 : Cond.code yX11_why cX11_why 1 (some .int) ∈ zT := zTm (zt_6 (List.mem_of_getElem? (i := 97) (by decide +kernel))) rfl
theorem zw_1401 : Cond.code yX11_which cX11_which 1 (some .int) ∈ zT := zTm (zt_6 (List.mem_of_getElem? (i := 101) (by decide +kernel))) rfl
theorem zw_1405 : Cond.code yX11_trace cX11_trace 2 (some .int) ∈ zT := zTm (zt_6 (List.mem_of_getElem? (i := 105) (by decide +kernel))) rfl
theorem zw_1406 : Cond.methodLink RX11 595 yX9_read ∈ zT := zTm (zt_6 (List.mem_of_getElem? (i := 106) (by decide +kernel))) rfl
theorem zw_1407 : Cond.instanceMethod yX9_read ∈ zT := zTm (zt_6 (List.mem_of_getElem? (i := 107) (by decide +kernel))) rfl
theorem zw_1408 : Cond.selects RX9 yX9_read yX9_read ∈ zT := zTm (zt_6 (List.mem_of_getElem? (i := 108) (by decide +kernel))) rfl
theorem zw_1409 : Cond.code yX9_read cX9_read 2 (some .int) ∈ zT := zTm (zt_6 (List.mem_of_getElem? (i := 109) (by decide +kernel))) rfl
theorem zw_1413 : Cond.code yX11_picked cX11_picked 1 (some .int) ∈ zT := zTm (zt_6 (List.mem_of_getElem? (i := 113) (by decide +kernel))) rfl
theorem zw_1417 : Cond.code yX11_planned cX11_planned 2 (some .long) ∈ zT := zTm (zt_6 (List.mem_of_getElem? (i := 117) (by decide +kernel))) rfl
theorem zw_1418 : Cond.methodLink RX11 597 yX6_readSettled ∈ zT := zTm (zt_6 (List.mem_of_getElem? (i := 118) (by decide +kernel))) rfl
theorem zw_1419 : Cond.instanceMethod yX6_readSettled ∈ zT := zTm (zt_6 (List.mem_of_getElem? (i := 119) (by decide +kernel))) rfl
theorem zw_1420 : Cond.selects RX6 yX6_readSettled yX6_readSettled ∈ zT := zTm (zt_6 (List.mem_of_getElem? (i := 120) (by decide +kernel))) rfl
theorem zw_1421 : Cond.code yX6_readSettled cX6_readSettled 2 (some .long) ∈ zT := zTm (zt_6 (List.mem_of_getElem? (i := 121) (by decide +kernel))) rfl
theorem zw_1425 : Cond.code yX11_digest cX11_digest 4 (some .long) ∈ zT := zTm (zt_6 (List.mem_of_getElem? (i := 125) (by decide +kernel))) rfl
theorem zw_1426 : Cond.methodLink RX11 600 yX0_digestOnto ∈ zT := zTm (zt_6 (List.mem_of_getElem? (i := 126) (by decide +kernel))) rfl
theorem zw_1427 : Cond.instanceMethod yX0_digestOnto ∈ zT := zTm (zt_6 (List.mem_of_getElem? (i := 127) (by decide +kernel))) rfl
theorem zw_1428 : Cond.selects RX0 yX0_digestOnto yX0_digestOnto ∈ zT := zTm (zt_6 (List.mem_of_getElem? (i := 128) (by decide +kernel))) rfl
theorem zw_1429 : Cond.code yX0_digestOnto cX0_digestOnto 6 (some .long) ∈ zT := zTm (zt_6 (List.mem_of_getElem? (i := 129) (by decide +kernel))) rfl
theorem zw_1430 : Cond.constantLong RX0 113 (31) ∈ zT := zTm (zt_6 (List.mem_of_getElem? (i := 130) (by decide +kernel))) rfl
theorem zw_1431 : Cond.methodLink RX0 115 yX0_countInside ∈ zT := zTm (zt_6 (List.mem_of_getElem? (i := 131) (by decide +kernel))) rfl
theorem zw_1432 : Cond.constantLong RX11 603 (31) ∈ zT := zTm (zt_6 (List.mem_of_getElem? (i := 132) (by decide +kernel))) rfl
theorem zw_1437 : Cond.code yX12_init cX12_init 2 none ∈ zT := zTm (zt_6 (List.mem_of_getElem? (i := 137) (by decide +kernel))) rfl
theorem zw_1438 : Cond.methodLink RX12 1 objectInit ∈ zT := zTm (zt_6 (List.mem_of_getElem? (i := 138) (by decide +kernel))) rfl
theorem zw_1439 : Cond.constant RX12 31 (60000) ∈ zT := zTm (zt_6 (List.mem_of_getElem? (i := 139) (by decide +kernel))) rfl
theorem zw_1440 : Cond.fieldLink RX12 352 "BlendCellarModel" "given" "I" ∈ zT := zTm (zt_6 (List.mem_of_getElem? (i := 140) (by decide +kernel))) rfl
theorem zw_1441 : Cond.fieldLink RX12 181 "BlendCellarModel" "barrels" "I" ∈ zT := zTm (zt_6 (List.mem_of_getElem? (i := 141) (by decide +kernel))) rfl
theorem zw_1442 : Cond.fieldLink RX12 9 "BlendCellarModel" "kind" "[I" ∈ zT := zTm (zt_6 (List.mem_of_getElem? (i := 142) (by decide +kernel))) rfl
theorem zw_1443 : Cond.fieldLink RX12 13 "BlendCellarModel" "size" "[I" ∈ zT := zTm (zt_6 (List.mem_of_getElem? (i := 143) (by decide +kernel))) rfl
theorem zw_1444 : Cond.fieldLink RX12 16 "BlendCellarModel" "cents" "[I" ∈ zT := zTm (zt_6 (List.mem_of_getElem? (i := 144) (by decide +kernel))) rfl
theorem zw_1445 : Cond.fieldLink RX12 19 "BlendCellarModel" "place" "[I" ∈ zT := zTm (zt_6 (List.mem_of_getElem? (i := 145) (by decide +kernel))) rfl
theorem zw_1446 : Cond.fieldLink RX12 22 "BlendCellarModel" "members" "[I" ∈ zT := zTm (zt_6 (List.mem_of_getElem? (i := 146) (by decide +kernel))) rfl
theorem zw_1447 : Cond.fieldLink RX12 25 "BlendCellarModel" "member" "[I" ∈ zT := zTm (zt_6 (List.mem_of_getElem? (i := 147) (by decide +kernel))) rfl
theorem zw_1448 : Cond.fieldLink RX12 28 "BlendCellarModel" "many" "[I" ∈ zT := zTm (zt_6 (List.mem_of_getElem? (i := 148) (by decide +kernel))) rfl
theorem zw_1449 : Cond.fieldLink RX12 32 "BlendCellarModel" "part" "[I" ∈ zT := zTm (zt_6 (List.mem_of_getElem? (i := 149) (by decide +kernel))) rfl
theorem zw_1450 : Cond.fieldLink RX12 35 "BlendCellarModel" "ml" "[J" ∈ zT := zTm (zt_6 (List.mem_of_getElem? (i := 150) (by decide +kernel))) rfl
theorem zw_1451 : Cond.fieldLink RX12 39 "BlendCellarModel" "rowKind" "[I" ∈ zT := zTm (zt_6 (List.mem_of_getElem? (i := 151) (by decide +kernel))) rfl
theorem zw_1452 : Cond.fieldLink RX12 42 "BlendCellarModel" "rowSize" "[I" ∈ zT := zTm (zt_6 (List.mem_of_getElem? (i := 152) (by decide +kernel))) rfl
theorem zw_1453 : Cond.fieldLink RX12 45 "BlendCellarModel" "lies" "[I" ∈ zT := zTm (zt_6 (List.mem_of_getElem? (i := 153) (by decide +kernel))) rfl
theorem zw_1454 : Cond.fieldLink RX12 199 "BlendCellarModel" "known" "I" ∈ zT := zTm (zt_6 (List.mem_of_getElem? (i := 154) (by decide +kernel))) rfl
theorem zw_1455 : Cond.fieldLink RX12 48 "BlendCellarModel" "indexOf" "[I" ∈ zT := zTm (zt_6 (List.mem_of_getElem? (i := 155) (by decide +kernel))) rfl
theorem zw_1456 : Cond.fieldLink RX12 51 "BlendCellarModel" "codeOf" "[I" ∈ zT := zTm (zt_6 (List.mem_of_getElem? (i := 156) (by decide +kernel))) rfl
theorem zw_1457 : Cond.fieldLink RX12 54 "BlendCellarModel" "told" "[J" ∈ zT := zTm (zt_6 (List.mem_of_getElem? (i := 157) (by decide +kernel))) rfl
theorem zw_1458 : Cond.fieldLink RX12 205 "BlendCellarModel" "months" "I" ∈ zT := zTm (zt_6 (List.mem_of_getElem? (i := 158) (by decide +kernel))) rfl
theorem zw_1459 : Cond.fieldLink RX12 189 "BlendCellarModel" "entries" "I" ∈ zT := zTm (zt_6 (List.mem_of_getElem? (i := 159) (by decide +kernel))) rfl
theorem zw_1460 : Cond.fieldLink RX12 57 "BlendCellarModel" "journal" "[J" ∈ zT := zTm (zt_6 (List.mem_of_getElem? (i := 160) (by decide +kernel))) rfl
theorem zw_1461 : Cond.fieldLink RX12 214 "BlendCellarModel" "bottlings" "I" ∈ zT := zTm (zt_6 (List.mem_of_getElem? (i := 161) (by decide +kernel))) rfl
theorem zw_1462 : Cond.fieldLink RX12 60 "BlendCellarModel" "bottled" "[J" ∈ zT := zTm (zt_6 (List.mem_of_getElem? (i := 162) (by decide +kernel))) rfl
theorem zw_1463 : Cond.fieldLink RX12 184 "BlendCellarModel" "labels" "I" ∈ zT := zTm (zt_6 (List.mem_of_getElem? (i := 163) (by decide +kernel))) rfl
theorem zw_1464 : Cond.fieldLink RX12 63 "BlendCellarModel" "madeRules" "[I" ∈ zT := zTm (zt_6 (List.mem_of_getElem? (i := 164) (by decide +kernel))) rfl
theorem zw_1465 : Cond.fieldLink RX12 66 "BlendCellarModel" "rules" "[I" ∈ zT := zTm (zt_6 (List.mem_of_getElem? (i := 165) (by decide +kernel))) rfl
theorem zw_1466 : Cond.fieldLink RX12 69 "BlendCellarModel" "rule" "[I" ∈ zT := zTm (zt_6 (List.mem_of_getElem? (i := 166) (by decide +kernel))) rfl
theorem zw_1467 : Cond.fieldLink RX12 72 "BlendCellarModel" "ruleOp" "[I" ∈ zT := zTm (zt_6 (List.mem_of_getElem? (i := 167) (by decide +kernel))) rfl
theorem zw_1468 : Cond.fieldLink RX12 75 "BlendCellarModel" "ruleDim" "[I" ∈ zT := zTm (zt_6 (List.mem_of_getElem? (i := 168) (by decide +kernel))) rfl
theorem zw_1469 : Cond.fieldLink RX12 78 "BlendCellarModel" "ruleValue" "[I" ∈ zT := zTm (zt_6 (List.mem_of_getElem? (i := 169) (by decide +kernel))) rfl
theorem zw_1470 : Cond.fieldLink RX12 81 "BlendCellarModel" "ruleHundredth" "[I" ∈ zT := zTm (zt_6 (List.mem_of_getElem? (i := 170) (by decide +kernel))) rfl
theorem zw_1471 : Cond.fieldLink RX12 84 "BlendCellarModel" "ruleFirst" "[I" ∈ zT := zTm (zt_6 (List.mem_of_getElem? (i := 171) (by decide +kernel))) rfl
theorem zw_1472 : Cond.fieldLink RX12 87 "BlendCellarModel" "ruleSecond" "[I" ∈ zT := zTm (zt_6 (List.mem_of_getElem? (i := 172) (by decide +kernel))) rfl
theorem zw_1473 : Cond.fieldLink RX12 334 "BlendCellarModel" "picks" "I" ∈ zT := zTm (zt_6 (List.mem_of_getElem? (i := 173) (by decide +kernel))) rfl
theorem zw_1474 : Cond.fieldLink RX12 90 "BlendCellarModel" "pickBarrel" "[I" ∈ zT := zTm (zt_6 (List.mem_of_getElem? (i := 174) (by decide +kernel))) rfl
theorem zw_1475 : Cond.fieldLink RX12 93 "BlendCellarModel" "pickMl" "[J" ∈ zT := zTm (zt_6 (List.mem_of_getElem? (i := 175) (by decide +kernel))) rfl
theorem zw_1476 : Cond.fieldLink RX12 400 "BlendCellarModel" "plans" "I" ∈ zT := zTm (zt_6 (List.mem_of_getElem? (i := 176) (by decide +kernel))) rfl
theorem zw_1477 : Cond.fieldLink RX12 96 "BlendCellarModel" "planMl" "[J" ∈ zT := zTm (zt_6 (List.mem_of_getElem? (i := 177) (by decide +kernel))) rfl
theorem zw_1478 : Cond.fieldLink RX12 172 "BlendCellarModel" "tries" "I" ∈ zT := zTm (zt_6 (List.mem_of_getElem? (i := 178) (by decide +kernel))) rfl
theorem zw_1479 : Cond.fieldLink RX12 178 "BlendCellarModel" "why" "I" ∈ zT := zTm (zt_6 (List.mem_of_getElem? (i := 179) (by decide +kernel))) rfl
theorem zw_1480 : Cond.fieldLink RX12 99 "BlendCellarModel" "which" "I" ∈ zT := zTm (zt_6 (List.mem_of_getElem? (i := 180) (by decide +kernel))) rfl
theorem zw_1481 : Cond.fieldLink RX12 175 "BlendCellarModel" "traces" "I" ∈ zT := zTm (zt_6 (List.mem_of_getElem? (i := 181) (by decide +kernel))) rfl
theorem zw_1482 : Cond.fieldLink RX12 103 "BlendCellarModel" "trace" "[I" ∈ zT := zTm (zt_6 (List.mem_of_getElem? (i := 182) (by decide +kernel))) rfl
theorem zw_1483 : Cond.fieldLink RX12 192 "BlendCellarModel" "hasBefore" "Z" ∈ zT := zTm (zt_6 (List.mem_of_getElem? (i := 183) (by decide +kernel))) rfl
theorem zw_1484 : Cond.fieldLink RX12 196 "BlendCellarModel" "barrelsBefore" "I" ∈ zT := zTm (zt_6 (List.mem_of_getElem? (i := 184) (by decide +kernel))) rfl
theorem zw_1485 : Cond.fieldLink RX12 202 "BlendCellarModel" "knownBefore" "I" ∈ zT := zTm (zt_6 (List.mem_of_getElem? (i := 185) (by decide +kernel))) rfl
theorem zw_1486 : Cond.fieldLink RX12 208 "BlendCellarModel" "monthsBefore" "I" ∈ zT := zTm (zt_6 (List.mem_of_getElem? (i := 186) (by decide +kernel))) rfl
theorem zw_1487 : Cond.fieldLink RX12 211 "BlendCellarModel" "entriesBefore" "I" ∈ zT := zTm (zt_6 (List.mem_of_getElem? (i := 187) (by decide +kernel))) rfl
theorem zw_1488 : Cond.fieldLink RX12 217 "BlendCellarModel" "bottlingsBefore" "I" ∈ zT := zTm (zt_6 (List.mem_of_getElem? (i := 188) (by decide +kernel))) rfl
theorem zw_1489 : Cond.fieldLink RX12 106 "BlendCellarModel" "centsBefore" "[I" ∈ zT := zTm (zt_6 (List.mem_of_getElem? (i := 189) (by decide +kernel))) rfl
theorem zw_1490 : Cond.fieldLink RX12 109 "BlendCellarModel" "placeBefore" "[I" ∈ zT := zTm (zt_6 (List.mem_of_getElem? (i := 190) (by decide +kernel))) rfl
theorem zw_1491 : Cond.fieldLink RX12 112 "BlendCellarModel" "membersBefore" "[I" ∈ zT := zTm (zt_6 (List.mem_of_getElem? (i := 191) (by decide +kernel))) rfl
theorem zw_1492 : Cond.fieldLink RX12 115 "BlendCellarModel" "memberBefore" "[I" ∈ zT := zTm (zt_6 (List.mem_of_getElem? (i := 192) (by decide +kernel))) rfl
theorem zw_1493 : Cond.fieldLink RX12 118 "BlendCellarModel" "manyBefore" "[I" ∈ zT := zTm (zt_6 (List.mem_of_getElem? (i := 193) (by decide +kernel))) rfl
theorem zw_1494 : Cond.fieldLink RX12 121 "BlendCellarModel" "partBefore" "[I" ∈ zT := zTm (zt_6 (List.mem_of_getElem? (i := 194) (by decide +kernel))) rfl
theorem zw_1495 : Cond.fieldLink RX12 124 "BlendCellarModel" "mlBefore" "[J" ∈ zT := zTm (zt_6 (List.mem_of_getElem? (i := 195) (by decide +kernel))) rfl
theorem zw_1496 : Cond.fieldLink RX12 127 "BlendCellarModel" "rowKindBefore" "[I" ∈ zT := zTm (zt_6 (List.mem_of_getElem? (i := 196) (by decide +kernel))) rfl
theorem zw_1497 : Cond.fieldLink RX12 130 "BlendCellarModel" "rowSizeBefore" "[I" ∈ zT := zTm (zt_6 (List.mem_of_getElem? (i := 197) (by decide +kernel))) rfl
theorem zw_1498 : Cond.fieldLink RX12 133 "BlendCellarModel" "liesBefore" "[I" ∈ zT := zTm (zt_6 (List.mem_of_getElem? (i := 198) (by decide +kernel))) rfl
theorem zw_1499 : Cond.fieldLink RX12 136 "BlendCellarModel" "toldBefore" "[J" ∈ zT := zTm (zt_6 (List.mem_of_getElem? (i := 199) (by decide +kernel))) rfl
theorem zw_1500 : Cond.fieldLink RX12 247 "BlendCellarModel" "draws" "I" ∈ zT := zTm (zt_6 (List.mem_of_getElem? (i := 200) (by decide +kernel))) rfl
theorem zw_1501 : Cond.fieldLink RX12 139 "BlendCellarModel" "drawVessel" "[I" ∈ zT := zTm (zt_6 (List.mem_of_getElem? (i := 201) (by decide +kernel))) rfl
theorem zw_1502 : Cond.fieldLink RX12 142 "BlendCellarModel" "drawMl" "[J" ∈ zT := zTm (zt_6 (List.mem_of_getElem? (i := 202) (by decide +kernel))) rfl
theorem zw_1503 : Cond.fieldLink RX12 145 "BlendCellarModel" "goes" "[J" ∈ zT := zTm (zt_6 (List.mem_of_getElem? (i := 203) (by decide +kernel))) rfl
theorem zw_1504 : Cond.fieldLink RX12 254 "BlendCellarModel" "mixed" "I" ∈ zT := zTm (zt_6 (List.mem_of_getElem? (i := 204) (by decide +kernel))) rfl
theorem zw_1505 : Cond.fieldLink RX12 148 "BlendCellarModel" "mixPart" "[I" ∈ zT := zTm (zt_6 (List.mem_of_getElem? (i := 205) (by decide +kernel))) rfl
theorem zw_1506 : Cond.fieldLink RX12 151 "BlendCellarModel" "mixMl" "[J" ∈ zT := zTm (zt_6 (List.mem_of_getElem? (i := 206) (by decide +kernel))) rfl
theorem zw_1507 : Cond.fieldLink RX12 367 "BlendCellarModel" "all" "J" ∈ zT := zTm (zt_6 (List.mem_of_getElem? (i := 207) (by decide +kernel))) rfl
theorem zw_1508 : Cond.fieldLink RX12 154 "BlendCellarModel" "share" "[J" ∈ zT := zTm (zt_6 (List.mem_of_getElem? (i := 208) (by decide +kernel))) rfl
theorem zw_1509 : Cond.fieldLink RX12 373 "BlendCellarModel" "firstNot" "I" ∈ zT := zTm (zt_6 (List.mem_of_getElem? (i := 209) (by decide +kernel))) rfl
theorem zw_1510 : Cond.fieldLink RX12 157 "BlendCellarModel" "stepShare" "[J" ∈ zT := zTm (zt_6 (List.mem_of_getElem? (i := 210) (by decide +kernel))) rfl
theorem zw_1511 : Cond.fieldLink RX12 160 "BlendCellarModel" "stepWorth" "[J" ∈ zT := zTm (zt_6 (List.mem_of_getElem? (i := 211) (by decide +kernel))) rfl
theorem zw_1512 : Cond.fieldLink RX12 163 "BlendCellarModel" "stepMost" "[I" ∈ zT := zTm (zt_6 (List.mem_of_getElem? (i := 212) (by decide +kernel))) rfl
theorem zw_1513 : Cond.fieldLink RX12 166 "BlendCellarModel" "steps" "[I" ∈ zT := zTm (zt_6 (List.mem_of_getElem? (i := 213) (by decide +kernel))) rfl
theorem zw_1514 : Cond.fieldLink RX12 169 "BlendCellarModel" "bestSteps" "[I" ∈ zT := zTm (zt_6 (List.mem_of_getElem? (i := 214) (by decide +kernel))) rfl
theorem zw_1515 : Cond.fieldLink RX12 386 "BlendCellarModel" "bestWorth" "J" ∈ zT := zTm (zt_6 (List.mem_of_getElem? (i := 215) (by decide +kernel))) rfl
theorem zw_1672 : Cond.code yX12_row cX12_row 4 (some .long) ∈ zT := zTm (zt_7 (List.mem_of_getElem? (i := 132) (by decide +kernel))) rfl
theorem zw_1673 : Cond.methodLink RX12 274 yX12_begin ∈ zT := zTm (zt_7 (List.mem_of_getElem? (i := 133) (by decide +kernel))) rfl
theorem zw_1675 : Cond.instanceMethod yX12_begin ∈ zT := zTm (zt_7 (List.mem_of_getElem? (i := 135) (by decide +kernel))) rfl
theorem zw_1676 : Cond.code yX12_begin cX12_begin 1 none ∈ zT := zTm (zt_7 (List.mem_of_getElem? (i := 136) (by decide +kernel))) rfl
theorem zw_1677 : Cond.methodLink RX12 277 yX12_no ∈ zT := zTm (zt_7 (List.mem_of_getElem? (i := 137) (by decide +kernel))) rfl
theorem zw_1679 : Cond.instanceMethod yX12_no ∈ zT := zTm (zt_7 (List.mem_of_getElem? (i := 139) (by decide +kernel))) rfl
theorem zw_1680 : Cond.code yX12_no cX12_no 2 (some .long) ∈ zT := zTm (zt_7 (List.mem_of_getElem? (i := 140) (by decide +kernel))) rfl
theorem zw_1681 : Cond.methodLink RX12 280 yX12_keep ∈ zT := zTm (zt_7 (List.mem_of_getElem? (i := 141) (by decide +kernel))) rfl
theorem zw_1683 : Cond.instanceMethod yX12_keep ∈ zT := zTm (zt_7 (List.mem_of_getElem? (i := 143) (by decide +kernel))) rfl
theorem zw_1684 : Cond.code yX12_keep cX12_keep 3 none ∈ zT := zTm (zt_7 (List.mem_of_getElem? (i := 144) (by decide +kernel))) rfl
theorem zw_1688 : Cond.code yX12_barrel cX12_barrel 6 (some .long) ∈ zT := zTm (zt_7 (List.mem_of_getElem? (i := 148) (by decide +kernel))) rfl
theorem zw_1689 : Cond.constant RX12 283 (1000000000) ∈ zT := zTm (zt_7 (List.mem_of_getElem? (i := 149) (by decide +kernel))) rfl
theorem zw_1690 : Cond.constant RX12 284 (1000000) ∈ zT := zTm (zt_7 (List.mem_of_getElem? (i := 150) (by decide +kernel))) rfl
theorem zw_1694 : Cond.code yX12_join cX12_join 4 (some .long) ∈ zT := zTm (zt_7 (List.mem_of_getElem? (i := 154) (by decide +kernel))) rfl
theorem zw_1695 : Cond.methodLink RX12 285 yX12_lookedCask ∈ zT := zTm (zt_7 (List.mem_of_getElem? (i := 155) (by decide +kernel))) rfl
theorem zw_1697 : Cond.instanceMethod yX12_lookedCask ∈ zT := zTm (zt_7 (List.mem_of_getElem? (i := 157) (by decide +kernel))) rfl
theorem zw_1698 : Cond.code yX12_lookedCask cX12_lookedCask 2 (some .int) ∈ zT := zTm (zt_7 (List.mem_of_getElem? (i := 158) (by decide +kernel))) rfl
theorem zw_1699 : Cond.methodLink RX12 289 yX12_lookedVessel ∈ zT := zTm (zt_7 (List.mem_of_getElem? (i := 159) (by decide +kernel))) rfl
theorem zw_1701 : Cond.instanceMethod yX12_lookedVessel ∈ zT := zTm (zt_7 (List.mem_of_getElem? (i := 161) (by decide +kernel))) rfl
theorem zw_1702 : Cond.code yX12_lookedVessel cX12_lookedVessel 2 (some .int) ∈ zT := zTm (zt_7 (List.mem_of_getElem? (i := 162) (by decide +kernel))) rfl
theorem zw_1706 : Cond.code yX12_leave cX12_leave 4 (some .long) ∈ zT := zTm (zt_7 (List.mem_of_getElem? (i := 166) (by decide +kernel))) rfl
theorem zw_1710 : Cond.code yX12_lay cX12_lay 5 (some .long) ∈ zT := zTm (zt_7 (List.mem_of_getElem? (i := 170) (by decide +kernel))) rfl
theorem zw_1711 : Cond.methodLink RX12 292 yX12_looked ∈ zT := zTm (zt_7 (List.mem_of_getElem? (i := 171) (by decide +kernel))) rfl
theorem zw_1713 : Cond.instanceMethod yX12_looked ∈ zT := zTm (zt_7 (List.mem_of_getElem? (i := 173) (by decide +kernel))) rfl
theorem zw_1714 : Cond.code yX12_looked cX12_looked 2 (some .int) ∈ zT := zTm (zt_7 (List.mem_of_getElem? (i := 174) (by decide +kernel))) rfl
theorem zw_1715 : Cond.methodLink RX12 295 yX12_readPlace ∈ zT := zTm (zt_7 (List.mem_of_getElem? (i := 175) (by decide +kernel))) rfl
theorem zw_1717 : Cond.instanceMethod yX12_readPlace ∈ zT := zTm (zt_7 (List.mem_of_getElem? (i := 177) (by decide +kernel))) rfl
theorem zw_1718 : Cond.code yX12_readPlace cX12_readPlace 3 (some .int) ∈ zT := zTm (zt_7 (List.mem_of_getElem? (i := 178) (by decide +kernel))) rfl
theorem zw_1719 : Cond.methodLink RX12 299 yX12_takes ∈ zT := zTm (zt_7 (List.mem_of_getElem? (i := 179) (by decide +kernel))) rfl
theorem zw_1720 : Cond.static yX12_takes ∈ zT := zTm (zt_7 (List.mem_of_getElem? (i := 180) (by decide +kernel))) rfl
theorem zw_1721 : Cond.code yX12_takes cX12_takes 2 (some .boolean) ∈ zT := zTm (zt_7 (List.mem_of_getElem? (i := 181) (by decide +kernel))) rfl
theorem zw_1725 : Cond.code yX12_lift cX12_lift 5 (some .long) ∈ zT := zTm (zt_7 (List.mem_of_getElem? (i := 185) (by decide +kernel))) rfl
theorem zw_1729 : Cond.code yX12_worth cX12_worth 5 (some .long) ∈ zT := zTm (zt_7 (List.mem_of_getElem? (i := 189) (by decide +kernel))) rfl
theorem zw_1733 : Cond.code yX12_fill cX12_fill 9 (some .long) ∈ zT := zTm (zt_7 (List.mem_of_getElem? (i := 193) (by decide +kernel))) rfl
theorem zw_1734 : Cond.methodLink RX12 303 yX12_isAmount ∈ zT := zTm (zt_7 (List.mem_of_getElem? (i := 194) (by decide +kernel))) rfl
theorem zw_1736 : Cond.instanceMethod yX12_isAmount ∈ zT := zTm (zt_7 (List.mem_of_getElem? (i := 196) (by decide +kernel))) rfl
theorem zw_1737 : Cond.code yX12_isAmount cX12_isAmount 3 (some .boolean) ∈ zT := zTm (zt_7 (List.mem_of_getElem? (i := 197) (by decide +kernel))) rfl
theorem zw_1738 : Cond.constantLong RX12 187 (1000000000) ∈ zT := zTm (zt_7 (List.mem_of_getElem? (i := 198) (by decide +kernel))) rfl
theorem zw_1739 : Cond.methodLink RX12 307 yX12_isInCask ∈ zT := zTm (zt_7 (List.mem_of_getElem? (i := 199) (by decide +kernel))) rfl
theorem zw_1741 : Cond.instanceMethod yX12_isInCask ∈ zT := zTm (zt_7 (List.mem_of_getElem? (i := 201) (by decide +kernel))) rfl
theorem zw_1742 : Cond.code yX12_isInCask cX12_isInCask 2 (some .boolean) ∈ zT := zTm (zt_7 (List.mem_of_getElem? (i := 202) (by decide +kernel))) rfl
theorem zw_1743 : Cond.methodLink RX12 311 yX12_most ∈ zT := zTm (zt_7 (List.mem_of_getElem? (i := 203) (by decide +kernel))) rfl
theorem zw_1745 : Cond.instanceMethod yX12_most ∈ zT := zTm (zt_7 (List.mem_of_getElem? (i := 205) (by decide +kernel))) rfl
theorem zw_1746 : Cond.code yX12_most cX12_most 5 (some .long) ∈ zT := zTm (zt_7 (List.mem_of_getElem? (i := 206) (by decide +kernel))) rfl
theorem zw_1747 : Cond.methodLink RX12 234 yX12_mostOfVessel ∈ zT := zTm (zt_7 (List.mem_of_getElem? (i := 207) (by decide +kernel))) rfl
theorem zw_1749 : Cond.instanceMethod yX12_mostOfVessel ∈ zT := zTm (zt_7 (List.mem_of_getElem? (i := 209) (by decide +kernel))) rfl
theorem zw_1750 : Cond.code yX12_mostOfVessel cX12_mostOfVessel 4 (some .long) ∈ zT := zTm (zt_7 (List.mem_of_getElem? (i := 210) (by decide +kernel))) rfl
theorem zw_1751 : Cond.methodLink RX12 224 yX12_ran ∈ zT := zTm (zt_7 (List.mem_of_getElem? (i := 211) (by decide +kernel))) rfl
theorem zw_1753 : Cond.instanceMethod yX12_ran ∈ zT := zTm (zt_7 (List.mem_of_getElem? (i := 213) (by decide +kernel))) rfl
theorem zw_1754 : Cond.code yX12_ran cX12_ran 2 none ∈ zT := zTm (zt_7 (List.mem_of_getElem? (i := 214) (by decide +kernel))) rfl
theorem zw_1755 : Cond.constantLong RX12 228 (10) ∈ zT := zTm (zt_7 (List.mem_of_getElem? (i := 215) (by decide +kernel))) rfl
theorem zw_1756 : Cond.methodLink RX12 230 yX12_atLeast0 ∈ zT := zTm (zt_7 (List.mem_of_getElem? (i := 216) (by decide +kernel))) rfl
theorem zw_1757 : Cond.static yX12_atLeast0 ∈ zT := zTm (zt_7 (List.mem_of_getElem? (i := 217) (by decide +kernel))) rfl
theorem zw_1758 : Cond.code yX12_atLeast0 cX12_atLeast0 2 (some .long) ∈ zT := zTm (zt_7 (List.mem_of_getElem? (i := 218) (by decide +kernel))) rfl
theorem zw_1759 : Cond.methodLink RX12 220 yX12_inVessel ∈ zT := zTm (zt_7 (List.mem_of_getElem? (i := 219) (by decide +kernel))) rfl
theorem zw_1761 : Cond.instanceMethod yX12_inVessel ∈ zT := zTm (zt_7 (List.mem_of_getElem? (i := 221) (by decide +kernel))) rfl
theorem zw_1762 : Cond.code yX12_inVessel cX12_inVessel 5 (some .long) ∈ zT := zTm (zt_7 (List.mem_of_getElem? (i := 222) (by decide +kernel))) rfl
theorem zw_1763 : Cond.methodLink RX12 314 yX12_mixInto ∈ zT := zTm (zt_7 (List.mem_of_getElem? (i := 223) (by decide +kernel))) rfl
theorem zw_1765 : Cond.instanceMethod yX12_mixInto ∈ zT := zTm (zt_7 (List.mem_of_getElem? (i := 225) (by decide +kernel))) rfl
theorem zw_1766 : Cond.code yX12_mixInto cX12_mixInto 3 (some .boolean) ∈ zT := zTm (zt_7 (List.mem_of_getElem? (i := 226) (by decide +kernel))) rfl
theorem zw_1767 : Cond.methodLink RX12 260 yX12_mix ∈ zT := zTm (zt_7 (List.mem_of_getElem? (i := 227) (by decide +kernel))) rfl
theorem zw_1769 : Cond.instanceMethod yX12_mix ∈ zT := zTm (zt_7 (List.mem_of_getElem? (i := 229) (by decide +kernel))) rfl
theorem zw_1770 : Cond.code yX12_mix cX12_mix 6 none ∈ zT := zTm (zt_7 (List.mem_of_getElem? (i := 230) (by decide +kernel))) rfl
theorem zw_1771 : Cond.methodLink RX12 263 yX12_mixDraws ∈ zT := zTm (zt_7 (List.mem_of_getElem? (i := 231) (by decide +kernel))) rfl
theorem zw_1773 : Cond.instanceMethod yX12_mixDraws ∈ zT := zTm (zt_7 (List.mem_of_getElem? (i := 233) (by decide +kernel))) rfl
theorem zw_1774 : Cond.code yX12_mixDraws cX12_mixDraws 4 none ∈ zT := zTm (zt_7 (List.mem_of_getElem? (i := 234) (by decide +kernel))) rfl
theorem zw_1775 : Cond.methodLink RX12 257 yX12_shares ∈ zT := zTm (zt_7 (List.mem_of_getElem? (i := 235) (by decide +kernel))) rfl
theorem zw_1777 : Cond.instanceMethod yX12_shares ∈ zT := zTm (zt_7 (List.mem_of_getElem? (i := 237) (by decide +kernel))) rfl
theorem zw_1778 : Cond.code yX12_shares cX12_shares 9 none ∈ zT := zTm (zt_7 (List.mem_of_getElem? (i := 238) (by decide +kernel))) rfl
theorem zw_1779 : Cond.methodLink RX12 317 yX12_become ∈ zT := zTm (zt_7 (List.mem_of_getElem? (i := 239) (by decide +kernel))) rfl
theorem zw_1781 : Cond.instanceMethod yX12_become ∈ zT := zTm (zt_8 (List.mem_of_getElem? (i := 1) (by decide +kernel))) rfl
theorem zw_1782 : Cond.code yX12_become cX12_become 3 none ∈ zT := zTm (zt_8 (List.mem_of_getElem? (i := 2) (by decide +kernel))) rfl
theorem zw_1783 : Cond.methodLink RX12 266 yX12_account ∈ zT := zTm (zt_8 (List.mem_of_getElem? (i := 3) (by decide +kernel))) rfl
theorem zw_1785 : Cond.instanceMethod yX12_account ∈ zT := zTm (zt_8 (List.mem_of_getElem? (i := 5) (by decide +kernel))) rfl
theorem zw_1786 : Cond.code yX12_account cX12_account 6 none ∈ zT := zTm (zt_8 (List.mem_of_getElem? (i := 6) (by decide +kernel))) rfl
theorem zw_1787 : Cond.methodLink RX12 320 yX12_enter ∈ zT := zTm (zt_8 (List.mem_of_getElem? (i := 7) (by decide +kernel))) rfl
theorem zw_1789 : Cond.instanceMethod yX12_enter ∈ zT := zTm (zt_8 (List.mem_of_getElem? (i := 9) (by decide +kernel))) rfl
theorem zw_1790 : Cond.code yX12_enter cX12_enter 8 none ∈ zT := zTm (zt_8 (List.mem_of_getElem? (i := 10) (by decide +kernel))) rfl
theorem zw_1794 : Cond.code yX12_rack cX12_rack 8 (some .long) ∈ zT := zTm (zt_8 (List.mem_of_getElem? (i := 14) (by decide +kernel))) rfl
theorem zw_1795 : Cond.methodLink RX12 324 yX12_spare ∈ zT := zTm (zt_8 (List.mem_of_getElem? (i := 15) (by decide +kernel))) rfl
theorem zw_1797 : Cond.instanceMethod yX12_spare ∈ zT := zTm (zt_8 (List.mem_of_getElem? (i := 17) (by decide +kernel))) rfl
theorem zw_1798 : Cond.code yX12_spare cX12_spare 5 (some .long) ∈ zT := zTm (zt_8 (List.mem_of_getElem? (i := 18) (by decide +kernel))) rfl
theorem zw_1799 : Cond.methodLink RX12 237 yX12_spareOfVessel ∈ zT := zTm (zt_8 (List.mem_of_getElem? (i := 19) (by decide +kernel))) rfl
theorem zw_1801 : Cond.instanceMethod yX12_spareOfVessel ∈ zT := zTm (zt_8 (List.mem_of_getElem? (i := 21) (by decide +kernel))) rfl
theorem zw_1802 : Cond.code yX12_spareOfVessel cX12_spareOfVessel 7 (some .long) ∈ zT := zTm (zt_8 (List.mem_of_getElem? (i := 22) (by decide +kernel))) rfl
theorem zw_1803 : Cond.methodLink RX12 327 yX12_drawFrom ∈ zT := zTm (zt_8 (List.mem_of_getElem? (i := 23) (by decide +kernel))) rfl
theorem zw_1805 : Cond.instanceMethod yX12_drawFrom ∈ zT := zTm (zt_8 (List.mem_of_getElem? (i := 25) (by decide +kernel))) rfl
theorem zw_1806 : Cond.code yX12_drawFrom cX12_drawFrom 13 none ∈ zT := zTm (zt_8 (List.mem_of_getElem? (i := 26) (by decide +kernel))) rfl
theorem zw_1807 : Cond.methodLink RX12 250 yX12_addDraw ∈ zT := zTm (zt_8 (List.mem_of_getElem? (i := 27) (by decide +kernel))) rfl
theorem zw_1809 : Cond.instanceMethod yX12_addDraw ∈ zT := zTm (zt_8 (List.mem_of_getElem? (i := 29) (by decide +kernel))) rfl
theorem zw_1810 : Cond.code yX12_addDraw cX12_addDraw 4 none ∈ zT := zTm (zt_8 (List.mem_of_getElem? (i := 30) (by decide +kernel))) rfl
theorem zw_1811 : Cond.methodLink RX12 331 yX12_takeDraws ∈ zT := zTm (zt_8 (List.mem_of_getElem? (i := 31) (by decide +kernel))) rfl
theorem zw_1813 : Cond.instanceMethod yX12_takeDraws ∈ zT := zTm (zt_8 (List.mem_of_getElem? (i := 33) (by decide +kernel))) rfl
theorem zw_1814 : Cond.code yX12_takeDraws cX12_takeDraws 3 none ∈ zT := zTm (zt_8 (List.mem_of_getElem? (i := 34) (by decide +kernel))) rfl
theorem zw_1815 : Cond.methodLink RX12 270 yX12_take ∈ zT := zTm (zt_8 (List.mem_of_getElem? (i := 35) (by decide +kernel))) rfl
theorem zw_1817 : Cond.instanceMethod yX12_take ∈ zT := zTm (zt_8 (List.mem_of_getElem? (i := 37) (by decide +kernel))) rfl
theorem zw_1818 : Cond.code yX12_take cX12_take 10 none ∈ zT := zTm (zt_8 (List.mem_of_getElem? (i := 38) (by decide +kernel))) rfl
theorem zw_1822 : Cond.code yX12_topUp cX12_topUp 10 (some .long) ∈ zT := zTm (zt_8 (List.mem_of_getElem? (i := 42) (by decide +kernel))) rfl
theorem zw_1826 : Cond.code yX12_pick cX12_pick 5 (some .long) ∈ zT := zTm (zt_8 (List.mem_of_getElem? (i := 46) (by decide +kernel))) rfl
theorem zw_1827 : Cond.methodLink RX12 337 yX12_isPicked ∈ zT := zTm (zt_8 (List.mem_of_getElem? (i := 47) (by decide +kernel))) rfl
theorem zw_1829 : Cond.instanceMethod yX12_isPicked ∈ zT := zTm (zt_8 (List.mem_of_getElem? (i := 49) (by decide +kernel))) rfl
theorem zw_1830 : Cond.code yX12_isPicked cX12_isPicked 4 (some .boolean) ∈ zT := zTm (zt_8 (List.mem_of_getElem? (i := 50) (by decide +kernel))) rfl
theorem zw_1834 : Cond.code yX12_forget cX12_forget 2 (some .long) ∈ zT := zTm (zt_8 (List.mem_of_getElem? (i := 54) (by decide +kernel))) rfl
theorem zw_1838 : Cond.code yX12_blend cX12_blend 8 (some .long) ∈ zT := zTm (zt_8 (List.mem_of_getElem? (i := 58) (by decide +kernel))) rfl
theorem zw_1839 : Cond.methodLink RX12 340 yX12_isOneInCask ∈ zT := zTm (zt_8 (List.mem_of_getElem? (i := 59) (by decide +kernel))) rfl
theorem zw_1841 : Cond.instanceMethod yX12_isOneInCask ∈ zT := zTm (zt_8 (List.mem_of_getElem? (i := 61) (by decide +kernel))) rfl
theorem zw_1842 : Cond.code yX12_isOneInCask cX12_isOneInCask 3 (some .boolean) ∈ zT := zTm (zt_8 (List.mem_of_getElem? (i := 62) (by decide +kernel))) rfl
theorem zw_1846 : Cond.code yX12_breathe cX12_breathe 8 (some .long) ∈ zT := zTm (zt_8 (List.mem_of_getElem? (i := 66) (by decide +kernel))) rfl
theorem zw_1847 : Cond.methodLink RX12 344 yX12_tellRate ∈ zT := zTm (zt_8 (List.mem_of_getElem? (i := 67) (by decide +kernel))) rfl
theorem zw_1849 : Cond.instanceMethod yX12_tellRate ∈ zT := zTm (zt_8 (List.mem_of_getElem? (i := 69) (by decide +kernel))) rfl
theorem zw_1850 : Cond.code yX12_tellRate cX12_tellRate 2 none ∈ zT := zTm (zt_8 (List.mem_of_getElem? (i := 70) (by decide +kernel))) rfl
theorem zw_1851 : Cond.methodLink RX12 347 yX12_rateOf ∈ zT := zTm (zt_8 (List.mem_of_getElem? (i := 71) (by decide +kernel))) rfl
theorem zw_1853 : Cond.instanceMethod yX12_rateOf ∈ zT := zTm (zt_8 (List.mem_of_getElem? (i := 73) (by decide +kernel))) rfl
theorem zw_1854 : Cond.code yX12_rateOf cX12_rateOf 2 (some .long) ∈ zT := zTm (zt_8 (List.mem_of_getElem? (i := 74) (by decide +kernel))) rfl
theorem zw_1855 : Cond.constantLong RX12 241 (20) ∈ zT := zTm (zt_8 (List.mem_of_getElem? (i := 75) (by decide +kernel))) rfl
theorem zw_1856 : Cond.constantLong RX12 243 (35) ∈ zT := zTm (zt_8 (List.mem_of_getElem? (i := 76) (by decide +kernel))) rfl
theorem zw_1857 : Cond.constantLong RX12 350 (10000) ∈ zT := zTm (zt_8 (List.mem_of_getElem? (i := 77) (by decide +kernel))) rfl
theorem zw_1861 : Cond.code yX12_bottle cX12_bottle 12 (some .long) ∈ zT := zTm (zt_8 (List.mem_of_getElem? (i := 81) (by decide +kernel))) rfl
theorem zw_1865 : Cond.code yX12_drain cX12_drain 6 (some .long) ∈ zT := zTm (zt_8 (List.mem_of_getElem? (i := 85) (by decide +kernel))) rfl
theorem zw_1869 : Cond.code yX12_wash cX12_wash 5 (some .long) ∈ zT := zTm (zt_8 (List.mem_of_getElem? (i := 89) (by decide +kernel))) rfl
theorem zw_1873 : Cond.code yX12_partAt cX12_partAt 4 (some .long) ∈ zT := zTm (zt_8 (List.mem_of_getElem? (i := 93) (by decide +kernel))) rfl
theorem zw_1874 : Cond.methodLink RX12 355 yX12_lookedPart ∈ zT := zTm (zt_8 (List.mem_of_getElem? (i := 94) (by decide +kernel))) rfl
theorem zw_1876 : Cond.instanceMethod yX12_lookedPart ∈ zT := zTm (zt_8 (List.mem_of_getElem? (i := 96) (by decide +kernel))) rfl
theorem zw_1877 : Cond.code yX12_lookedPart cX12_lookedPart 4 (some .int) ∈ zT := zTm (zt_8 (List.mem_of_getElem? (i := 97) (by decide +kernel))) rfl
theorem zw_1881 : Cond.code yX12_amountAt cX12_amountAt 4 (some .long) ∈ zT := zTm (zt_8 (List.mem_of_getElem? (i := 101) (by decide +kernel))) rfl
theorem zw_1885 : Cond.code yX12_room cX12_room 3 (some .long) ∈ zT := zTm (zt_8 (List.mem_of_getElem? (i := 105) (by decide +kernel))) rfl
theorem zw_1886 : Cond.methodLink RX12 358 yX12_inAll ∈ zT := zTm (zt_8 (List.mem_of_getElem? (i := 106) (by decide +kernel))) rfl
theorem zw_1888 : Cond.instanceMethod yX12_inAll ∈ zT := zTm (zt_8 (List.mem_of_getElem? (i := 108) (by decide +kernel))) rfl
theorem zw_1889 : Cond.code yX12_inAll cX12_inAll 5 (some .long) ∈ zT := zTm (zt_8 (List.mem_of_getElem? (i := 109) (by decide +kernel))) rfl
theorem zw_1893 : Cond.code yX12_label cX12_label 1 (some .long) ∈ zT := zTm (zt_8 (List.mem_of_getElem? (i := 113) (by decide +kernel))) rfl
theorem zw_1897 : Cond.code yX12_rule cX12_rule 9 (some .long) ∈ zT := zTm (zt_8 (List.mem_of_getElem? (i := 117) (by decide +kernel))) rfl
theorem zw_1898 : Cond.methodLink RX12 361 yX12_lookedLabel ∈ zT := zTm (zt_8 (List.mem_of_getElem? (i := 118) (by decide +kernel))) rfl
theorem zw_1900 : Cond.instanceMethod yX12_lookedLabel ∈ zT := zTm (zt_8 (List.mem_of_getElem? (i := 120) (by decide +kernel))) rfl
theorem zw_1901 : Cond.code yX12_lookedLabel cX12_lookedLabel 2 (some .int) ∈ zT := zTm (zt_8 (List.mem_of_getElem? (i := 121) (by decide +kernel))) rfl
theorem zw_1905 : Cond.code yX12_judge cX12_judge 5 (some .long) ∈ zT := zTm (zt_8 (List.mem_of_getElem? (i := 125) (by decide +kernel))) rfl
theorem zw_1906 : Cond.methodLink RX12 376 yX12_mixVessel ∈ zT := zTm (zt_8 (List.mem_of_getElem? (i := 126) (by decide +kernel))) rfl
theorem zw_1908 : Cond.instanceMethod yX12_mixVessel ∈ zT := zTm (zt_8 (List.mem_of_getElem? (i := 128) (by decide +kernel))) rfl
theorem zw_1909 : Cond.code yX12_mixVessel cX12_mixVessel 3 none ∈ zT := zTm (zt_8 (List.mem_of_getElem? (i := 129) (by decide +kernel))) rfl
theorem zw_1910 : Cond.methodLink RX12 379 yX12_sharesOfMix ∈ zT := zTm (zt_8 (List.mem_of_getElem? (i := 130) (by decide +kernel))) rfl
theorem zw_1912 : Cond.instanceMethod yX12_sharesOfMix ∈ zT := zTm (zt_8 (List.mem_of_getElem? (i := 132) (by decide +kernel))) rfl
theorem zw_1913 : Cond.code yX12_sharesOfMix cX12_sharesOfMix 7 none ∈ zT := zTm (zt_8 (List.mem_of_getElem? (i := 133) (by decide +kernel))) rfl
theorem zw_1914 : Cond.methodLink RX12 383 yX12_holdsAll ∈ zT := zTm (zt_8 (List.mem_of_getElem? (i := 134) (by decide +kernel))) rfl
theorem zw_1916 : Cond.instanceMethod yX12_holdsAll ∈ zT := zTm (zt_8 (List.mem_of_getElem? (i := 136) (by decide +kernel))) rfl
theorem zw_1917 : Cond.code yX12_holdsAll cX12_holdsAll 4 (some .int) ∈ zT := zTm (zt_8 (List.mem_of_getElem? (i := 137) (by decide +kernel))) rfl
theorem zw_1918 : Cond.methodLink RX12 364 yX12_holds ∈ zT := zTm (zt_8 (List.mem_of_getElem? (i := 138) (by decide +kernel))) rfl
theorem zw_1920 : Cond.instanceMethod yX12_holds ∈ zT := zTm (zt_8 (List.mem_of_getElem? (i := 140) (by decide +kernel))) rfl
theorem zw_1921 : Cond.code yX12_holds cX12_holds 5 (some .int) ∈ zT := zTm (zt_8 (List.mem_of_getElem? (i := 141) (by decide +kernel))) rfl
theorem zw_1922 : Cond.constantLong RX12 371 (100) ∈ zT := zTm (zt_8 (List.mem_of_getElem? (i := 142) (by decide +kernel))) rfl
theorem zw_1926 : Cond.code yX12_plan cX12_plan 12 (some .long) ∈ zT := zTm (zt_8 (List.mem_of_getElem? (i := 146) (by decide +kernel))) rfl
theorem zw_1927 : Cond.constantLong RX12 392 (12) ∈ zT := zTm (zt_8 (List.mem_of_getElem? (i := 147) (by decide +kernel))) rfl
theorem zw_1928 : Cond.methodLink RX12 394 yX12_dear ∈ zT := zTm (zt_8 (List.mem_of_getElem? (i := 148) (by decide +kernel))) rfl
theorem zw_1930 : Cond.instanceMethod yX12_dear ∈ zT := zTm (zt_8 (List.mem_of_getElem? (i := 150) (by decide +kernel))) rfl
theorem zw_1931 : Cond.code yX12_dear cX12_dear 6 (some .long) ∈ zT := zTm (zt_8 (List.mem_of_getElem? (i := 151) (by decide +kernel))) rfl
theorem zw_1932 : Cond.constantLong RX12 245 (2) ∈ zT := zTm (zt_8 (List.mem_of_getElem? (i := 152) (by decide +kernel))) rfl
theorem zw_1933 : Cond.constantLong RX12 398 (-1) ∈ zT := zTm (zt_8 (List.mem_of_getElem? (i := 153) (by decide +kernel))) rfl
theorem zw_1934 : Cond.methodLink RX12 389 yX12_search ∈ zT := zTm (zt_8 (List.mem_of_getElem? (i := 154) (by decide +kernel))) rfl
theorem zw_1936 : Cond.instanceMethod yX12_search ∈ zT := zTm (zt_8 (List.mem_of_getElem? (i := 156) (by decide +kernel))) rfl
theorem zw_1937 : Cond.code yX12_search cX12_search 10 none ∈ zT := zTm (zt_8 (List.mem_of_getElem? (i := 157) (by decide +kernel))) rfl
theorem zw_1941 : Cond.code yX12_undo cX12_undo 1 (some .long) ∈ zT := zTm (zt_8 (List.mem_of_getElem? (i := 161) (by decide +kernel))) rfl
theorem zw_1942 : Cond.methodLink RX12 403 yX12_takeBack ∈ zT := zTm (zt_8 (List.mem_of_getElem? (i := 162) (by decide +kernel))) rfl
theorem zw_1944 : Cond.instanceMethod yX12_takeBack ∈ zT := zTm (zt_8 (List.mem_of_getElem? (i := 164) (by decide +kernel))) rfl
theorem zw_1945 : Cond.code yX12_takeBack cX12_takeBack 3 none ∈ zT := zTm (zt_8 (List.mem_of_getElem? (i := 165) (by decide +kernel))) rfl
theorem zw_1949 : Cond.code yX12_kindOf cX12_kindOf 2 (some .int) ∈ zT := zTm (zt_8 (List.mem_of_getElem? (i := 169) (by decide +kernel))) rfl
theorem zw_1950 : Cond.methodLink RX12 406 yX12_isBarrel ∈ zT := zTm (zt_8 (List.mem_of_getElem? (i := 170) (by decide +kernel))) rfl
theorem zw_1952 : Cond.instanceMethod yX12_isBarrel ∈ zT := zTm (zt_8 (List.mem_of_getElem? (i := 172) (by decide +kernel))) rfl
theorem zw_1953 : Cond.code yX12_isBarrel cX12_isBarrel 2 (some .boolean) ∈ zT := zTm (zt_8 (List.mem_of_getElem? (i := 173) (by decide +kernel))) rfl
theorem zw_1957 : Cond.code yX12_where cX12_where 2 (some .int) ∈ zT := zTm (zt_8 (List.mem_of_getElem? (i := 177) (by decide +kernel))) rfl
theorem zw_1961 : Cond.code yX12_at cX12_at 3 (some .int) ∈ zT := zTm (zt_8 (List.mem_of_getElem? (i := 181) (by decide +kernel))) rfl
theorem zw_1965 : Cond.code yX12_amount cX12_amount 2 (some .long) ∈ zT := zTm (zt_8 (List.mem_of_getElem? (i := 185) (by decide +kernel))) rfl
theorem zw_1969 : Cond.code yX12_part cX12_part 6 (some .long) ∈ zT := zTm (zt_8 (List.mem_of_getElem? (i := 189) (by decide +kernel))) rfl
theorem zw_1970 : Cond.methodLink RX12 409 yX12_ofPart ∈ zT := zTm (zt_8 (List.mem_of_getElem? (i := 190) (by decide +kernel))) rfl
theorem zw_1972 : Cond.instanceMethod yX12_ofPart ∈ zT := zTm (zt_8 (List.mem_of_getElem? (i := 192) (by decide +kernel))) rfl
theorem zw_1973 : Cond.code yX12_ofPart cX12_ofPart 6 (some .long) ∈ zT := zTm (zt_8 (List.mem_of_getElem? (i := 193) (by decide +kernel))) rfl
theorem zw_1975 : Cond.instanceMethod yX12_parts ∈ zT := zTm (zt_8 (List.mem_of_getElem? (i := 195) (by decide +kernel))) rfl
theorem zw_1976 : Cond.selects RX12 yX12_parts yX12_parts ∈ zT := zTm (zt_8 (List.mem_of_getElem? (i := 196) (by decide +kernel))) rfl
theorem zw_1977 : Cond.code yX12_parts cX12_parts 2 (some .int) ∈ zT := zTm (zt_8 (List.mem_of_getElem? (i := 197) (by decide +kernel))) rfl
theorem zw_1981 : Cond.code yX12_account_ cX12_account_ 4 (some .long) ∈ zT := zTm (zt_8 (List.mem_of_getElem? (i := 201) (by decide +kernel))) rfl
theorem zw_1985 : Cond.code yX12_odd cX12_odd 6 (some .int) ∈ zT := zTm (zt_8 (List.mem_of_getElem? (i := 205) (by decide +kernel))) rfl
theorem zw_1989 : Cond.code yX12_strays cX12_strays 7 (some .int) ∈ zT := zTm (zt_8 (List.mem_of_getElem? (i := 209) (by decide +kernel))) rfl
theorem zw_1993 : Cond.code yX12_month cX12_month 1 (some .int) ∈ zT := zTm (zt_8 (List.mem_of_getElem? (i := 213) (by decide +kernel))) rfl
theorem zw_1997 : Cond.code yX12_bottlings cX12_bottlings 1 (some .int) ∈ zT := zTm (zt_8 (List.mem_of_getElem? (i := 217) (by decide +kernel))) rfl
theorem zw_2001 : Cond.code yX12_bottling cX12_bottling 3 (some .long) ∈ zT := zTm (zt_8 (List.mem_of_getElem? (i := 221) (by decide +kernel))) rfl
theorem zw_2005 : Cond.code yX12_entries cX12_entries 1 (some .int) ∈ zT := zTm (zt_8 (List.mem_of_getElem? (i := 225) (by decide +kernel))) rfl
theorem zw_2009 : Cond.code yX12_entry cX12_entry 3 (some .long) ∈ zT := zTm (zt_8 (List.mem_of_getElem? (i := 229) (by decide +kernel))) rfl
theorem zw_2013 : Cond.code yX12_tries cX12_tries 1 (some .int) ∈ zT := zTm (zt_8 (List.mem_of_getElem? (i := 233) (by decide +kernel))) rfl
theorem zw_2017 : Cond.code yX12_closed cX12_closed 1 (some .int) ∈ zT := zTm (zt_8 (List.mem_of_getElem? (i := 237) (by decide +kernel))) rfl
theorem zw_2021 : Cond.code yX12_why cX12_why 1 (some .int) ∈ zT := zTm (zt_9 (List.mem_of_getElem? (i := 1) (by decide +kernel))) rfl
theorem zw_2025 : Cond.code yX12_which cX12_which 1 (some .int) ∈ zT := zTm (zt_9 (List.mem_of_getElem? (i := 5) (by decide +kernel))) rfl
theorem zw_2029 : Cond.code yX12_trace cX12_trace 2 (some .int) ∈ zT := zTm (zt_9 (List.mem_of_getElem? (i := 9) (by decide +kernel))) rfl
theorem zw_2033 : Cond.code yX12_picked cX12_picked 1 (some .int) ∈ zT := zTm (zt_9 (List.mem_of_getElem? (i := 13) (by decide +kernel))) rfl
theorem zw_2037 : Cond.code yX12_planned cX12_planned 2 (some .long) ∈ zT := zTm (zt_9 (List.mem_of_getElem? (i := 17) (by decide +kernel))) rfl
theorem zw_2041 : Cond.code yX12_digest cX12_digest 5 (some .long) ∈ zT := zTm (zt_9 (List.mem_of_getElem? (i := 21) (by decide +kernel))) rfl
theorem zw_2042 : Cond.constantLong RX12 413 (7) ∈ zT := zTm (zt_9 (List.mem_of_getElem? (i := 22) (by decide +kernel))) rfl
theorem zw_2043 : Cond.constantLong RX12 415 (31) ∈ zT := zTm (zt_9 (List.mem_of_getElem? (i := 23) (by decide +kernel))) rfl
theorem zw_2044 : Cond.methodLink RX12 417 yX12_parts ∈ zT := zTm (zt_9 (List.mem_of_getElem? (i := 24) (by decide +kernel))) rfl
theorem zw_2046 : Cond.castable RX0 RX0 ∈ zT := zTm (zt_9 (List.mem_of_getElem? (i := 26) (by decide +kernel))) rfl
theorem zw_2047 : Cond.castable RX3 RX3 ∈ zT := zTm (zt_9 (List.mem_of_getElem? (i := 27) (by decide +kernel))) rfl
