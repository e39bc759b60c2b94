set_option maxRecDepth 100000 in
theorem am_cw_0 : lw_tbl[460]? = some (.code yX0_init cX0_init 1 none) := by rfl
set_option maxRecDepth 100000 in
theorem am_cw_1 : lw_tbl[521]? = some (.code yX0_reset cX0_reset 3 (some .int)) := by rfl
set_option maxRecDepth 100000 in
theorem am_cw_2 : lw_tbl[1110]? = some (.code yX0_climb cX0_climb 9 (some .long)) := by rfl
set_option maxRecDepth 100000 in
theorem am_cw_3 : lw_tbl[1116]? = some (.code yX0_growOneTree cX0_growOneTree 7 (some .long)) := by rfl
set_option maxRecDepth 100000 in
theorem am_cw_4 : lw_tbl[1126]? = some (.code yX0_farFromFirst cX0_farFromFirst 3 (some .long)) := by rfl
set_option maxRecDepth 100000 in
theorem am_cw_5 : lw_tbl[1122]? = some (.code yX0_nearestToFirst cX0_nearestToFirst 6 (some .int)) := by rfl
set_option maxRecDepth 100000 in
theorem am_cw_6 : lw_tbl[1133]? = some (.code yX0_punish cX0_punish 5 none) := by rfl
set_option maxRecDepth 100000 in
theorem am_cw_7 : lw_tbl[425]? = some (.code yX1_init cX1_init 1 none) := by rfl
set_option maxRecDepth 100000 in
theorem am_cw_8 : lw_tbl[967]? = some (.code yX1_useNone cX1_useNone 2 none) := by rfl
set_option maxRecDepth 100000 in
theorem am_cw_9 : lw_tbl[963]? = some (.code yX1_shorten cX1_shorten 6 none) := by rfl
set_option maxRecDepth 100000 in
theorem am_cw_10 : lw_tbl[972]? = some (.code yX1_goNearest cX1_goNearest 6 none) := by rfl
set_option maxRecDepth 100000 in
theorem am_cw_11 : lw_tbl[976]? = some (.code yX1_nearestUnused cX1_nearestUnused 6 (some .int)) := by rfl
set_option maxRecDepth 100000 in
theorem am_cw_12 : lw_tbl[994]? = some (.code yX1_putIn cX1_putIn 5 none) := by rfl
set_option maxRecDepth 100000 in
theorem am_cw_13 : lw_tbl[998]? = some (.code yX1_putCheapest cX1_putCheapest 15 none) := by rfl
set_option maxRecDepth 100000 in
theorem am_cw_14 : lw_tbl[1004]? = some (.code yX1_joinPairs cX1_joinPairs 4 none) := by rfl
set_option maxRecDepth 100000 in
theorem am_cw_15 : lw_tbl[1008]? = some (.code yX1_joinNearest cX1_joinNearest 8 none) := by rfl
set_option maxRecDepth 100000 in
theorem am_cw_16 : lw_tbl[1020]? = some (.code yX1_renamePiece cX1_renamePiece 5 none) := by rfl
set_option maxRecDepth 100000 in
theorem am_cw_17 : lw_tbl[1012]? = some (.code yX1_takePair cX1_takePair 3 none) := by rfl
set_option maxRecDepth 100000 in
theorem am_cw_18 : lw_tbl[1016]? = some (.code yX1_addPartner cX1_addPartner 3 none) := by rfl
set_option maxRecDepth 100000 in
theorem am_cw_19 : lw_tbl[1024]? = some (.code yX1_joinEnds cX1_joinEnds 4 none) := by rfl
set_option maxRecDepth 100000 in
theorem am_cw_20 : lw_tbl[1028]? = some (.code yX1_follow cX1_follow 6 none) := by rfl
set_option maxRecDepth 100000 in
theorem am_cw_21 : lw_tbl[217]? = some (.code yX2_init cX2_init 1 none) := by rfl
set_option maxRecDepth 100000 in
theorem am_cw_22 : lw_tbl[719]? = some (.code yX2_grow cX2_grow 8 (some .long)) := by rfl
set_option maxRecDepth 100000 in
theorem am_cw_23 : lw_tbl[723]? = some (.code yX2_nextBehind cX2_nextBehind 10 (some .int)) := by rfl
set_option maxRecDepth 100000 in
theorem am_cw_24 : lw_tbl[282]? = some (.code yX3_init cX3_init 1 none) := by rfl
set_option maxRecDepth 100000 in
theorem am_cw_25 : lw_tbl[750]? = some (.code yX3_tell cX3_tell 5 none) := by rfl
set_option maxRecDepth 100000 in
theorem am_cw_26 : lw_tbl[755]? = some (.code yX3_solve cX3_solve 5 none) := by rfl
set_option maxRecDepth 100000 in
theorem am_cw_27 : lw_tbl[759]? = some (.code yX3_startOver cX3_startOver 4 none) := by rfl
set_option maxRecDepth 100000 in
theorem am_cw_28 : lw_tbl[763]? = some (.code yX3_leastCost cX3_leastCost 5 (some .long)) := by rfl
set_option maxRecDepth 100000 in
theorem am_cw_29 : lw_tbl[777]? = some (.code yX3_isTop cX3_isTop 2 (some .boolean)) := by rfl
set_option maxRecDepth 100000 in
theorem am_cw_30 : lw_tbl[813]? = some (.code yX3_holds cX3_holds 3 (some .boolean)) := by rfl
set_option maxRecDepth 100000 in
theorem am_cw_31 : lw_tbl[773]? = some (.code yX3_markRoots cX3_markRoots 2 none) := by rfl
set_option maxRecDepth 100000 in
theorem am_cw_32 : lw_tbl[781]? = some (.code yX3_findStep cX3_findStep 2 none) := by rfl
set_option maxRecDepth 100000 in
theorem am_cw_33 : lw_tbl[789]? = some (.code yX3_findStepAt cX3_findStepAt 11 none) := by rfl
set_option maxRecDepth 100000 in
theorem am_cw_34 : lw_tbl[785]? = some (.code yX3_keepStep cX3_keepStep 5 none) := by rfl
set_option maxRecDepth 100000 in
theorem am_cw_35 : lw_tbl[793]? = some (.code yX3_shiftPrices cX3_shiftPrices 2 none) := by rfl
set_option maxRecDepth 100000 in
theorem am_cw_36 : lw_tbl[797]? = some (.code yX3_signOf cX3_signOf 2 (some .int)) := by rfl
set_option maxRecDepth 100000 in
theorem am_cw_37 : lw_tbl[801]? = some (.code yX3_goOn cX3_goOn 2 (some .boolean)) := by rfl
set_option maxRecDepth 100000 in
theorem am_cw_38 : lw_tbl[833]? = some (.code yX3_annex cX3_annex 4 none) := by rfl
set_option maxRecDepth 100000 in
theorem am_cw_39 : lw_tbl[821]? = some (.code yX3_annexIn cX3_annexIn 4 none) := by rfl
set_option maxRecDepth 100000 in
theorem am_cw_40 : lw_tbl[841]? = some (.code yX3_above cX3_above 3 (some .int)) := by rfl
set_option maxRecDepth 100000 in
theorem am_cw_41 : lw_tbl[837]? = some (.code yX3_meetingOf cX3_meetingOf 6 (some .int)) := by rfl
set_option maxRecDepth 100000 in
theorem am_cw_42 : lw_tbl[853]? = some (.code yX3_stepsBelow cX3_stepsBelow 5 (some .int)) := by rfl
set_option maxRecDepth 100000 in
theorem am_cw_43 : lw_tbl[845]? = some (.code yX3_enclose cX3_enclose 9 none) := by rfl
set_option maxRecDepth 100000 in
theorem am_cw_44 : lw_tbl[849]? = some (.code yX3_unusedBlossom cX3_unusedBlossom 2 (some .int)) := by rfl
set_option maxRecDepth 100000 in
theorem am_cw_45 : lw_tbl[817]? = some (.code yX3_putOnTop cX3_putOnTop 3 none) := by rfl
set_option maxRecDepth 100000 in
theorem am_cw_46 : lw_tbl[857]? = some (.code yX3_fillDown cX3_fillDown 8 none) := by rfl
set_option maxRecDepth 100000 in
theorem am_cw_47 : lw_tbl[861]? = some (.code yX3_fillUp cX3_fillUp 8 none) := by rfl
set_option maxRecDepth 100000 in
theorem am_cw_48 : lw_tbl[809]? = some (.code yX3_placeInRing cX3_placeInRing 4 (some .int)) := by rfl
set_option maxRecDepth 100000 in
theorem am_cw_49 : lw_tbl[805]? = some (.code yX3_dissolve cX3_dissolve 6 none) := by rfl
set_option maxRecDepth 100000 in
theorem am_cw_50 : lw_tbl[825]? = some (.code yX3_keepWayBack cX3_keepWayBack 8 none) := by rfl
set_option maxRecDepth 100000 in
theorem am_cw_51 : lw_tbl[829]? = some (.code yX3_keepWayOn cX3_keepWayOn 8 none) := by rfl
set_option maxRecDepth 100000 in
theorem am_cw_52 : lw_tbl[865]? = some (.code yX3_flipWay cX3_flipWay 9 none) := by rfl
set_option maxRecDepth 100000 in
theorem am_cw_53 : lw_tbl[869]? = some (.code yX3_moveBase cX3_moveBase 11 none) := by rfl
set_option maxRecDepth 100000 in
theorem am_cw_54 : lw_tbl[873]? = some (.code yX3_provenSum cX3_provenSum 5 (some .long)) := by rfl
set_option maxRecDepth 100000 in
theorem am_cw_55 : lw_tbl[877]? = some (.code yX3_pricesAround cX3_pricesAround 6 (some .long)) := by rfl
set_option maxRecDepth 100000 in
theorem am_cw_56 : lw_tbl[177]? = some (.code yX4_init cX4_init 1 none) := by rfl
set_option maxRecDepth 100000 in
theorem am_cw_57 : lw_tbl[510]? = some (.code yX4_reset cX4_reset 3 none) := by rfl
set_option maxRecDepth 100000 in
theorem am_cw_58 : lw_tbl[636]? = some (.code yX4_tell cX4_tell 4 none) := by rfl
set_option maxRecDepth 100000 in
theorem am_cw_59 : lw_tbl[644]? = some (.code yX4_grow cX4_grow 3 none) := by rfl
set_option maxRecDepth 100000 in
theorem am_cw_60 : lw_tbl[656]? = some (.code yX4_remove cX4_remove 3 none) := by rfl
set_option maxRecDepth 100000 in
theorem am_cw_61 : lw_tbl[616]? = some (.code yX4_take cX4_take 5 none) := by rfl
set_option maxRecDepth 100000 in
theorem am_cw_62 : lw_tbl[622]? = some (.code yX4_takeBelow cX4_takeBelow 6 none) := by rfl
set_option maxRecDepth 100000 in
theorem am_cw_63 : lw_tbl[625]? = some (.code yX4_apart cX4_apart 7 (some .int)) := by rfl
set_option maxRecDepth 100000 in
theorem am_cw_64 : lw_tbl[631]? = some (.code yX4_leastRoot cX4_leastRoot 11 (some .long)) := by rfl
set_option maxRecDepth 100000 in
theorem am_cw_65 : lw_tbl[705]? = some (.code yX4_isSound cX4_isSound 1 (some .boolean)) := by rfl
set_option maxRecDepth 100000 in
theorem am_cw_66 : lw_tbl[677]? = some (.code yX4_flawPart cX4_flawPart 2 (some .int)) := by rfl
set_option maxRecDepth 100000 in
theorem am_cw_67 : lw_tbl[681]? = some (.code yX4_keepFlaw cX4_keepFlaw 5 (some .boolean)) := by rfl
set_option maxRecDepth 100000 in
theorem am_cw_68 : lw_tbl[685]? = some (.code yX4_seeOwn cX4_seeOwn 2 (some .boolean)) := by rfl
set_option maxRecDepth 100000 in
theorem am_cw_69 : lw_tbl[689]? = some (.code yX4_seeUneven cX4_seeUneven 3 (some .boolean)) := by rfl
set_option maxRecDepth 100000 in
theorem am_cw_70 : lw_tbl[693]? = some (.code yX4_seeDetour cX4_seeDetour 4 (some .boolean)) := by rfl
set_option maxRecDepth 100000 in
theorem am_cw_71 : lw_tbl[697]? = some (.code yX4_endOfDetour cX4_endOfDetour 8 (some .int)) := by rfl
set_option maxRecDepth 100000 in
theorem am_cw_72 : lw_tbl[276]? = some (.code yX5_init cX5_init 1 none) := by rfl
set_option maxRecDepth 100000 in
theorem am_cw_73 : lw_tbl[736]? = some (.code yX5_make cX5_make 4 none) := by rfl
set_option maxRecDepth 100000 in
theorem am_cw_74 : lw_tbl[742]? = some (.code yX5_tellCosts cX5_tellCosts 9 none) := by rfl
set_option maxRecDepth 100000 in
theorem am_cw_75 : lw_tbl[888]? = some (.code yX5_settleFirst cX5_settleFirst 4 none) := by rfl
set_option maxRecDepth 100000 in
theorem am_cw_76 : lw_tbl[892]? = some (.code yX5_sumOfPairs cX5_sumOfPairs 5 (some .long)) := by rfl
set_option maxRecDepth 100000 in
theorem am_cw_77 : lw_tbl[444]? = some (.code yX6_init cX6_init 1 none) := by rfl
set_option maxRecDepth 100000 in
theorem am_cw_78 : lw_tbl[1092]? = some (.code yX6_findLeast cX6_findLeast 7 none) := by rfl
set_option maxRecDepth 100000 in
theorem am_cw_79 : lw_tbl[1096]? = some (.code yX6_fill cX6_fill 4 none) := by rfl
set_option maxRecDepth 100000 in
theorem am_cw_80 : lw_tbl[1100]? = some (.code yX6_leastHome cX6_leastHome 8 (some .long)) := by rfl
set_option maxRecDepth 100000 in
theorem am_cw_81 : lw_tbl[139]? = some (.code yX7_init cX7_init 1 none) := by rfl
set_option maxRecDepth 100000 in
theorem am_cw_82 : lw_tbl[529]? = some (.code yX7_append cX7_append 5 (some .int)) := by rfl
set_option maxRecDepth 100000 in
theorem am_cw_83 : lw_tbl[560]? = some (.code yX7_wipe cX7_wipe 2 (some .int)) := by rfl
set_option maxRecDepth 100000 in
theorem am_cw_84 : lw_tbl[535]? = some (.code yX7_byteOf cX7_byteOf 3 (some .int)) := by rfl
set_option maxRecDepth 100000 in
theorem am_cw_85 : lw_tbl[532]? = some (.code yX7_areSigns cX7_areSigns 5 (some .boolean)) := by rfl
set_option maxRecDepth 100000 in
theorem am_cw_86 : lw_tbl[568]? = some (.code yX7_parse cX7_parse 1 (some .int)) := by rfl
set_option maxRecDepth 100000 in
theorem am_cw_87 : lw_tbl[580]? = some (.code yX7_here cX7_here 1 (some .int)) := by rfl
set_option maxRecDepth 100000 in
theorem am_cw_88 : lw_tbl[589]? = some (.code yX7_atDigit cX7_atDigit 2 (some .boolean)) := by rfl
set_option maxRecDepth 100000 in
theorem am_cw_89 : lw_tbl[576]? = some (.code yX7_skipSpaces cX7_skipSpaces 1 none) := by rfl
set_option maxRecDepth 100000 in
theorem am_cw_90 : lw_tbl[572]? = some (.code yX7_takeForm cX7_takeForm 1 none) := by rfl
set_option maxRecDepth 100000 in
theorem am_cw_91 : lw_tbl[594]? = some (.code yX7_takeSign cX7_takeSign 2 none) := by rfl
set_option maxRecDepth 100000 in
theorem am_cw_92 : lw_tbl[585]? = some (.code yX7_takeNumber cX7_takeNumber 8 (some .int)) := by rfl
set_option maxRecDepth 100000 in
theorem am_cw_93 : lw_tbl[598]? = some (.code yX7_takeRows cX7_takeRows 4 none) := by rfl
set_option maxRecDepth 100000 in
theorem am_cw_94 : lw_tbl[612]? = some (.code yX7_takeEnd cX7_takeEnd 1 none) := by rfl
set_option maxRecDepth 100000 in
theorem am_cw_95 : lw_tbl[606]? = some (.code yX7_isMatrix cX7_isMatrix 1 (some .boolean)) := by rfl
set_option maxRecDepth 100000 in
theorem am_cw_96 : lw_tbl[602]? = some (.code yX7_widthOf cX7_widthOf 2 (some .int)) := by rfl
set_option maxRecDepth 100000 in
theorem am_cw_97 : lw_tbl[403]? = some (.code yX8_init cX8_init 1 none) := by rfl
set_option maxRecDepth 100000 in
theorem am_cw_98 : lw_tbl[959]? = some (.code yX8_start cX8_start 2 none) := by rfl
set_option maxRecDepth 100000 in
theorem am_cw_99 : lw_tbl[980]? = some (.code yX8_turnToFront cX8_turnToFront 1 none) := by rfl
set_option maxRecDepth 100000 in
theorem am_cw_100 : lw_tbl[984]? = some (.code yX8_placeOf cX8_placeOf 3 (some .int)) := by rfl
set_option maxRecDepth 100000 in
theorem am_cw_101 : lw_tbl[1033]? = some (.code yX8_measure cX8_measure 5 (some .long)) := by rfl
set_option maxRecDepth 100000 in
theorem am_cw_102 : lw_tbl[1058]? = some (.code yX8_improve cX8_improve 5 (some .int)) := by rfl
set_option maxRecDepth 100000 in
theorem am_cw_103 : lw_tbl[1037]? = some (.code yX8_stopAt cX8_stopAt 2 (some .int)) := by rfl
set_option maxRecDepth 100000 in
theorem am_cw_104 : lw_tbl[1062]? = some (.code yX8_turnOnce cX8_turnOnce 4 (some .boolean)) := by rfl
set_option maxRecDepth 100000 in
theorem am_cw_105 : lw_tbl[1066]? = some (.code yX8_turnPays cX8_turnPays 10 (some .boolean)) := by rfl
set_option maxRecDepth 100000 in
theorem am_cw_106 : lw_tbl[1071]? = some (.code yX8_moveOnce cX8_moveOnce 4 (some .boolean)) := by rfl
set_option maxRecDepth 100000 in
theorem am_cw_107 : lw_tbl[1075]? = some (.code yX8_moveSome cX8_moveSome 15 (some .boolean)) := by rfl
set_option maxRecDepth 100000 in
theorem am_cw_108 : lw_tbl[1079]? = some (.code yX8_stopWithout cX8_stopWithout 4 (some .int)) := by rfl
set_option maxRecDepth 100000 in
theorem am_cw_109 : lw_tbl[1083]? = some (.code yX8_putBehind cX8_putBehind 4 none) := by rfl
set_option maxRecDepth 100000 in
theorem am_cw_110 : lw_tbl[211]? = some (.code yX9_init cX9_init 1 none) := by rfl
set_option maxRecDepth 100000 in
theorem am_cw_111 : lw_tbl[715]? = some (.code yX9_make cX9_make 2 none) := by rfl
set_option maxRecDepth 100000 in
theorem am_cw_112 : lw_tbl[727]? = some (.code yX9_gatherBelow cX9_gatherBelow 4 none) := by rfl
set_option maxRecDepth 100000 in
theorem am_cw_113 : lw_tbl[731]? = some (.code yX9_gatherOdds cX9_gatherOdds 3 none) := by rfl
set_option maxRecDepth 100000 in
theorem am_cw_114 : lw_tbl[921]? = some (.code yX9_leastAcross cX9_leastAcross 9 (some .int)) := by rfl
set_option maxRecDepth 100000 in
theorem am_cw_115 : lw_tbl[377]? = some (.code yX10_init cX10_init 1 none) := by rfl
set_option maxRecDepth 100000 in
theorem am_cw_116 : lw_tbl[896]? = some (.code yX10_make cX10_make 8 none) := by rfl
set_option maxRecDepth 100000 in
theorem am_cw_117 : lw_tbl[949]? = some (.code yX10_cornerAt cX10_cornerAt 2 (some .int)) := by rfl
set_option maxRecDepth 100000 in
theorem am_cw_118 : lw_tbl[900]? = some (.code yX10_openWays cX10_openWays 5 none) := by rfl
set_option maxRecDepth 100000 in
theorem am_cw_119 : lw_tbl[905]? = some (.code yX10_openWay cX10_openWay 3 none) := by rfl
set_option maxRecDepth 100000 in
theorem am_cw_120 : lw_tbl[909]? = some (.code yX10_leastOpen cX10_leastOpen 4 (some .int)) := by rfl
set_option maxRecDepth 100000 in
theorem am_cw_121 : lw_tbl[131]? = some (.code yX11_init cX11_init 1 none) := by rfl
set_option maxRecDepth 100000 in
theorem am_cw_122 : lw_tbl[506]? = some (.code yX11_begin cX11_begin 2 (some .int)) := by rfl
set_option maxRecDepth 100000 in
theorem am_cw_123 : lw_tbl[525]? = some (.code yX11_type cX11_type 4 (some .int)) := by rfl
set_option maxRecDepth 100000 in
theorem am_cw_124 : lw_tbl[556]? = some (.code yX11_clear cX11_clear 1 (some .int)) := by rfl
set_option maxRecDepth 100000 in
theorem am_cw_125 : lw_tbl[564]? = some (.code yX11_read cX11_read 2 (some .int)) := by rfl
set_option maxRecDepth 100000 in
theorem am_cw_126 : lw_tbl[640]? = some (.code yX11_add cX11_add 1 (some .int)) := by rfl
set_option maxRecDepth 100000 in
theorem am_cw_127 : lw_tbl[648]? = some (.code yX11_drop cX11_drop 2 (some .int)) := by rfl
set_option maxRecDepth 100000 in
theorem am_cw_128 : lw_tbl[660]? = some (.code yX11_set cX11_set 6 (some .int)) := by rfl
set_option maxRecDepth 100000 in
theorem am_cw_129 : lw_tbl[665]? = some (.code yX11_distance cX11_distance 3 (some .int)) := by rfl
set_option maxRecDepth 100000 in
theorem am_cw_130 : lw_tbl[669]? = some (.code yX11_cities cX11_cities 1 (some .int)) := by rfl
set_option maxRecDepth 100000 in
theorem am_cw_131 : lw_tbl[673]? = some (.code yX11_flaw cX11_flaw 2 (some .int)) := by rfl
set_option maxRecDepth 100000 in
theorem am_cw_132 : lw_tbl[701]? = some (.code yX11_tree cX11_tree 1 (some .long)) := by rfl
set_option maxRecDepth 100000 in
theorem am_cw_133 : lw_tbl[913]? = some (.code yX11_hung cX11_hung 2 (some .int)) := by rfl
set_option maxRecDepth 100000 in
theorem am_cw_134 : lw_tbl[917]? = some (.code yX11_cut cX11_cut 2 (some .int)) := by rfl
set_option maxRecDepth 100000 in
theorem am_cw_135 : lw_tbl[925]? = some (.code yX11_odd cX11_odd 2 (some .int)) := by rfl
set_option maxRecDepth 100000 in
theorem am_cw_136 : lw_tbl[929]? = some (.code yX11_match cX11_match 1 (some .long)) := by rfl
set_option maxRecDepth 100000 in
theorem am_cw_137 : lw_tbl[933]? = some (.code yX11_partner cX11_partner 2 (some .int)) := by rfl
set_option maxRecDepth 100000 in
theorem am_cw_138 : lw_tbl[937]? = some (.code yX11_prices cX11_prices 1 (some .long)) := by rfl
set_option maxRecDepth 100000 in
theorem am_cw_139 : lw_tbl[941]? = some (.code yX11_round cX11_round 1 (some .int)) := by rfl
set_option maxRecDepth 100000 in
theorem am_cw_140 : lw_tbl[945]? = some (.code yX11_corner cX11_corner 2 (some .int)) := by rfl
set_option maxRecDepth 100000 in
theorem am_cw_141 : lw_tbl[953]? = some (.code yX11_build cX11_build 3 (some .long)) := by rfl
set_option maxRecDepth 100000 in
theorem am_cw_142 : lw_tbl[1041]? = some (.code yX11_stop cX11_stop 2 (some .int)) := by rfl
set_option maxRecDepth 100000 in
theorem am_cw_143 : lw_tbl[1045]? = some (.code yX11_place cX11_place 2 (some .int)) := by rfl
set_option maxRecDepth 100000 in
theorem am_cw_144 : lw_tbl[1050]? = some (.code yX11_length cX11_length 1 (some .long)) := by rfl
set_option maxRecDepth 100000 in
theorem am_cw_145 : lw_tbl[1054]? = some (.code yX11_better cX11_better 3 (some .int)) := by rfl
set_option maxRecDepth 100000 in
theorem am_cw_146 : lw_tbl[1087]? = some (.code yX11_best cX11_best 1 (some .long)) := by rfl
set_option maxRecDepth 100000 in
theorem am_cw_147 : lw_tbl[1105]? = some (.code yX11_bound cX11_bound 3 (some .long)) := by rfl
set_option maxRecDepth 100000 in
theorem am_cw_148 : lw_tbl[1137]? = some (.code yX11_penalty cX11_penalty 2 (some .long)) := by rfl
set_option maxRecDepth 100000 in
theorem am_cw_149 : lw_tbl[1141]? = some (.code yX11_forgive cX11_forgive 1 (some .int)) := by rfl
set_option maxRecDepth 100000 in
theorem am_cw_150 : lw_tbl[652]? = some (.code yX11_isCity cX11_isCity 2 (some .boolean)) := by rfl
set_option maxRecDepth 100000 in
theorem am_cw_151 : lw_tbl[517]? = some (.code yX11_forgetMade cX11_forgetMade 1 none) := by rfl
set_option maxRecDepth 100000 in
theorem am_cw_152 : lw_tbl[711]? = some (.code yX11_need cX11_need 2 none) := by rfl
set_option maxRecDepth 100000 in
theorem am_cw_153 : lw_tbl[990]? = some (.code yX11_turnAround cX11_turnAround 6 none) := by rfl
set_option maxRecDepth 100000 in
theorem am_cw_154 : lw_tbl[987]? = some (.code yX11_shiftRound cX11_shiftRound 4 none) := by rfl
set_option maxRecDepth 100000 in
theorem am_cw_155 : lw_tbl[1146]? = some (.code yX12_init cX12_init 1 none) := by rfl
set_option maxRecDepth 100000 in
theorem am_cw_156 : lw_tbl[1352]? = some (.code yX12_isCity cX12_isCity 2 (some .boolean)) := by rfl
set_option maxRecDepth 100000 in
theorem am_cw_157 : lw_tbl[1280]? = some (.code yX12_within cX12_within 6 (some .boolean)) := by rfl
set_option maxRecDepth 100000 in
theorem am_cw_158 : lw_tbl[1356]? = some (.code yX12_far cX12_far 3 (some .int)) := by rfl
set_option maxRecDepth 100000 in
theorem am_cw_159 : lw_tbl[1284]? = some (.code yX12_change cX12_change 2 none) := by rfl
set_option maxRecDepth 100000 in
theorem am_cw_160 : lw_tbl[1276]? = some (.code yX12_begin cX12_begin 3 (some .int)) := by rfl
set_option maxRecDepth 100000 in
theorem am_cw_161 : lw_tbl[1288]? = some (.code yX12_type cX12_type 6 (some .int)) := by rfl
set_option maxRecDepth 100000 in
theorem am_cw_162 : lw_tbl[1296]? = some (.code yX12_clear cX12_clear 2 (some .int)) := by rfl
set_option maxRecDepth 100000 in
theorem am_cw_163 : lw_tbl[1308]? = some (.code yX12_look cX12_look 1 (some .int)) := by rfl
set_option maxRecDepth 100000 in
theorem am_cw_164 : lw_tbl[1318]? = some (.code yX12_take cX12_take 2 none) := by rfl
set_option maxRecDepth 100000 in
theorem am_cw_165 : lw_tbl[1312]? = some (.code yX12_number cX12_number 9 (some .long)) := by rfl
set_option maxRecDepth 100000 in
theorem am_cw_166 : lw_tbl[1327]? = some (.code yX12_setBoth cX12_setBoth 5 none) := by rfl
set_option maxRecDepth 100000 in
theorem am_cw_167 : lw_tbl[1322]? = some (.code yX12_readRows cX12_readRows 8 none) := by rfl
set_option maxRecDepth 100000 in
theorem am_cw_168 : lw_tbl[1335]? = some (.code yX12_size cX12_size 2 (some .long)) := by rfl
set_option maxRecDepth 100000 in
theorem am_cw_169 : lw_tbl[1338]? = some (.code yX12_root cX12_root 8 (some .long)) := by rfl
set_option maxRecDepth 100000 in
theorem am_cw_170 : lw_tbl[1331]? = some (.code yX12_readPoints cX12_readPoints 8 none) := by rfl
set_option maxRecDepth 100000 in
theorem am_cw_171 : lw_tbl[1304]? = some (.code yX12_readAll cX12_readAll 5 none) := by rfl
set_option maxRecDepth 100000 in
theorem am_cw_172 : lw_tbl[1300]? = some (.code yX12_read cX12_read 2 (some .int)) := by rfl
set_option maxRecDepth 100000 in
theorem am_cw_173 : lw_tbl[1344]? = some (.code yX12_add cX12_add 2 (some .int)) := by rfl
set_option maxRecDepth 100000 in
theorem am_cw_174 : lw_tbl[1348]? = some (.code yX12_drop cX12_drop 4 (some .int)) := by rfl
set_option maxRecDepth 100000 in
theorem am_cw_175 : lw_tbl[1360]? = some (.code yX12_set cX12_set 6 (some .int)) := by rfl
set_option maxRecDepth 100000 in
theorem am_cw_176 : lw_tbl[1364]? = some (.code yX12_distance cX12_distance 3 (some .int)) := by rfl
set_option maxRecDepth 100000 in
theorem am_cw_177 : lw_tbl[1368]? = some (.code yX12_cities cX12_cities 1 (some .int)) := by rfl
set_option maxRecDepth 100000 in
theorem am_cw_178 : lw_tbl[1381]? = some (.code yX12_flawIs cX12_flawIs 5 none) := by rfl
set_option maxRecDepth 100000 in
theorem am_cw_179 : lw_tbl[1377]? = some (.code yX12_findFlaw cX12_findFlaw 4 none) := by rfl
set_option maxRecDepth 100000 in
theorem am_cw_180 : lw_tbl[1372]? = some (.code yX12_flaw cX12_flaw 2 (some .int)) := by rfl
set_option maxRecDepth 100000 in
theorem am_cw_181 : lw_tbl[1389]? = some (.code yX12_isSound cX12_isSound 1 (some .boolean)) := by rfl
set_option maxRecDepth 100000 in
theorem am_cw_182 : lw_tbl[1402]? = some (.code yX12_far_ cX12_far_ 4 (some .long)) := by rfl
set_option maxRecDepth 100000 in
theorem am_cw_183 : lw_tbl[1398]? = some (.code yX12_grow cX12_grow 10 (some .long)) := by rfl
set_option maxRecDepth 100000 in
theorem am_cw_184 : lw_tbl[1394]? = some (.code yX12_makeTree cX12_makeTree 2 none) := by rfl
set_option maxRecDepth 100000 in
theorem am_cw_185 : lw_tbl[1385]? = some (.code yX12_tree cX12_tree 1 (some .long)) := by rfl
set_option maxRecDepth 100000 in
theorem am_cw_186 : lw_tbl[1406]? = some (.code yX12_hung cX12_hung 2 (some .int)) := by rfl
set_option maxRecDepth 100000 in
theorem am_cw_187 : lw_tbl[1414]? = some (.code yX12_hangs cX12_hangs 4 (some .boolean)) := by rfl
set_option maxRecDepth 100000 in
theorem am_cw_188 : lw_tbl[1410]? = some (.code yX12_cut cX12_cut 6 (some .int)) := by rfl
set_option maxRecDepth 100000 in
theorem am_cw_189 : lw_tbl[1418]? = some (.code yX12_odd cX12_odd 2 (some .int)) := by rfl
set_option maxRecDepth 100000 in
theorem am_cw_190 : lw_tbl[1426]? = some (.code yX12_makeMatching cX12_makeMatching 9 none) := by rfl
set_option maxRecDepth 100000 in
theorem am_cw_191 : lw_tbl[1422]? = some (.code yX12_match cX12_match 1 (some .long)) := by rfl
set_option maxRecDepth 100000 in
theorem am_cw_192 : lw_tbl[1431]? = some (.code yX12_partner cX12_partner 2 (some .int)) := by rfl
set_option maxRecDepth 100000 in
theorem am_cw_193 : lw_tbl[1435]? = some (.code yX12_prices cX12_prices 1 (some .long)) := by rfl
set_option maxRecDepth 100000 in
theorem am_cw_194 : lw_tbl[1447]? = some (.code yX12_link cX12_link 4 none) := by rfl
set_option maxRecDepth 100000 in
theorem am_cw_195 : lw_tbl[1443]? = some (.code yX12_makeRound cX12_makeRound 5 none) := by rfl
set_option maxRecDepth 100000 in
theorem am_cw_196 : lw_tbl[1439]? = some (.code yX12_round cX12_round 1 (some .int)) := by rfl
set_option maxRecDepth 100000 in
theorem am_cw_197 : lw_tbl[1451]? = some (.code yX12_corner cX12_corner 2 (some .int)) := by rfl
set_option maxRecDepth 100000 in
theorem am_cw_198 : lw_tbl[1481]? = some (.code yX12_lengthOf cX12_lengthOf 5 (some .long)) := by rfl
set_option maxRecDepth 100000 in
theorem am_cw_199 : lw_tbl[1461]? = some (.code yX12_byRound cX12_byRound 3 none) := by rfl
set_option maxRecDepth 100000 in
theorem am_cw_200 : lw_tbl[1465]? = some (.code yX12_byNearest cX12_byNearest 5 none) := by rfl
set_option maxRecDepth 100000 in
theorem am_cw_201 : lw_tbl[1469]? = some (.code yX12_byGrowing cX12_byGrowing 13 none) := by rfl
set_option maxRecDepth 100000 in
theorem am_cw_202 : lw_tbl[1473]? = some (.code yX12_byPairs cX12_byPairs 8 none) := by rfl
set_option maxRecDepth 100000 in
theorem am_cw_203 : lw_tbl[1477]? = some (.code yX12_turnToZero cX12_turnToZero 3 none) := by rfl
set_option maxRecDepth 100000 in
theorem am_cw_204 : lw_tbl[1455]? = some (.code yX12_build cX12_build 3 (some .long)) := by rfl
set_option maxRecDepth 100000 in
theorem am_cw_205 : lw_tbl[1485]? = some (.code yX12_stop cX12_stop 2 (some .int)) := by rfl
set_option maxRecDepth 100000 in
theorem am_cw_206 : lw_tbl[1489]? = some (.code yX12_place cX12_place 3 (some .int)) := by rfl
set_option maxRecDepth 100000 in
theorem am_cw_207 : lw_tbl[1493]? = some (.code yX12_length cX12_length 1 (some .long)) := by rfl
set_option maxRecDepth 100000 in
theorem am_cw_208 : lw_tbl[1506]? = some (.code yX12_takesOther cX12_takesOther 4 (some .boolean)) := by rfl
set_option maxRecDepth 100000 in
theorem am_cw_209 : lw_tbl[1502]? = some (.code yX12_turns cX12_turns 6 (some .boolean)) := by rfl
set_option maxRecDepth 100000 in
theorem am_cw_210 : lw_tbl[1514]? = some (.code yX12_move cX12_move 10 (some .boolean)) := by rfl
set_option maxRecDepth 100000 in
theorem am_cw_211 : lw_tbl[1510]? = some (.code yX12_moves cX12_moves 6 (some .boolean)) := by rfl
set_option maxRecDepth 100000 in
theorem am_cw_212 : lw_tbl[1497]? = some (.code yX12_better cX12_better 7 (some .int)) := by rfl
set_option maxRecDepth 100000 in
theorem am_cw_213 : lw_tbl[1518]? = some (.code yX12_best cX12_best 8 (some .long)) := by rfl
set_option maxRecDepth 100000 in
theorem am_cw_214 : lw_tbl[1528]? = some (.code yX12_oneTree cX12_oneTree 7 (some .long)) := by rfl
set_option maxRecDepth 100000 in
theorem am_cw_215 : lw_tbl[1523]? = some (.code yX12_bound cX12_bound 10 (some .long)) := by rfl
set_option maxRecDepth 100000 in
theorem am_cw_216 : lw_tbl[1532]? = some (.code yX12_penalty cX12_penalty 2 (some .long)) := by rfl
set_option maxRecDepth 100000 in
theorem am_cw_217 : lw_tbl[1536]? = some (.code yX12_forgive cX12_forgive 3 (some .int)) := by rfl
set_option maxRecDepth 100000 in
theorem am_cw_218 : lw_tbl[881]? = some (.code yJ6_bitCount_0f7a4 cJ6_bitCount_0f7a4 1 (some .int)) := by rfl
set_option maxRecDepth 100000 in
theorem am_cw_219 : lw_tbl[628]? = some (.code yJ9_abs_0f7a4 cJ9_abs_0f7a4 1 (some .int)) := by rfl
set_option maxRecDepth 100000 in
theorem am_cw_220 : lw_tbl[1129]? = some (.code yJ9_max_f86c9 cJ9_max_f86c9 4 (some .long)) := by rfl
set_option maxRecDepth 100000 in
theorem am_cw_221 : lw_tbl[538]? = some (.code yJ9_min_7cf53 cJ9_min_7cf53 2 (some .int)) := by rfl
set_option maxRecDepth 100000 in
theorem am_cw_222 : lw_tbl[767]? = some (.code yJ9_min_f86c9 cJ9_min_f86c9 4 (some .long)) := by rfl
set_option maxRecDepth 100000 in
theorem am_cw_223 : lw_tbl[745]? = some (.code yJ7_fill_d0a16 cJ7_fill_d0a16 5 none) := by rfl
set_option maxRecDepth 100000 in
theorem am_cw_224 : lw_tbl[513]? = some (.code yJ7_fill_53178 cJ7_fill_53178 4 none) := by rfl
set_option maxRecDepth 100000 in
theorem am_cw_225 : lw_tbl[541]? = some (.code yJ7_copyOf_9075b cJ7_copyOf_9075b 3 (some (.array .byte))) := by rfl
theorem am_cwg_0 : ∀ (j : Nat) (q : am_M), 0 ≤ j → j < 20 → am_meth[j]? = some q → Jvm.Cond.code q.1 q.2.1 q.2.2.1 q.2.2.2 ∈ lw_tbl ∧ goodWord (.code q.1 q.2.1 q.2.2.1 q.2.2.2) = true := by
  intro j q h1 h2 hq
  rcases (show j = 0 ∨ j = 1 ∨ j = 2 ∨ j = 3 ∨ j = 4 ∨ j = 5 ∨ j = 6 ∨ j = 7 ∨ j = 8 ∨ j = 9 ∨ j = 10 ∨ j = 11 ∨ j = 12 ∨ j = 13 ∨ j = 14 ∨ j = 15 ∨ j = 16 ∨ j = 17 ∨ j = 18 ∨ j = 19 by omega) with rfl | rfl | rfl | rfl | rfl | rfl | rfl | rfl | rfl | rfl | rfl | rfl | rfl | rfl | rfl | rfl | rfl | rfl | rfl | rfl
  · cases hq; exact ⟨List.mem_of_getElem? am_cw_0, rfl⟩
  · cases hq; exact ⟨List.mem_of_getElem? am_cw_1, rfl⟩
  · cases hq; exact ⟨List.mem_of_getElem? am_cw_2, rfl⟩
  · cases hq; exact ⟨List.mem_of_getElem? am_cw_3, rfl⟩
  · cases hq; exact ⟨List.mem_of_getElem? am_cw_4, rfl⟩
  · cases hq; exact ⟨List.mem_of_getElem? am_cw_5, rfl⟩
  · cases hq; exact ⟨List.mem_of_getElem? am_cw_6, rfl⟩
  · cases hq; exact ⟨List.mem_of_getElem? am_cw_7, rfl⟩
  · cases hq; exact ⟨List.mem_of_getElem? am_cw_8, rfl⟩
  · cases hq; exact ⟨List.mem_of_getElem? am_cw_9, rfl⟩
  · cases hq; exact ⟨List.mem_of_getElem? am_cw_10, rfl⟩
  · cases hq; exact ⟨List.mem_of_getElem? am_cw_11, rfl⟩
  · cases hq; exact ⟨List.mem_of_getElem? am_cw_12, rfl⟩
  · cases hq; exact ⟨List.mem_of_getElem? am_cw_13, rfl⟩
  · cases hq; exact ⟨List.mem_of_getElem? am_cw_14, rfl⟩
  · cases hq; exact ⟨List.mem_of_getElem? am_cw_15, rfl⟩
  · cases hq; exact ⟨List.mem_of_getElem? am_cw_16, rfl⟩
  · cases hq; exact ⟨List.mem_of_getElem? am_cw_17, rfl⟩
  · cases hq; exact ⟨List.mem_of_getElem? am_cw_18, rfl⟩
  · cases hq; exact ⟨List.mem_of_getElem? am_cw_19, rfl⟩
theorem am_cwg_1 : ∀ (j : Nat) (q : am_M), 20 ≤ j → j < 40 → am_meth[j]? = some q → Jvm.Cond.code q.1 q.2.1 q.2.2.1 q.2.2.2 ∈ lw_tbl ∧ goodWord (.code q.1 q.2.1 q.2.2.1 q.2.2.2) = true := by
  intro j q h1 h2 hq
  rcases (show j = 20 ∨ j = 21 ∨ j = 22 ∨ j = 23 ∨ j = 24 ∨ j = 25 ∨ j = 26 ∨ j = 27 ∨ j = 28 ∨ j = 29 ∨ j = 30 ∨ j = 31 ∨ j = 32 ∨ j = 33 ∨ j = 34 ∨ j = 35 ∨ j = 36 ∨ j = 37 ∨ j = 38 ∨ j = 39 by omega) with rfl | rfl | rfl | rfl | rfl | rfl | rfl | rfl | rfl | rfl | rfl | rfl | rfl | rfl | rfl | rfl | rfl | rfl | rfl | rfl
  · cases hq; exact ⟨List.mem_of_getElem? am_cw_20, rfl⟩
  · cases hq; exact ⟨List.mem_of_getElem? am_cw_21, rfl⟩
  · cases hq; exact ⟨List.mem_of_getElem? am_cw_22, rfl⟩
  · cases hq; exact ⟨List.mem_of_getElem? am_cw_23, rfl⟩
  · cases hq; exact ⟨List.mem_of_getElem? am_cw_24, rfl⟩
  · cases hq; exact ⟨List.mem_of_getElem? am_cw_25, rfl⟩
  · cases hq; exact ⟨List.mem_of_getElem? am_cw_26, rfl⟩
  · cases hq; exact ⟨List.mem_of_getElem? am_cw_27, rfl⟩
  · cases hq; exact ⟨List.mem_of_getElem? am_cw_28, rfl⟩
  · cases hq; exact ⟨List.mem_of_getElem? am_cw_29, rfl⟩
  · cases hq; exact ⟨List.mem_of_getElem? am_cw_30, rfl⟩
  · cases hq; exact ⟨List.mem_of_getElem? am_cw_31, rfl⟩
  · cases hq; exact ⟨List.mem_of_getElem? am_cw_32, rfl⟩
  · cases hq; exact ⟨List.mem_of_getElem? am_cw_33, rfl⟩
  · cases hq; exact ⟨List.mem_of_getElem? am_cw_34, rfl⟩
  · cases hq; exact ⟨List.mem_of_getElem? am_cw_35, rfl⟩
  · cases hq; exact ⟨List.mem_of_getElem? am_cw_36, rfl⟩
  · cases hq; exact ⟨List.mem_of_getElem? am_cw_37, rfl⟩
  · cases hq; exact ⟨List.mem_of_getElem? am_cw_38, rfl⟩
  · cases hq; exact ⟨List.mem_of_getElem? am_cw_39, rfl⟩
theorem am_cwg_2 : ∀ (j : Nat) (q : am_M), 40 ≤ j → j < 60 → am_meth[j]? = some q → Jvm.Cond.code q.1 q.2.1 q.2.2.1 q.2.2.2 ∈ lw_tbl ∧ goodWord (.code q.1 q.2.1 q.2.2.1 q.2.2.2) = true := by
  intro j q h1 h2 hq
  rcases (show j = 40 ∨ j = 41 ∨ j = 42 ∨ j = 43 ∨ j = 44 ∨ j = 45 ∨ j = 46 ∨ j = 47 ∨ j = 48 ∨ j = 49 ∨ j = 50 ∨ j = 51 ∨ j = 52 ∨ j = 53 ∨ j = 54 ∨ j = 55 ∨ j = 56 ∨ j = 57 ∨ j = 58 ∨ j = 59 by omega) with rfl | rfl | rfl | rfl | rfl | rfl | rfl | rfl | rfl | rfl | rfl | rfl | rfl | rfl | rfl | rfl | rfl | rfl | rfl | rfl
  · cases hq; exact ⟨List.mem_of_getElem? am_cw_40, rfl⟩
  · cases hq; exact ⟨List.mem_of_getElem? am_cw_41, rfl⟩
  · cases hq; exact ⟨List.mem_of_getElem? am_cw_42, rfl⟩
  · cases hq; exact ⟨List.mem_of_getElem? am_cw_43, rfl⟩
  · cases hq; exact ⟨List.mem_of_getElem? am_cw_44, rfl⟩
  · cases hq; exact ⟨List.mem_of_getElem? am_cw_45, rfl⟩
  · cases hq; exact ⟨List.mem_of_getElem? am_cw_46, rfl⟩
  · cases hq; exact ⟨List.mem_of_getElem? am_cw_47, rfl⟩
  · cases hq; exact ⟨List.mem_of_getElem? am_cw_48, rfl⟩
  · cases hq; exact ⟨List.mem_of_getElem? am_cw_49, rfl⟩
  · cases hq; exact ⟨List.mem_of_getElem? am_cw_50, rfl⟩
  · cases hq; exact ⟨List.mem_of_getElem? am_cw_51, rfl⟩
  · cases hq; exact ⟨List.mem_of_getElem? am_cw_52, rfl⟩
  · cases hq; exact ⟨List.mem_of_getElem? am_cw_53, rfl⟩
  · cases hq; exact ⟨List.mem_of_getElem? am_cw_54, rfl⟩
  · cases hq; exact ⟨List.mem_of_getElem? am_cw_55, rfl⟩
  · cases hq; exact ⟨List.mem_of_getElem? am_cw_56, rfl⟩
  · cases hq; exact ⟨List.mem_of_getElem? am_cw_57, rfl⟩
  · cases hq; exact ⟨List.mem_of_getElem? am_cw_58, rfl⟩
  · cases hq; exact ⟨List.mem_of_getElem? am_cw_59, rfl⟩
theorem am_cwg_3 : ∀ (j : Nat) (q : am_M), 60 ≤ j → j < 80 → am_meth[j]? = some q → Jvm.Cond.code q.1 q.2.1 q.2.2.1 q.2.2.2 ∈ lw_tbl ∧ goodWord (.code q.1 q.2.1 q.2.2.1 q.2.2.2) = true := by
  intro j q h1 h2 hq
  rcases (show j = 60 ∨ j = 61 ∨ j = 62 ∨ j = 63 ∨ j = 64 ∨ j = 65 ∨ j = 66 ∨ j = 67 ∨ j = 68 ∨ j = 69 ∨ j = 70 ∨ j = 71 ∨ j = 72 ∨ j = 73 ∨ j = 74 ∨ j = 75 ∨ j = 76 ∨ j = 77 ∨ j = 78 ∨ j = 79 by omega) with rfl | rfl | rfl | rfl | rfl | rfl | rfl | rfl | rfl | rfl | rfl | rfl | rfl | rfl | rfl | rfl | rfl | rfl | rfl | rfl
  · cases hq; exact ⟨List.mem_of_getElem? am_cw_60, rfl⟩
  · cases hq; exact ⟨List.mem_of_getElem? am_cw_61, rfl⟩
  · cases hq; exact ⟨List.mem_of_getElem? am_cw_62, rfl⟩
  · cases hq; exact ⟨List.mem_of_getElem? am_cw_63, rfl⟩
  · cases hq; exact ⟨List.mem_of_getElem? am_cw_64, rfl⟩
  · cases hq; exact ⟨List.mem_of_getElem? am_cw_65, rfl⟩
  · cases hq; exact ⟨List.mem_of_getElem? am_cw_66, rfl⟩
  · cases hq; exact ⟨List.mem_of_getElem? am_cw_67, rfl⟩
  · cases hq; exact ⟨List.mem_of_getElem? am_cw_68, rfl⟩
  · cases hq; exact ⟨List.mem_of_getElem? am_cw_69, rfl⟩
  · cases hq; exact ⟨List.mem_of_getElem? am_cw_70, rfl⟩
  · cases hq; exact ⟨List.mem_of_getElem? am_cw_71, rfl⟩
  · cases hq; exact ⟨List.mem_of_getElem? am_cw_72, rfl⟩
  · cases hq; exact ⟨List.mem_of_getElem? am_cw_73, rfl⟩
  · cases hq; exact ⟨List.mem_of_getElem? am_cw_74, rfl⟩
  · cases hq; exact ⟨List.mem_of_getElem? am_cw_75, rfl⟩
  · cases hq; exact ⟨List.mem_of_getElem? am_cw_76, rfl⟩
  · cases hq; exact ⟨List.mem_of_getElem? am_cw_77, rfl⟩
  · cases hq; exact ⟨List.mem_of_getElem? am_cw_78, rfl⟩
  · cases hq; exact ⟨List.mem_of_getElem? am_cw_79, rfl⟩
theorem am_cwg_4 : ∀ (j : Nat) (q : am_M), 80 ≤ j → j < 100 → am_meth[j]? = some q → Jvm.Cond.code q.1 q.2.1 q.2.2.1 q.2.2.2 ∈ lw_tbl ∧ goodWord (.code q.1 q.2.1 q.2.2.1 q.2.2.2) = true := by
  intro j q h1 h2 hq
  rcases (show j = 80 ∨ j = 81 ∨ j = 82 ∨ j = 83 ∨ j = 84 ∨ j = 85 ∨ j = 86 ∨ j = 87 ∨ j = 88 ∨ j = 89 ∨ j = 90 ∨ j = 91 ∨ j = 92 ∨ j = 93 ∨ j = 94 ∨ j = 95 ∨ j = 96 ∨ j = 97 ∨ j = 98 ∨ j = 99 by omega) with rfl | rfl | rfl | rfl | rfl | rfl | rfl | rfl | rfl | rfl | rfl | rfl | rfl | rfl | rfl | rfl | rfl | rfl | rfl | rfl
  · cases hq; exact ⟨List.mem_of_getElem? am_cw_80, rfl⟩
  · cases hq; exact ⟨List.mem_of_getElem? am_cw_81, rfl⟩
  · cases hq; exact ⟨List.mem_of_getElem? am_cw_82, rfl⟩
  · cases hq; exact ⟨List.mem_of_getElem? am_cw_83, rfl⟩
  · cases hq; exact ⟨List.mem_of_getElem? am_cw_84, rfl⟩
  · cases hq; exact ⟨List.mem_of_getElem? am_cw_85, rfl⟩
  · cases hq; exact ⟨List.mem_of_getElem? am_cw_86, rfl⟩
  · cases hq; exact ⟨List.mem_of_getElem? am_cw_87, rfl⟩
  · cases hq; exact ⟨List.mem_of_getElem? am_cw_88, rfl⟩
  · cases hq; exact ⟨List.mem_of_getElem? am_cw_89, rfl⟩
  · cases hq; exact ⟨List.mem_of_getElem? am_cw_90, rfl⟩
  · cases hq; exact ⟨List.mem_of_getElem? am_cw_91, rfl⟩
  · cases hq; exact ⟨List.mem_of_getElem? am_cw_92, rfl⟩
  · cases hq; exact ⟨List.mem_of_getElem? am_cw_93, rfl⟩
  · cases hq; exact ⟨List.mem_of_getElem? am_cw_94, rfl⟩
  · cases hq; exact ⟨List.mem_of_getElem? am_cw_95, rfl⟩
  · cases hq; exact ⟨List.mem_of_getElem? am_cw_96, rfl⟩
  · cases hq; exact ⟨List.mem_of_getElem? am_cw_97, rfl⟩
  · cases hq; exact ⟨List.mem_of_getElem? am_cw_98, rfl⟩
  · cases hq; exact ⟨List.mem_of_getElem? am_cw_99, rfl⟩
theorem am_cwg_5 : ∀ (j : Nat) (q : am_M), 100 ≤ j → j < 120 → am_meth[j]? = some q → Jvm.Cond.code q.1 q.2.1 q.2.2.1 q.2.2.2 ∈ lw_tbl ∧ goodWord (.code q.1 q.2.1 q.2.2.1 q.2.2.2) = true := by
  intro j q h1 h2 hq
  rcases (show j = 100 ∨ j = 101 ∨ j = 102 ∨ j = 103 ∨ j = 104 ∨ j = 105 ∨ j = 106 ∨ j = 107 ∨ j = 108 ∨ j = 109 ∨ j = 110 ∨ j = 111 ∨ j = 112 ∨ j = 113 ∨ j = 114 ∨ j = 115 ∨ j = 116 ∨ j = 117 ∨ j = 118 ∨ j = 119 by omega) with rfl | rfl | rfl | rfl | rfl | rfl | rfl | rfl | rfl | rfl | rfl | rfl | rfl | rfl | rfl | rfl | rfl | rfl | rfl | rfl
  · cases hq; exact ⟨List.mem_of_getElem? am_cw_100, rfl⟩
  · cases hq; exact ⟨List.mem_of_getElem? am_cw_101, rfl⟩
  · cases hq; exact ⟨List.mem_of_getElem? am_cw_102, rfl⟩
  · cases hq; exact ⟨List.mem_of_getElem? am_cw_103, rfl⟩
  · cases hq; exact ⟨List.mem_of_getElem? am_cw_104, rfl⟩
  · cases hq; exact ⟨List.mem_of_getElem? am_cw_105, rfl⟩
  · cases hq; exact ⟨List.mem_of_getElem? am_cw_106, rfl⟩
  · cases hq; exact ⟨List.mem_of_getElem? am_cw_107, rfl⟩
  · cases hq; exact ⟨List.mem_of_getElem? am_cw_108, rfl⟩
  · cases hq; exact ⟨List.mem_of_getElem? am_cw_109, rfl⟩
  · cases hq; exact ⟨List.mem_of_getElem? am_cw_110, rfl⟩
  · cases hq; exact ⟨List.mem_of_getElem? am_cw_111, rfl⟩
  · cases hq; exact ⟨List.mem_of_getElem? am_cw_112, rfl⟩
  · cases hq; exact ⟨List.mem_of_getElem? am_cw_113, rfl⟩
  · cases hq; exact ⟨List.mem_of_getElem? am_cw_114, rfl⟩
  · cases hq; exact ⟨List.mem_of_getElem? am_cw_115, rfl⟩
  · cases hq; exact ⟨List.mem_of_getElem? am_cw_116, rfl⟩
  · cases hq; exact ⟨List.mem_of_getElem? am_cw_117, rfl⟩
  · cases hq; exact ⟨List.mem_of_getElem? am_cw_118, rfl⟩
  · cases hq; exact ⟨List.mem_of_getElem? am_cw_119, rfl⟩
theorem am_cwg_6 : ∀ (j : Nat) (q : am_M), 120 ≤ j → j < 140 → am_meth[j]? = some q → Jvm.Cond.code q.1 q.2.1 q.2.2.1 q.2.2.2 ∈ lw_tbl ∧ goodWord (.code q.1 q.2.1 q.2.2.1 q.2.2.2) = true := by
  intro j q h1 h2 hq
  rcases (show j = 120 ∨ j = 121 ∨ j = 122 ∨ j = 123 ∨ j = 124 ∨ j = 125 ∨ j = 126 ∨ j = 127 ∨ j = 128 ∨ j = 129 ∨ j = 130 ∨ j = 131 ∨ j = 132 ∨ j = 133 ∨ j = 134 ∨ j = 135 ∨ j = 136 ∨ j = 137 ∨ j = 138 ∨ j = 139 by omega) with rfl | rfl | rfl | rfl | rfl | rfl | rfl | rfl | rfl | rfl | rfl | rfl | rfl | rfl | rfl | rfl | rfl | rfl | rfl | rfl
  · cases hq; exact ⟨List.mem_of_getElem? am_cw_120, rfl⟩
  · cases hq; exact ⟨List.mem_of_getElem? am_cw_121, rfl⟩
  · cases hq; exact ⟨List.mem_of_getElem? am_cw_122, rfl⟩
  · cases hq; exact ⟨List.mem_of_getElem? am_cw_123, rfl⟩
  · cases hq; exact ⟨List.mem_of_getElem? am_cw_124, rfl⟩
  · cases hq; exact ⟨List.mem_of_getElem? am_cw_125, rfl⟩
  · cases hq; exact ⟨List.mem_of_getElem? am_cw_126, rfl⟩
  · cases hq; exact ⟨List.mem_of_getElem? am_cw_127, rfl⟩
  · cases hq; exact ⟨List.mem_of_getElem? am_cw_128, rfl⟩
  · cases hq; exact ⟨List.mem_of_getElem? am_cw_129, rfl⟩
  · cases hq; exact ⟨List.mem_of_getElem? am_cw_130, rfl⟩
  · cases hq; exact ⟨List.mem_of_getElem? am_cw_131, rfl⟩
  · cases hq; exact ⟨List.mem_of_getElem? am_cw_132, rfl⟩
  · cases hq; exact ⟨List.mem_of_getElem? am_cw_133, rfl⟩
  · cases hq; exact ⟨List.mem_of_getElem? am_cw_134, rfl⟩
  · cases hq; exact ⟨List.mem_of_getElem? am_cw_135, rfl⟩
  · cases hq; exact ⟨List.mem_of_getElem? am_cw_136, rfl⟩
  · cases hq; exact ⟨List.mem_of_getElem? am_cw_137, rfl⟩
  · cases hq; exact ⟨List.mem_of_getElem? am_cw_138, rfl⟩
  · cases hq; exact ⟨List.mem_of_getElem? am_cw_139, rfl⟩
theorem am_cwg_7 : ∀ (j : Nat) (q : am_M), 140 ≤ j → j < 160 → am_meth[j]? = some q → Jvm.Cond.code q.1 q.2.1 q.2.2.1 q.2.2.2 ∈ lw_tbl ∧ goodWord (.code q.1 q.2.1 q.2.2.1 q.2.2.2) = true := by
  intro j q h1 h2 hq
  rcases (show j = 140 ∨ j = 141 ∨ j = 142 ∨ j = 143 ∨ j = 144 ∨ j = 145 ∨ j = 146 ∨ j = 147 ∨ j = 148 ∨ j = 149 ∨ j = 150 ∨ j = 151 ∨ j = 152 ∨ j = 153 ∨ j = 154 ∨ j = 155 ∨ j = 156 ∨ j = 157 ∨ j = 158 ∨ j = 159 by omega) with rfl | rfl | rfl | rfl | rfl | rfl | rfl | rfl | rfl | rfl | rfl | rfl | rfl | rfl | rfl | rfl | rfl | rfl | rfl | rfl
  · cases hq; exact ⟨List.mem_of_getElem? am_cw_140, rfl⟩
  · cases hq; exact ⟨List.mem_of_getElem? am_cw_141, rfl⟩
  · cases hq; exact ⟨List.mem_of_getElem? am_cw_142, rfl⟩
  · cases hq; exact ⟨List.mem_of_getElem? am_cw_143, rfl⟩
  · cases hq; exact ⟨List.mem_of_getElem? am_cw_144, rfl⟩
  · cases hq; exact ⟨List.mem_of_getElem? am_cw_145, rfl⟩
  · cases hq; exact ⟨List.mem_of_getElem? am_cw_146, rfl⟩
  · cases hq; exact ⟨List.mem_of_getElem? am_cw_147, rfl⟩
  · cases hq; exact ⟨List.mem_of_getElem? am_cw_148, rfl⟩
  · cases hq; exact ⟨List.mem_of_getElem? am_cw_149, rfl⟩
  · cases hq; exact ⟨List.mem_of_getElem? am_cw_150, rfl⟩
  · cases hq; exact ⟨List.mem_of_getElem? am_cw_151, rfl⟩
  · cases hq; exact ⟨List.mem_of_getElem? am_cw_152, rfl⟩
  · cases hq; exact ⟨List.mem_of_getElem? am_cw_153, rfl⟩
  · cases hq; exact ⟨List.mem_of_getElem? am_cw_154, rfl⟩
  · cases hq; exact ⟨List.mem_of_getElem? am_cw_155, rfl⟩
  · cases hq; exact ⟨List.mem_of_getElem? am_cw_156, rfl⟩
  · cases hq; exact ⟨List.mem_of_getElem? am_cw_157, rfl⟩
  · cases hq; exact ⟨List.mem_of_getElem? am_cw_158, rfl⟩
  · cases hq; exact ⟨List.mem_of_getElem? am_cw_159, rfl⟩
theorem am_cwg_8 : ∀ (j : Nat) (q : am_M), 160 ≤ j → j < 180 → am_meth[j]? = some q → Jvm.Cond.code q.1 q.2.1 q.2.2.1 q.2.2.2 ∈ lw_tbl ∧ goodWord (.code q.1 q.2.1 q.2.2.1 q.2.2.2) = true := by
  intro j q h1 h2 hq
  rcases (show j = 160 ∨ j = 161 ∨ j = 162 ∨ j = 163 ∨ j = 164 ∨ j = 165 ∨ j = 166 ∨ j = 167 ∨ j = 168 ∨ j = 169 ∨ j = 170 ∨ j = 171 ∨ j = 172 ∨ j = 173 ∨ j = 174 ∨ j = 175 ∨ j = 176 ∨ j = 177 ∨ j = 178 ∨ j = 179 by omega) with rfl | rfl | rfl | rfl | rfl | rfl | rfl | rfl | rfl | rfl | rfl | rfl | rfl | rfl | rfl | rfl | rfl | rfl | rfl | rfl
  · cases hq; exact ⟨List.mem_of_getElem? am_cw_160, rfl⟩
  · cases hq; exact ⟨List.mem_of_getElem? am_cw_161, rfl⟩
  · cases hq; exact ⟨List.mem_of_getElem? am_cw_162, rfl⟩
  · cases hq; exact ⟨List.mem_of_getElem? am_cw_163, rfl⟩
  · cases hq; exact ⟨List.mem_of_getElem? am_cw_164, rfl⟩
  · cases hq; exact ⟨List.mem_of_getElem? am_cw_165, rfl⟩
  · cases hq; exact ⟨List.mem_of_getElem? am_cw_166, rfl⟩
  · cases hq; exact ⟨List.mem_of_getElem? am_cw_167, rfl⟩
  · cases hq; exact ⟨List.mem_of_getElem? am_cw_168, rfl⟩
  · cases hq; exact ⟨List.mem_of_getElem? am_cw_169, rfl⟩
  · cases hq; exact ⟨List.mem_of_getElem? am_cw_170, rfl⟩
  · cases hq; exact ⟨List.mem_of_getElem? am_cw_171, rfl⟩
  · cases hq; exact ⟨List.mem_of_getElem? am_cw_172, rfl⟩
  · cases hq; exact ⟨List.mem_of_getElem? am_cw_173, rfl⟩
  · cases hq; exact ⟨List.mem_of_getElem? am_cw_174, rfl⟩
  · cases hq; exact ⟨List.mem_of_getElem? am_cw_175, rfl⟩
  · cases hq; exact ⟨List.mem_of_getElem? am_cw_176, rfl⟩
  · cases hq; exact ⟨List.mem_of_getElem? am_cw_177, rfl⟩
  · cases hq; exact ⟨List.mem_of_getElem? am_cw_178, rfl⟩
  · cases hq; exact ⟨List.mem_of_getElem? am_cw_179, rfl⟩
theorem am_cwg_9 : ∀ (j : Nat) (q : am_M), 180 ≤ j → j < 200 → am_meth[j]? = some q → Jvm.Cond.code q.1 q.2.1 q.2.2.1 q.2.2.2 ∈ lw_tbl ∧ goodWord (.code q.1 q.2.1 q.2.2.1 q.2.2.2) = true := by
  intro j q h1 h2 hq
  rcases (show j = 180 ∨ j = 181 ∨ j = 182 ∨ j = 183 ∨ j = 184 ∨ j = 185 ∨ j = 186 ∨ j = 187 ∨ j = 188 ∨ j = 189 ∨ j = 190 ∨ j = 191 ∨ j = 192 ∨ j = 193 ∨ j = 194 ∨ j = 195 ∨ j = 196 ∨ j = 197 ∨ j = 198 ∨ j = 199 by omega) with rfl | rfl | rfl | rfl | rfl | rfl | rfl | rfl | rfl | rfl | rfl | rfl | rfl | rfl | rfl | rfl | rfl | rfl | rfl | rfl
  · cases hq; exact ⟨List.mem_of_getElem? am_cw_180, rfl⟩
  · cases hq; exact ⟨List.mem_of_getElem? am_cw_181, rfl⟩
  · cases hq; exact ⟨List.mem_of_getElem? am_cw_182, rfl⟩
  · cases hq; exact ⟨List.mem_of_getElem? am_cw_183, rfl⟩
  · cases hq; exact ⟨List.mem_of_getElem? am_cw_184, rfl⟩
  · cases hq; exact ⟨List.mem_of_getElem? am_cw_185, rfl⟩
  · cases hq; exact ⟨List.mem_of_getElem? am_cw_186, rfl⟩
  · cases hq; exact ⟨List.mem_of_getElem? am_cw_187, rfl⟩
  · cases hq; exact ⟨List.mem_of_getElem? am_cw_188, rfl⟩
  · cases hq; exact ⟨List.mem_of_getElem? am_cw_189, rfl⟩
  · cases hq; exact ⟨List.mem_of_getElem? am_cw_190, rfl⟩
  · cases hq; exact ⟨List.mem_of_getElem? am_cw_191, rfl⟩
  · cases hq; exact ⟨List.mem_of_getElem? am_cw_192, rfl⟩
  · cases hq; exact ⟨List.mem_of_getElem? am_cw_193, rfl⟩
  · cases hq; exact ⟨List.mem_of_getElem? am_cw_194, rfl⟩
  · cases hq; exact ⟨List.mem_of_getElem? am_cw_195, rfl⟩
  · cases hq; exact ⟨List.mem_of_getElem? am_cw_196, rfl⟩
  · cases hq; exact ⟨List.mem_of_getElem? am_cw_197, rfl⟩
  · cases hq; exact ⟨List.mem_of_getElem? am_cw_198, rfl⟩
  · cases hq; exact ⟨List.mem_of_getElem? am_cw_199, rfl⟩
theorem am_cwg_10 : ∀ (j : Nat) (q : am_M), 200 ≤ j → j < 220 → am_meth[j]? = some q → Jvm.Cond.code q.1 q.2.1 q.2.2.1 q.2.2.2 ∈ lw_tbl ∧ goodWord (.code q.1 q.2.1 q.2.2.1 q.2.2.2) = true := by
  intro j q h1 h2 hq
  rcases (show j = 200 ∨ j = 201 ∨ j = 202 ∨ j = 203 ∨ j = 204 ∨ j = 205 ∨ j = 206 ∨ j = 207 ∨ j = 208 ∨ j = 209 ∨ j = 210 ∨ j = 211 ∨ j = 212 ∨ j = 213 ∨ j = 214 ∨ j = 215 ∨ j = 216 ∨ j = 217 ∨ j = 218 ∨ j = 219 by omega) with rfl | rfl | rfl | rfl | rfl | rfl | rfl | rfl | rfl | rfl | rfl | rfl | rfl | rfl | rfl | rfl | rfl | rfl | rfl | rfl
  · cases hq; exact ⟨List.mem_of_getElem? am_cw_200, rfl⟩
  · cases hq; exact ⟨List.mem_of_getElem? am_cw_201, rfl⟩
  · cases hq; exact ⟨List.mem_of_getElem? am_cw_202, rfl⟩
  · cases hq; exact ⟨List.mem_of_getElem? am_cw_203, rfl⟩
  · cases hq; exact ⟨List.mem_of_getElem? am_cw_204, rfl⟩
  · cases hq; exact ⟨List.mem_of_getElem? am_cw_205, rfl⟩
  · cases hq; exact ⟨List.mem_of_getElem? am_cw_206, rfl⟩
  · cases hq; exact ⟨List.mem_of_getElem? am_cw_207, rfl⟩
  · cases hq; exact ⟨List.mem_of_getElem? am_cw_208, rfl⟩
  · cases hq; exact ⟨List.mem_of_getElem? am_cw_209, rfl⟩
  · cases hq; exact ⟨List.mem_of_getElem? am_cw_210, rfl⟩
  · cases hq; exact ⟨List.mem_of_getElem? am_cw_211, rfl⟩
  · cases hq; exact ⟨List.mem_of_getElem? am_cw_212, rfl⟩
  · cases hq; exact ⟨List.mem_of_getElem? am_cw_213, rfl⟩
  · cases hq; exact ⟨List.mem_of_getElem? am_cw_214, rfl⟩
  · cases hq; exact ⟨List.mem_of_getElem? am_cw_215, rfl⟩
  · cases hq; exact ⟨List.mem_of_getElem? am_cw_216, rfl⟩
  · cases hq; exact ⟨List.mem_of_getElem? am_cw_217, rfl⟩
  · cases hq; exact ⟨List.mem_of_getElem? am_cw_218, rfl⟩
  · cases hq; exact ⟨List.mem_of_getElem? am_cw_219, rfl⟩
theorem am_cwg_11 : ∀ (j : Nat) (q : am_M), 220 ≤ j → j < 226 → am_meth[j]? = some q → Jvm.Cond.code q.1 q.2.1 q.2.2.1 q.2.2.2 ∈ lw_tbl ∧ goodWord (.code q.1 q.2.1 q.2.2.1 q.2.2.2) = true := by
  intro j q h1 h2 hq
  rcases (show j = 220 ∨ j = 221 ∨ j = 222 ∨ j = 223 ∨ j = 224 ∨ j = 225 by omega) with rfl | rfl | rfl | rfl | rfl | rfl
  · cases hq; exact ⟨List.mem_of_getElem? am_cw_220, rfl⟩
  · cases hq; exact ⟨List.mem_of_getElem? am_cw_221, rfl⟩
  · cases hq; exact ⟨List.mem_of_getElem? am_cw_222, rfl⟩
  · cases hq; exact ⟨List.mem_of_getElem? am_cw_223, rfl⟩
  · cases hq; exact ⟨List.mem_of_getElem? am_cw_224, rfl⟩
  · cases hq; exact ⟨List.mem_of_getElem? am_cw_225, rfl⟩
theorem am_codeOk : ∀ (j : Nat) (q : am_M), am_meth[j]? = some q → j < am_nM → Jvm.Cond.code q.1 q.2.1 q.2.2.1 q.2.2.2 ∈ lw_tbl ∧ goodWord (.code q.1 q.2.1 q.2.2.1 q.2.2.2) = true := by
  intro j q hq hj
  have hj : j < 226 := hj
  rcases Nat.lt_or_ge j 20 with h0 | h0
  · exact am_cwg_0 j q (by omega) h0 hq
  rcases Nat.lt_or_ge j 40 with h1 | h1
  · exact am_cwg_1 j q (by omega) h1 hq
  rcases Nat.lt_or_ge j 60 with h2 | h2
  · exact am_cwg_2 j q (by omega) h2 hq
  rcases Nat.lt_or_ge j 80 with h3 | h3
  · exact am_cwg_3 j q (by omega) h3 hq
  rcases Nat.lt_or_ge j 100 with h4 | h4
  · exact am_cwg_4 j q (by omega) h4 hq
  rcases Nat.lt_or_ge j 120 with h5 | h5
  · exact am_cwg_5 j q (by omega) h5 hq
  rcases Nat.lt_or_ge j 140 with h6 | h6
  · exact am_cwg_6 j q (by omega) h6 hq
  rcases Nat.lt_or_ge j 160 with h7 | h7
  · exact am_cwg_7 j q (by omega) h7 hq
  rcases Nat.lt_or_ge j 180 with h8 | h8
  · exact am_cwg_8 j q (by omega) h8 hq
  rcases Nat.lt_or_ge j 200 with h9 | h9
  · exact am_cwg_9 j q (by omega) h9 hq
  rcases Nat.lt_or_ge j 220 with h10 | h10
  · exact am_cwg_10 j q (by omega) h10 hq
  rcases Nat.lt_or_ge j 226 with h11 | h11
  · exact am_cwg_11 j q (by omega) h11 hq
  omega
