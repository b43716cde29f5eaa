/-! The methods' code words lie in the tables -/
set_option maxRecDepth 100000 in
theorem pgc_0 : lw_tbl[508]? = some (tm_cd1 pg 0) := rfl
set_option maxRecDepth 100000 in
theorem pgc_1 : lw_tbl[428]? = some (tm_cd1 pg 1) := rfl
set_option maxRecDepth 100000 in
theorem pgc_2 : lw_tbl[330]? = some (tm_cd1 pg 2) := rfl
set_option maxRecDepth 100000 in
theorem pgc_3 : lw_tbl[101]? = some (tm_cd1 pg 3) := rfl
set_option maxRecDepth 100000 in
theorem pgc_4 : lw_tbl[313]? = some (tm_cd1 pg 4) := rfl
set_option maxRecDepth 100000 in
theorem pgc_5 : lw_tbl[316]? = some (tm_cd1 pg 5) := rfl
set_option maxRecDepth 100000 in
theorem pgc_6 : lw_tbl[379]? = some (tm_cd1 pg 6) := rfl
set_option maxRecDepth 100000 in
theorem pgc_7 : lw_tbl[384]? = some (tm_cd1 pg 7) := rfl
set_option maxRecDepth 100000 in
theorem pgc_8 : lw_tbl[392]? = some (tm_cd1 pg 8) := rfl
set_option maxRecDepth 100000 in
theorem pgc_9 : lw_tbl[388]? = some (tm_cd1 pg 9) := rfl
set_option maxRecDepth 100000 in
theorem pgc_10 : lw_tbl[374]? = some (tm_cd1 pg 10) := rfl
set_option maxRecDepth 100000 in
theorem pgc_11 : lw_tbl[396]? = some (tm_cd1 pg 11) := rfl
set_option maxRecDepth 100000 in
theorem pgc_12 : lw_tbl[137]? = some (tm_cd1 pg 12) := rfl
set_option maxRecDepth 100000 in
theorem pgc_13 : lw_tbl[461]? = some (tm_cd1 pg 13) := rfl
set_option maxRecDepth 100000 in
theorem pgc_14 : lw_tbl[323]? = some (tm_cd1 pg 14) := rfl
set_option maxRecDepth 100000 in
theorem pgc_15 : lw_tbl[320]? = some (tm_cd1 pg 15) := rfl
set_option maxRecDepth 100000 in
theorem pgc_16 : lw_tbl[309]? = some (tm_cd1 pg 16) := rfl
set_option maxRecDepth 100000 in
theorem pgc_17 : lw_tbl[327]? = some (tm_cd1 pg 17) := rfl
set_option maxRecDepth 100000 in
theorem pgc_18 : lw_tbl[335]? = some (tm_cd1 pg 18) := rfl
set_option maxRecDepth 100000 in
theorem pgc_19 : lw_tbl[304]? = some (tm_cd1 pg 19) := rfl
set_option maxRecDepth 100000 in
theorem pgc_20 : lw_tbl[445]? = some (tm_cd1 pg 20) := rfl
set_option maxRecDepth 100000 in
theorem pgc_21 : lw_tbl[469]? = some (tm_cd1 pg 21) := rfl
set_option maxRecDepth 100000 in
theorem pgc_22 : lw_tbl[165]? = some (tm_cd1 pg 22) := rfl
set_option maxRecDepth 100000 in
theorem pgc_23 : lw_tbl[501]? = some (tm_cd1 pg 23) := rfl
set_option maxRecDepth 100000 in
theorem pgc_24 : lw_tbl[519]? = some (tm_cd1 pg 24) := rfl
set_option maxRecDepth 100000 in
theorem pgc_25 : lw_tbl[441]? = some (tm_cd1 pg 25) := rfl
set_option maxRecDepth 100000 in
theorem pgc_26 : lw_tbl[436]? = some (tm_cd1 pg 26) := rfl
set_option maxRecDepth 100000 in
theorem pgc_27 : lw_tbl[432]? = some (tm_cd1 pg 27) := rfl
set_option maxRecDepth 100000 in
theorem pgc_28 : lw_tbl[425]? = some (tm_cd1 pg 28) := rfl
set_option maxRecDepth 100000 in
theorem pgc_29 : lw_tbl[191]? = some (tm_cd1 pg 29) := rfl
set_option maxRecDepth 100000 in
theorem pgc_30 : lw_tbl[496]? = some (tm_cd1 pg 30) := rfl
set_option maxRecDepth 100000 in
theorem pgc_31 : lw_tbl[491]? = some (tm_cd1 pg 31) := rfl
set_option maxRecDepth 100000 in
theorem pgc_32 : lw_tbl[486]? = some (tm_cd1 pg 32) := rfl
set_option maxRecDepth 100000 in
theorem pgc_33 : lw_tbl[208]? = some (tm_cd1 pg 33) := rfl
set_option maxRecDepth 100000 in
theorem pgc_34 : lw_tbl[577]? = some (tm_cd1 pg 34) := rfl
set_option maxRecDepth 100000 in
theorem pgc_35 : lw_tbl[541]? = some (tm_cd1 pg 35) := rfl
set_option maxRecDepth 100000 in
theorem pgc_36 : lw_tbl[544]? = some (tm_cd1 pg 36) := rfl
set_option maxRecDepth 100000 in
theorem pgc_37 : lw_tbl[547]? = some (tm_cd1 pg 37) := rfl
set_option maxRecDepth 100000 in
theorem pgc_38 : lw_tbl[550]? = some (tm_cd1 pg 38) := rfl
set_option maxRecDepth 100000 in
theorem pgc_39 : lw_tbl[560]? = some (tm_cd1 pg 39) := rfl
set_option maxRecDepth 100000 in
theorem pgc_40 : lw_tbl[554]? = some (tm_cd1 pg 40) := rfl
set_option maxRecDepth 100000 in
theorem pgc_41 : lw_tbl[535]? = some (tm_cd1 pg 41) := rfl
set_option maxRecDepth 100000 in
theorem pgc_42 : lw_tbl[613]? = some (tm_cd1 pg 42) := rfl
set_option maxRecDepth 100000 in
theorem pgc_43 : lw_tbl[609]? = some (tm_cd1 pg 43) := rfl
set_option maxRecDepth 100000 in
theorem pgc_44 : lw_tbl[236]? = some (tm_cd1 pg 44) := rfl
set_option maxRecDepth 100000 in
theorem pgc_45 : lw_tbl[621]? = some (tm_cd1 pg 45) := rfl
set_option maxRecDepth 100000 in
theorem pgc_46 : lw_tbl[569]? = some (tm_cd1 pg 46) := rfl
set_option maxRecDepth 100000 in
theorem pgc_47 : lw_tbl[587]? = some (tm_cd1 pg 47) := rfl
set_option maxRecDepth 100000 in
theorem pgc_48 : lw_tbl[581]? = some (tm_cd1 pg 48) := rfl
set_option maxRecDepth 100000 in
theorem pgc_49 : lw_tbl[599]? = some (tm_cd1 pg 49) := rfl
set_option maxRecDepth 100000 in
theorem pgc_50 : lw_tbl[596]? = some (tm_cd1 pg 50) := rfl
set_option maxRecDepth 100000 in
theorem pgc_51 : lw_tbl[592]? = some (tm_cd1 pg 51) := rfl
set_option maxRecDepth 100000 in
theorem pgc_52 : lw_tbl[573]? = some (tm_cd1 pg 52) := rfl
set_option maxRecDepth 100000 in
theorem pgc_53 : lw_tbl[565]? = some (tm_cd1 pg 53) := rfl
set_option maxRecDepth 100000 in
theorem pgc_54 : lw_tbl[271]? = some (tm_cd1 pg 54) := rfl
set_option maxRecDepth 100000 in
theorem pgc_55 : lw_tbl[732]? = some (tm_cd1 pg 55) := rfl
set_option maxRecDepth 100000 in
theorem pgc_56 : lw_tbl[744]? = some (tm_cd1 pg 56) := rfl
set_option maxRecDepth 100000 in
theorem pgc_57 : lw_tbl[750]? = some (tm_cd1 pg 57) := rfl
set_option maxRecDepth 100000 in
theorem pgc_58 : lw_tbl[736]? = some (tm_cd1 pg 58) := rfl
set_option maxRecDepth 100000 in
theorem pgc_59 : lw_tbl[754]? = some (tm_cd1 pg 59) := rfl
set_option maxRecDepth 100000 in
theorem pgc_60 : lw_tbl[727]? = some (tm_cd1 pg 60) := rfl
set_option maxRecDepth 100000 in
theorem pgc_61 : lw_tbl[722]? = some (tm_cd1 pg 61) := rfl
set_option maxRecDepth 100000 in
theorem pgc_62 : lw_tbl[93]? = some (tm_cd1 pg 62) := rfl
set_option maxRecDepth 100000 in
theorem pgc_63 : lw_tbl[400]? = some (tm_cd1 pg 63) := rfl
set_option maxRecDepth 100000 in
theorem pgc_64 : lw_tbl[370]? = some (tm_cd1 pg 64) := rfl
set_option maxRecDepth 100000 in
theorem pgc_65 : lw_tbl[404]? = some (tm_cd1 pg 65) := rfl
set_option maxRecDepth 100000 in
theorem pgc_66 : lw_tbl[408]? = some (tm_cd1 pg 66) := rfl
set_option maxRecDepth 100000 in
theorem pgc_67 : lw_tbl[412]? = some (tm_cd1 pg 67) := rfl
set_option maxRecDepth 100000 in
theorem pgc_68 : lw_tbl[421]? = some (tm_cd1 pg 68) := rfl
set_option maxRecDepth 100000 in
theorem pgc_69 : lw_tbl[416]? = some (tm_cd1 pg 69) := rfl
set_option maxRecDepth 100000 in
theorem pgc_70 : lw_tbl[449]? = some (tm_cd1 pg 70) := rfl
set_option maxRecDepth 100000 in
theorem pgc_71 : lw_tbl[457]? = some (tm_cd1 pg 71) := rfl
set_option maxRecDepth 100000 in
theorem pgc_72 : lw_tbl[453]? = some (tm_cd1 pg 72) := rfl
set_option maxRecDepth 100000 in
theorem pgc_73 : lw_tbl[465]? = some (tm_cd1 pg 73) := rfl
set_option maxRecDepth 100000 in
theorem pgc_74 : lw_tbl[478]? = some (tm_cd1 pg 74) := rfl
set_option maxRecDepth 100000 in
theorem pgc_75 : lw_tbl[482]? = some (tm_cd1 pg 75) := rfl
set_option maxRecDepth 100000 in
theorem pgc_76 : lw_tbl[474]? = some (tm_cd1 pg 76) := rfl
set_option maxRecDepth 100000 in
theorem pgc_77 : lw_tbl[505]? = some (tm_cd1 pg 77) := rfl
set_option maxRecDepth 100000 in
theorem pgc_78 : lw_tbl[515]? = some (tm_cd1 pg 78) := rfl
set_option maxRecDepth 100000 in
theorem pgc_79 : lw_tbl[527]? = some (tm_cd1 pg 79) := rfl
set_option maxRecDepth 100000 in
theorem pgc_80 : lw_tbl[531]? = some (tm_cd1 pg 80) := rfl
set_option maxRecDepth 100000 in
theorem pgc_81 : lw_tbl[523]? = some (tm_cd1 pg 81) := rfl
set_option maxRecDepth 100000 in
theorem pgc_82 : lw_tbl[605]? = some (tm_cd1 pg 82) := rfl
set_option maxRecDepth 100000 in
theorem pgc_83 : lw_tbl[617]? = some (tm_cd1 pg 83) := rfl
set_option maxRecDepth 100000 in
theorem pgc_84 : lw_tbl[797]? = some (tm_cd1 pg 84) := rfl
set_option maxRecDepth 100000 in
theorem pgc_85 : lw_tbl[801]? = some (tm_cd1 pg 85) := rfl
set_option maxRecDepth 100000 in
theorem pgc_86 : lw_tbl[805]? = some (tm_cd1 pg 86) := rfl
set_option maxRecDepth 100000 in
theorem pgc_87 : lw_tbl[793]? = some (tm_cd1 pg 87) := rfl
set_option maxRecDepth 100000 in
theorem pgc_88 : lw_tbl[809]? = some (tm_cd1 pg 88) := rfl
set_option maxRecDepth 100000 in
theorem pgc_89 : lw_tbl[818]? = some (tm_cd1 pg 89) := rfl
set_option maxRecDepth 100000 in
theorem pgc_90 : lw_tbl[813]? = some (tm_cd1 pg 90) := rfl
set_option maxRecDepth 100000 in
theorem pgc_91 : lw_tbl[789]? = some (tm_cd1 pg 91) := rfl
set_option maxRecDepth 100000 in
theorem pgc_92 : lw_tbl[784]? = some (tm_cd1 pg 92) := rfl
set_option maxRecDepth 100000 in
theorem pgc_93 : lw_tbl[917]? = some (tm_cd1 pg 93) := rfl
set_option maxRecDepth 100000 in
theorem pgc_94 : lw_tbl[927]? = some (tm_cd1 pg 94) := rfl
set_option maxRecDepth 100000 in
theorem pgc_95 : lw_tbl[924]? = some (tm_cd1 pg 95) := rfl
set_option maxRecDepth 100000 in
theorem pgc_96 : lw_tbl[931]? = some (tm_cd1 pg 96) := rfl
set_option maxRecDepth 100000 in
theorem pgc_97 : lw_tbl[921]? = some (tm_cd1 pg 97) := rfl
set_option maxRecDepth 100000 in
theorem pgc_98 : lw_tbl[935]? = some (tm_cd1 pg 98) := rfl
set_option maxRecDepth 100000 in
theorem pgc_99 : lw_tbl[939]? = some (tm_cd1 pg 99) := rfl
set_option maxRecDepth 100000 in
theorem pgc_100 : lw_tbl[943]? = some (tm_cd1 pg 100) := rfl
set_option maxRecDepth 100000 in
theorem pgc_101 : lw_tbl[959]? = some (tm_cd1 pg 101) := rfl
set_option maxRecDepth 100000 in
theorem pgc_102 : lw_tbl[963]? = some (tm_cd1 pg 102) := rfl
set_option maxRecDepth 100000 in
theorem pgc_103 : lw_tbl[955]? = some (tm_cd1 pg 103) := rfl
set_option maxRecDepth 100000 in
theorem pgc_104 : lw_tbl[971]? = some (tm_cd1 pg 104) := rfl
set_option maxRecDepth 100000 in
theorem pgc_105 : lw_tbl[967]? = some (tm_cd1 pg 105) := rfl
set_option maxRecDepth 100000 in
theorem pgc_106 : lw_tbl[995]? = some (tm_cd1 pg 106) := rfl
set_option maxRecDepth 100000 in
theorem pgc_107 : lw_tbl[991]? = some (tm_cd1 pg 107) := rfl
set_option maxRecDepth 100000 in
theorem pgc_108 : lw_tbl[1003]? = some (tm_cd1 pg 108) := rfl
set_option maxRecDepth 100000 in
theorem pgc_109 : lw_tbl[1007]? = some (tm_cd1 pg 109) := rfl
set_option maxRecDepth 100000 in
theorem pgc_110 : lw_tbl[999]? = some (tm_cd1 pg 110) := rfl
set_option maxRecDepth 100000 in
theorem pgc_111 : lw_tbl[987]? = some (tm_cd1 pg 111) := rfl
set_option maxRecDepth 100000 in
theorem pgc_112 : lw_tbl[983]? = some (tm_cd1 pg 112) := rfl
set_option maxRecDepth 100000 in
theorem pgc_113 : lw_tbl[1011]? = some (tm_cd1 pg 113) := rfl
set_option maxRecDepth 100000 in
theorem pgc_114 : lw_tbl[979]? = some (tm_cd1 pg 114) := rfl
set_option maxRecDepth 100000 in
theorem pgc_115 : lw_tbl[975]? = some (tm_cd1 pg 115) := rfl
set_option maxRecDepth 100000 in
theorem pgc_116 : lw_tbl[1023]? = some (tm_cd1 pg 116) := rfl
set_option maxRecDepth 100000 in
theorem pgc_117 : lw_tbl[1019]? = some (tm_cd1 pg 117) := rfl
set_option maxRecDepth 100000 in
theorem pgc_118 : lw_tbl[1015]? = some (tm_cd1 pg 118) := rfl
set_option maxRecDepth 100000 in
theorem pgc_119 : lw_tbl[1033]? = some (tm_cd1 pg 119) := rfl
set_option maxRecDepth 100000 in
theorem pgc_120 : lw_tbl[1029]? = some (tm_cd1 pg 120) := rfl
set_option maxRecDepth 100000 in
theorem pgc_121 : lw_tbl[951]? = some (tm_cd1 pg 121) := rfl
set_option maxRecDepth 100000 in
theorem pgc_122 : lw_tbl[947]? = some (tm_cd1 pg 122) := rfl
set_option maxRecDepth 100000 in
theorem pgc_123 : lw_tbl[1037]? = some (tm_cd1 pg 123) := rfl
set_option maxRecDepth 100000 in
theorem pgc_124 : lw_tbl[1045]? = some (tm_cd1 pg 124) := rfl
set_option maxRecDepth 100000 in
theorem pgc_125 : lw_tbl[1041]? = some (tm_cd1 pg 125) := rfl
set_option maxRecDepth 100000 in
theorem pgc_126 : lw_tbl[1049]? = some (tm_cd1 pg 126) := rfl
set_option maxRecDepth 100000 in
theorem pgc_127 : lw_tbl[1057]? = some (tm_cd1 pg 127) := rfl
set_option maxRecDepth 100000 in
theorem pgc_128 : lw_tbl[1053]? = some (tm_cd1 pg 128) := rfl
set_option maxRecDepth 100000 in
theorem pgc_129 : lw_tbl[1061]? = some (tm_cd1 pg 129) := rfl
set_option maxRecDepth 100000 in
theorem pgc_130 : lw_tbl[1065]? = some (tm_cd1 pg 130) := rfl
set_option maxRecDepth 100000 in
theorem pgc_131 : lw_tbl[1073]? = some (tm_cd1 pg 131) := rfl
set_option maxRecDepth 100000 in
theorem pgc_132 : lw_tbl[1069]? = some (tm_cd1 pg 132) := rfl
set_option maxRecDepth 100000 in
theorem pgc_133 : lw_tbl[1077]? = some (tm_cd1 pg 133) := rfl
set_option maxRecDepth 100000 in
theorem pgc_134 : lw_tbl[1081]? = some (tm_cd1 pg 134) := rfl
set_option maxRecDepth 100000 in
theorem pgc_135 : lw_tbl[1097]? = some (tm_cd1 pg 135) := rfl
set_option maxRecDepth 100000 in
theorem pgc_136 : lw_tbl[1101]? = some (tm_cd1 pg 136) := rfl
set_option maxRecDepth 100000 in
theorem pgc_137 : lw_tbl[1093]? = some (tm_cd1 pg 137) := rfl
set_option maxRecDepth 100000 in
theorem pgc_138 : lw_tbl[1089]? = some (tm_cd1 pg 138) := rfl
set_option maxRecDepth 100000 in
theorem pgc_139 : lw_tbl[1085]? = some (tm_cd1 pg 139) := rfl
set_option maxRecDepth 100000 in
theorem pgc_140 : lw_tbl[1105]? = some (tm_cd1 pg 140) := rfl
theorem pg_code_tb (y : Nat) (hy : y < pg_n) : tm_cd1 pg y ∈ lw_tbl := by
  match y, hy with
  | 0, _ => exact List.mem_of_getElem? pgc_0
  | 1, _ => exact List.mem_of_getElem? pgc_1
  | 2, _ => exact List.mem_of_getElem? pgc_2
  | 3, _ => exact List.mem_of_getElem? pgc_3
  | 4, _ => exact List.mem_of_getElem? pgc_4
  | 5, _ => exact List.mem_of_getElem? pgc_5
  | 6, _ => exact List.mem_of_getElem? pgc_6
  | 7, _ => exact List.mem_of_getElem? pgc_7
  | 8, _ => exact List.mem_of_getElem? pgc_8
  | 9, _ => exact List.mem_of_getElem? pgc_9
  | 10, _ => exact List.mem_of_getElem? pgc_10
  | 11, _ => exact List.mem_of_getElem? pgc_11
  | 12, _ => exact List.mem_of_getElem? pgc_12
  | 13, _ => exact List.mem_of_getElem? pgc_13
  | 14, _ => exact List.mem_of_getElem? pgc_14
  | 15, _ => exact List.mem_of_getElem? pgc_15
  | 16, _ => exact List.mem_of_getElem? pgc_16
  | 17, _ => exact List.mem_of_getElem? pgc_17
  | 18, _ => exact List.mem_of_getElem? pgc_18
  | 19, _ => exact List.mem_of_getElem? pgc_19
  | 20, _ => exact List.mem_of_getElem? pgc_20
  | 21, _ => exact List.mem_of_getElem? pgc_21
  | 22, _ => exact List.mem_of_getElem? pgc_22
  | 23, _ => exact List.mem_of_getElem? pgc_23
  | 24, _ => exact List.mem_of_getElem? pgc_24
  | 25, _ => exact List.mem_of_getElem? pgc_25
  | 26, _ => exact List.mem_of_getElem? pgc_26
  | 27, _ => exact List.mem_of_getElem? pgc_27
  | 28, _ => exact List.mem_of_getElem? pgc_28
  | 29, _ => exact List.mem_of_getElem? pgc_29
  | 30, _ => exact List.mem_of_getElem? pgc_30
  | 31, _ => exact List.mem_of_getElem? pgc_31
  | 32, _ => exact List.mem_of_getElem? pgc_32
  | 33, _ => exact List.mem_of_getElem? pgc_33
  | 34, _ => exact List.mem_of_getElem? pgc_34
  | 35, _ => exact List.mem_of_getElem? pgc_35
  | 36, _ => exact List.mem_of_getElem? pgc_36
  | 37, _ => exact List.mem_of_getElem? pgc_37
  | 38, _ => exact List.mem_of_getElem? pgc_38
  | 39, _ => exact List.mem_of_getElem? pgc_39
  | 40, _ => exact List.mem_of_getElem? pgc_40
  | 41, _ => exact List.mem_of_getElem? pgc_41
  | 42, _ => exact List.mem_of_getElem? pgc_42
  | 43, _ => exact List.mem_of_getElem? pgc_43
  | 44, _ => exact List.mem_of_getElem? pgc_44
  | 45, _ => exact List.mem_of_getElem? pgc_45
  | 46, _ => exact List.mem_of_getElem? pgc_46
  | 47, _ => exact List.mem_of_getElem? pgc_47
  | 48, _ => exact List.mem_of_getElem? pgc_48
  | 49, _ => exact List.mem_of_getElem? pgc_49
  | 50, _ => exact List.mem_of_getElem? pgc_50
  | 51, _ => exact List.mem_of_getElem? pgc_51
  | 52, _ => exact List.mem_of_getElem? pgc_52
  | 53, _ => exact List.mem_of_getElem? pgc_53
  | 54, _ => exact List.mem_of_getElem? pgc_54
  | 55, _ => exact List.mem_of_getElem? pgc_55
  | 56, _ => exact List.mem_of_getElem? pgc_56
  | 57, _ => exact List.mem_of_getElem? pgc_57
  | 58, _ => exact List.mem_of_getElem? pgc_58
  | 59, _ => exact List.mem_of_getElem? pgc_59
  | 60, _ => exact List.mem_of_getElem? pgc_60
  | 61, _ => exact List.mem_of_getElem? pgc_61
  | 62, _ => exact List.mem_of_getElem? pgc_62
  | 63, _ => exact List.mem_of_getElem? pgc_63
  | 64, _ => exact List.mem_of_getElem? pgc_64
  | 65, _ => exact List.mem_of_getElem? pgc_65
  | 66, _ => exact List.mem_of_getElem? pgc_66
  | 67, _ => exact List.mem_of_getElem? pgc_67
  | 68, _ => exact List.mem_of_getElem? pgc_68
  | 69, _ => exact List.mem_of_getElem? pgc_69
  | 70, _ => exact List.mem_of_getElem? pgc_70
  | 71, _ => exact List.mem_of_getElem? pgc_71
  | 72, _ => exact List.mem_of_getElem? pgc_72
  | 73, _ => exact List.mem_of_getElem? pgc_73
  | 74, _ => exact List.mem_of_getElem? pgc_74
  | 75, _ => exact List.mem_of_getElem? pgc_75
  | 76, _ => exact List.mem_of_getElem? pgc_76
  | 77, _ => exact List.mem_of_getElem? pgc_77
  | 78, _ => exact List.mem_of_getElem? pgc_78
  | 79, _ => exact List.mem_of_getElem? pgc_79
  | 80, _ => exact List.mem_of_getElem? pgc_80
  | 81, _ => exact List.mem_of_getElem? pgc_81
  | 82, _ => exact List.mem_of_getElem? pgc_82
  | 83, _ => exact List.mem_of_getElem? pgc_83
  | 84, _ => exact List.mem_of_getElem? pgc_84
  | 85, _ => exact List.mem_of_getElem? pgc_85
  | 86, _ => exact List.mem_of_getElem? pgc_86
  | 87, _ => exact List.mem_of_getElem? pgc_87
  | 88, _ => exact List.mem_of_getElem? pgc_88
  | 89, _ => exact List.mem_of_getElem? pgc_89
  | 90, _ => exact List.mem_of_getElem? pgc_90
  | 91, _ => exact List.mem_of_getElem? pgc_91
  | 92, _ => exact List.mem_of_getElem? pgc_92
  | 93, _ => exact List.mem_of_getElem? pgc_93
  | 94, _ => exact List.mem_of_getElem? pgc_94
  | 95, _ => exact List.mem_of_getElem? pgc_95
  | 96, _ => exact List.mem_of_getElem? pgc_96
  | 97, _ => exact List.mem_of_getElem? pgc_97
  | 98, _ => exact List.mem_of_getElem? pgc_98
  | 99, _ => exact List.mem_of_getElem? pgc_99
  | 100, _ => exact List.mem_of_getElem? pgc_100
  | 101, _ => exact List.mem_of_getElem? pgc_101
  | 102, _ => exact List.mem_of_getElem? pgc_102
  | 103, _ => exact List.mem_of_getElem? pgc_103
  | 104, _ => exact List.mem_of_getElem? pgc_104
  | 105, _ => exact List.mem_of_getElem? pgc_105
  | 106, _ => exact List.mem_of_getElem? pgc_106
  | 107, _ => exact List.mem_of_getElem? pgc_107
  | 108, _ => exact List.mem_of_getElem? pgc_108
  | 109, _ => exact List.mem_of_getElem? pgc_109
  | 110, _ => exact List.mem_of_getElem? pgc_110
  | 111, _ => exact List.mem_of_getElem? pgc_111
  | 112, _ => exact List.mem_of_getElem? pgc_112
  | 113, _ => exact List.mem_of_getElem? pgc_113
  | 114, _ => exact List.mem_of_getElem? pgc_114
  | 115, _ => exact List.mem_of_getElem? pgc_115
  | 116, _ => exact List.mem_of_getElem? pgc_116
  | 117, _ => exact List.mem_of_getElem? pgc_117
  | 118, _ => exact List.mem_of_getElem? pgc_118
  | 119, _ => exact List.mem_of_getElem? pgc_119
  | 120, _ => exact List.mem_of_getElem? pgc_120
  | 121, _ => exact List.mem_of_getElem? pgc_121
  | 122, _ => exact List.mem_of_getElem? pgc_122
  | 123, _ => exact List.mem_of_getElem? pgc_123
  | 124, _ => exact List.mem_of_getElem? pgc_124
  | 125, _ => exact List.mem_of_getElem? pgc_125
  | 126, _ => exact List.mem_of_getElem? pgc_126
  | 127, _ => exact List.mem_of_getElem? pgc_127
  | 128, _ => exact List.mem_of_getElem? pgc_128
  | 129, _ => exact List.mem_of_getElem? pgc_129
  | 130, _ => exact List.mem_of_getElem? pgc_130
  | 131, _ => exact List.mem_of_getElem? pgc_131
  | 132, _ => exact List.mem_of_getElem? pgc_132
  | 133, _ => exact List.mem_of_getElem? pgc_133
  | 134, _ => exact List.mem_of_getElem? pgc_134
  | 135, _ => exact List.mem_of_getElem? pgc_135
  | 136, _ => exact List.mem_of_getElem? pgc_136
  | 137, _ => exact List.mem_of_getElem? pgc_137
  | 138, _ => exact List.mem_of_getElem? pgc_138
  | 139, _ => exact List.mem_of_getElem? pgc_139
  | 140, _ => exact List.mem_of_getElem? pgc_140
  | j + 141, h => exact absurd (show j + 141 < 141 from h) (by omega)
theorem pg_code_in {y : Nat} (hy : y < pg_n) : tm_cd1 pg y ∈ tm_WB lw_tbl := List.mem_filter.mpr ⟨pg_code_tb y hy, rfl⟩
