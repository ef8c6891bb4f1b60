/-! every method's bytes stand in the tables -/
theorem dm_mm {i : Nat} {w : Cond} (h1 : lw_tbl[i]? = some w) (h2 : goodWord w = true) : w ∈ dm_tb := List.mem_filter.mpr ⟨List.mem_of_getElem? h1, h2⟩
theorem cd_0 : lw_tbl[213]? = some (Cond.code (dmN 0) (dmB 0) (dmP 0).2.1 (dmP 0).2.2.1) := by decide +kernel
theorem cd_1 : lw_tbl[980]? = some (Cond.code (dmN 1) (dmB 1) (dmP 1).2.1 (dmP 1).2.2.1) := by decide +kernel
theorem cd_2 : lw_tbl[390]? = some (Cond.code (dmN 2) (dmB 2) (dmP 2).2.1 (dmP 2).2.2.1) := by decide +kernel
theorem cd_3 : lw_tbl[890]? = some (Cond.code (dmN 3) (dmB 3) (dmP 3).2.1 (dmP 3).2.2.1) := by decide +kernel
theorem cd_4 : lw_tbl[1261]? = some (Cond.code (dmN 4) (dmB 4) (dmP 4).2.1 (dmP 4).2.2.1) := by decide +kernel
theorem cd_5 : lw_tbl[926]? = some (Cond.code (dmN 5) (dmB 5) (dmP 5).2.1 (dmP 5).2.2.1) := by decide +kernel
theorem cd_6 : lw_tbl[1244]? = some (Cond.code (dmN 6) (dmB 6) (dmP 6).2.1 (dmP 6).2.2.1) := by decide +kernel
theorem cd_7 : lw_tbl[1252]? = some (Cond.code (dmN 7) (dmB 7) (dmP 7).2.1 (dmP 7).2.2.1) := by decide +kernel
theorem cd_8 : lw_tbl[588]? = some (Cond.code (dmN 8) (dmB 8) (dmP 8).2.1 (dmP 8).2.2.1) := by decide +kernel
theorem cd_9 : lw_tbl[894]? = some (Cond.code (dmN 9) (dmB 9) (dmP 9).2.1 (dmP 9).2.2.1) := by decide +kernel
theorem cd_10 : lw_tbl[1257]? = some (Cond.code (dmN 10) (dmB 10) (dmP 10).2.1 (dmP 10).2.2.1) := by decide +kernel
theorem cd_11 : lw_tbl[1286]? = some (Cond.code (dmN 11) (dmB 11) (dmP 11).2.1 (dmP 11).2.2.1) := by decide +kernel
theorem cd_12 : lw_tbl[1294]? = some (Cond.code (dmN 12) (dmB 12) (dmP 12).2.1 (dmP 12).2.2.1) := by decide +kernel
theorem cd_13 : lw_tbl[1302]? = some (Cond.code (dmN 13) (dmB 13) (dmP 13).2.1 (dmP 13).2.2.1) := by decide +kernel
theorem cd_14 : lw_tbl[646]? = some (Cond.code (dmN 14) (dmB 14) (dmP 14).2.1 (dmP 14).2.2.1) := by decide +kernel
theorem cd_15 : lw_tbl[902]? = some (Cond.code (dmN 15) (dmB 15) (dmP 15).2.1 (dmP 15).2.2.1) := by decide +kernel
theorem cd_16 : lw_tbl[1186]? = some (Cond.code (dmN 16) (dmB 16) (dmP 16).2.1 (dmP 16).2.2.1) := by decide +kernel
theorem cd_17 : lw_tbl[1192]? = some (Cond.code (dmN 17) (dmB 17) (dmP 17).2.1 (dmP 17).2.2.1) := by decide +kernel
theorem cd_18 : lw_tbl[615]? = some (Cond.code (dmN 18) (dmB 18) (dmP 18).2.1 (dmP 18).2.2.1) := by decide +kernel
theorem cd_19 : lw_tbl[898]? = some (Cond.code (dmN 19) (dmB 19) (dmP 19).2.1 (dmP 19).2.2.1) := by decide +kernel
theorem cd_20 : lw_tbl[1118]? = some (Cond.code (dmN 20) (dmB 20) (dmP 20).2.1 (dmP 20).2.2.1) := by decide +kernel
theorem cd_21 : lw_tbl[1124]? = some (Cond.code (dmN 21) (dmB 21) (dmP 21).2.1 (dmP 21).2.2.1) := by decide +kernel
theorem cd_22 : lw_tbl[1130]? = some (Cond.code (dmN 22) (dmB 22) (dmP 22).2.1 (dmP 22).2.2.1) := by decide +kernel
theorem cd_23 : lw_tbl[1134]? = some (Cond.code (dmN 23) (dmB 23) (dmP 23).2.1 (dmP 23).2.2.1) := by decide +kernel
theorem cd_24 : lw_tbl[178]? = some (Cond.code (dmN 24) (dmB 24) (dmP 24).2.1 (dmP 24).2.2.1) := by decide +kernel
theorem cd_25 : lw_tbl[193]? = some (Cond.code (dmN 25) (dmB 25) (dmP 25).2.1 (dmP 25).2.2.1) := by decide +kernel
theorem cd_26 : lw_tbl[976]? = some (Cond.code (dmN 26) (dmB 26) (dmP 26).2.1 (dmP 26).2.2.1) := by decide +kernel
theorem cd_27 : lw_tbl[451]? = some (Cond.code (dmN 27) (dmB 27) (dmP 27).2.1 (dmP 27).2.2.1) := by decide +kernel
theorem cd_28 : lw_tbl[490]? = some (Cond.code (dmN 28) (dmB 28) (dmP 28).2.1 (dmP 28).2.2.1) := by decide +kernel
theorem cd_29 : lw_tbl[745]? = some (Cond.code (dmN 29) (dmB 29) (dmP 29).2.1 (dmP 29).2.2.1) := by decide +kernel
theorem cd_30 : lw_tbl[781]? = some (Cond.code (dmN 30) (dmB 30) (dmP 30).2.1 (dmP 30).2.2.1) := by decide +kernel
theorem cd_31 : lw_tbl[785]? = some (Cond.code (dmN 31) (dmB 31) (dmP 31).2.1 (dmP 31).2.2.1) := by decide +kernel
theorem cd_32 : lw_tbl[777]? = some (Cond.code (dmN 32) (dmB 32) (dmP 32).2.1 (dmP 32).2.2.1) := by decide +kernel
theorem cd_33 : lw_tbl[886]? = some (Cond.code (dmN 33) (dmB 33) (dmP 33).2.1 (dmP 33).2.2.1) := by decide +kernel
theorem cd_34 : lw_tbl[790]? = some (Cond.code (dmN 34) (dmB 34) (dmP 34).2.1 (dmP 34).2.2.1) := by decide +kernel
theorem cd_35 : lw_tbl[799]? = some (Cond.code (dmN 35) (dmB 35) (dmP 35).2.1 (dmP 35).2.2.1) := by decide +kernel
theorem cd_36 : lw_tbl[809]? = some (Cond.code (dmN 36) (dmB 36) (dmP 36).2.1 (dmP 36).2.2.1) := by decide +kernel
theorem cd_37 : lw_tbl[773]? = some (Cond.code (dmN 37) (dmB 37) (dmP 37).2.1 (dmP 37).2.2.1) := by decide +kernel
theorem cd_38 : lw_tbl[820]? = some (Cond.code (dmN 38) (dmB 38) (dmP 38).2.1 (dmP 38).2.2.1) := by decide +kernel
theorem cd_39 : lw_tbl[832]? = some (Cond.code (dmN 39) (dmB 39) (dmP 39).2.1 (dmP 39).2.2.1) := by decide +kernel
theorem cd_40 : lw_tbl[794]? = some (Cond.code (dmN 40) (dmB 40) (dmP 40).2.1 (dmP 40).2.2.1) := by decide +kernel
theorem cd_41 : lw_tbl[816]? = some (Cond.code (dmN 41) (dmB 41) (dmP 41).2.1 (dmP 41).2.2.1) := by decide +kernel
theorem cd_42 : lw_tbl[828]? = some (Cond.code (dmN 42) (dmB 42) (dmP 42).2.1 (dmP 42).2.2.1) := by decide +kernel
theorem cd_43 : lw_tbl[824]? = some (Cond.code (dmN 43) (dmB 43) (dmP 43).2.1 (dmP 43).2.2.1) := by decide +kernel
theorem cd_44 : lw_tbl[839]? = some (Cond.code (dmN 44) (dmB 44) (dmP 44).2.1 (dmP 44).2.2.1) := by decide +kernel
theorem cd_45 : lw_tbl[843]? = some (Cond.code (dmN 45) (dmB 45) (dmP 45).2.1 (dmP 45).2.2.1) := by decide +kernel
theorem cd_46 : lw_tbl[849]? = some (Cond.code (dmN 46) (dmB 46) (dmP 46).2.1 (dmP 46).2.2.1) := by decide +kernel
theorem cd_47 : lw_tbl[857]? = some (Cond.code (dmN 47) (dmB 47) (dmP 47).2.1 (dmP 47).2.2.1) := by decide +kernel
theorem cd_48 : lw_tbl[861]? = some (Cond.code (dmN 48) (dmB 48) (dmP 48).2.1 (dmP 48).2.2.1) := by decide +kernel
theorem cd_49 : lw_tbl[871]? = some (Cond.code (dmN 49) (dmB 49) (dmP 49).2.1 (dmP 49).2.2.1) := by decide +kernel
theorem cd_50 : lw_tbl[877]? = some (Cond.code (dmN 50) (dmB 50) (dmP 50).2.1 (dmP 50).2.2.1) := by decide +kernel
theorem cd_51 : lw_tbl[882]? = some (Cond.code (dmN 51) (dmB 51) (dmP 51).2.1 (dmP 51).2.2.1) := by decide +kernel
theorem cd_52 : lw_tbl[172]? = some (Cond.code (dmN 52) (dmB 52) (dmP 52).2.1 (dmP 52).2.2.1) := by decide +kernel
theorem cd_53 : lw_tbl[1011]? = some (Cond.code (dmN 53) (dmB 53) (dmP 53).2.1 (dmP 53).2.2.1) := by decide +kernel
theorem cd_54 : lw_tbl[962]? = some (Cond.code (dmN 54) (dmB 54) (dmP 54).2.1 (dmP 54).2.2.1) := by decide +kernel
theorem cd_55 : lw_tbl[958]? = some (Cond.code (dmN 55) (dmB 55) (dmP 55).2.1 (dmP 55).2.2.1) := by decide +kernel
theorem cd_56 : lw_tbl[950]? = some (Cond.code (dmN 56) (dmB 56) (dmP 56).2.1 (dmP 56).2.2.1) := by decide +kernel
theorem cd_57 : lw_tbl[986]? = some (Cond.code (dmN 57) (dmB 57) (dmP 57).2.1 (dmP 57).2.2.1) := by decide +kernel
theorem cd_58 : lw_tbl[1039]? = some (Cond.code (dmN 58) (dmB 58) (dmP 58).2.1 (dmP 58).2.2.1) := by decide +kernel
theorem cd_59 : lw_tbl[1002]? = some (Cond.code (dmN 59) (dmB 59) (dmP 59).2.1 (dmP 59).2.2.1) := by decide +kernel
theorem cd_60 : lw_tbl[1109]? = some (Cond.code (dmN 60) (dmB 60) (dmP 60).2.1 (dmP 60).2.2.1) := by decide +kernel
theorem cd_61 : lw_tbl[1176]? = some (Cond.code (dmN 61) (dmB 61) (dmP 61).2.1 (dmP 61).2.2.1) := by decide +kernel
theorem cd_62 : lw_tbl[1172]? = some (Cond.code (dmN 62) (dmB 62) (dmP 62).2.1 (dmP 62).2.2.1) := by decide +kernel
theorem cd_63 : lw_tbl[265]? = some (Cond.code (dmN 63) (dmB 63) (dmP 63).2.1 (dmP 63).2.2.1) := by decide +kernel
theorem cd_64 : lw_tbl[242]? = some (Cond.code (dmN 64) (dmB 64) (dmP 64).2.1 (dmP 64).2.2.1) := by decide +kernel
theorem cd_65 : lw_tbl[954]? = some (Cond.code (dmN 65) (dmB 65) (dmP 65).2.1 (dmP 65).2.2.1) := by decide +kernel
theorem cd_66 : lw_tbl[853]? = some (Cond.code (dmN 66) (dmB 66) (dmP 66).2.1 (dmP 66).2.2.1) := by decide +kernel
theorem cd_67 : lw_tbl[966]? = some (Cond.code (dmN 67) (dmB 67) (dmP 67).2.1 (dmP 67).2.2.1) := by decide +kernel
theorem cd_68 : lw_tbl[971]? = some (Cond.code (dmN 68) (dmB 68) (dmP 68).2.1 (dmP 68).2.2.1) := by decide +kernel
theorem cd_69 : lw_tbl[457]? = some (Cond.code (dmN 69) (dmB 69) (dmP 69).2.1 (dmP 69).2.2.1) := by decide +kernel
theorem cd_70 : lw_tbl[750]? = some (Cond.code (dmN 70) (dmB 70) (dmP 70).2.1 (dmP 70).2.2.1) := by decide +kernel
theorem cd_71 : lw_tbl[760]? = some (Cond.code (dmN 71) (dmB 71) (dmP 71).2.1 (dmP 71).2.2.1) := by decide +kernel
theorem cd_72 : lw_tbl[764]? = some (Cond.code (dmN 72) (dmB 72) (dmP 72).2.1 (dmP 72).2.2.1) := by decide +kernel
theorem cd_73 : lw_tbl[769]? = some (Cond.code (dmN 73) (dmB 73) (dmP 73).2.1 (dmP 73).2.2.1) := by decide +kernel
theorem cd_74 : lw_tbl[803]? = some (Cond.code (dmN 74) (dmB 74) (dmP 74).2.1 (dmP 74).2.2.1) := by decide +kernel
theorem cd_75 : lw_tbl[164]? = some (Cond.code (dmN 75) (dmB 75) (dmP 75).2.1 (dmP 75).2.2.1) := by decide +kernel
theorem cd_76 : lw_tbl[729]? = some (Cond.code (dmN 76) (dmB 76) (dmP 76).2.1 (dmP 76).2.2.1) := by decide +kernel
theorem cd_77 : lw_tbl[733]? = some (Cond.code (dmN 77) (dmB 77) (dmP 77).2.1 (dmP 77).2.2.1) := by decide +kernel
theorem cd_78 : lw_tbl[737]? = some (Cond.code (dmN 78) (dmB 78) (dmP 78).2.1 (dmP 78).2.2.1) := by decide +kernel
theorem cd_79 : lw_tbl[910]? = some (Cond.code (dmN 79) (dmB 79) (dmP 79).2.1 (dmP 79).2.2.1) := by decide +kernel
theorem cd_80 : lw_tbl[914]? = some (Cond.code (dmN 80) (dmB 80) (dmP 80).2.1 (dmP 80).2.2.1) := by decide +kernel
theorem cd_81 : lw_tbl[741]? = some (Cond.code (dmN 81) (dmB 81) (dmP 81).2.1 (dmP 81).2.2.1) := by decide +kernel
theorem cd_82 : lw_tbl[1064]? = some (Cond.code (dmN 82) (dmB 82) (dmP 82).2.1 (dmP 82).2.2.1) := by decide +kernel
theorem cd_83 : lw_tbl[906]? = some (Cond.code (dmN 83) (dmB 83) (dmP 83).2.1 (dmP 83).2.2.1) := by decide +kernel
theorem cd_84 : lw_tbl[1266]? = some (Cond.code (dmN 84) (dmB 84) (dmP 84).2.1 (dmP 84).2.2.1) := by decide +kernel
theorem cd_85 : lw_tbl[922]? = some (Cond.code (dmN 85) (dmB 85) (dmP 85).2.1 (dmP 85).2.2.1) := by decide +kernel
theorem cd_86 : lw_tbl[946]? = some (Cond.code (dmN 86) (dmB 86) (dmP 86).2.1 (dmP 86).2.2.1) := by decide +kernel
theorem cd_87 : lw_tbl[918]? = some (Cond.code (dmN 87) (dmB 87) (dmP 87).2.1 (dmP 87).2.2.1) := by decide +kernel
theorem cd_88 : lw_tbl[930]? = some (Cond.code (dmN 88) (dmB 88) (dmP 88).2.1 (dmP 88).2.2.1) := by decide +kernel
theorem cd_89 : lw_tbl[934]? = some (Cond.code (dmN 89) (dmB 89) (dmP 89).2.1 (dmP 89).2.2.1) := by decide +kernel
theorem cd_90 : lw_tbl[938]? = some (Cond.code (dmN 90) (dmB 90) (dmP 90).2.1 (dmP 90).2.2.1) := by decide +kernel
theorem cd_91 : lw_tbl[990]? = some (Cond.code (dmN 91) (dmB 91) (dmP 91).2.1 (dmP 91).2.2.1) := by decide +kernel
theorem cd_92 : lw_tbl[994]? = some (Cond.code (dmN 92) (dmB 92) (dmP 92).2.1 (dmP 92).2.2.1) := by decide +kernel
theorem cd_93 : lw_tbl[998]? = some (Cond.code (dmN 93) (dmB 93) (dmP 93).2.1 (dmP 93).2.2.1) := by decide +kernel
theorem cd_94 : lw_tbl[942]? = some (Cond.code (dmN 94) (dmB 94) (dmP 94).2.1 (dmP 94).2.2.1) := by decide +kernel
theorem cd_95 : lw_tbl[1007]? = some (Cond.code (dmN 95) (dmB 95) (dmP 95).2.1 (dmP 95).2.2.1) := by decide +kernel
theorem cd_96 : lw_tbl[1015]? = some (Cond.code (dmN 96) (dmB 96) (dmP 96).2.1 (dmP 96).2.2.1) := by decide +kernel
theorem cd_97 : lw_tbl[1023]? = some (Cond.code (dmN 97) (dmB 97) (dmP 97).2.1 (dmP 97).2.2.1) := by decide +kernel
theorem cd_98 : lw_tbl[1019]? = some (Cond.code (dmN 98) (dmB 98) (dmP 98).2.1 (dmP 98).2.2.1) := by decide +kernel
theorem cd_99 : lw_tbl[1027]? = some (Cond.code (dmN 99) (dmB 99) (dmP 99).2.1 (dmP 99).2.2.1) := by decide +kernel
theorem cd_100 : lw_tbl[1031]? = some (Cond.code (dmN 100) (dmB 100) (dmP 100).2.1 (dmP 100).2.2.1) := by decide +kernel
theorem cd_101 : lw_tbl[1047]? = some (Cond.code (dmN 101) (dmB 101) (dmP 101).2.1 (dmP 101).2.2.1) := by decide +kernel
theorem cd_102 : lw_tbl[1035]? = some (Cond.code (dmN 102) (dmB 102) (dmP 102).2.1 (dmP 102).2.2.1) := by decide +kernel
theorem cd_103 : lw_tbl[1043]? = some (Cond.code (dmN 103) (dmB 103) (dmP 103).2.1 (dmP 103).2.2.1) := by decide +kernel
theorem cd_104 : lw_tbl[1051]? = some (Cond.code (dmN 104) (dmB 104) (dmP 104).2.1 (dmP 104).2.2.1) := by decide +kernel
theorem cd_105 : lw_tbl[1056]? = some (Cond.code (dmN 105) (dmB 105) (dmP 105).2.1 (dmP 105).2.2.1) := by decide +kernel
theorem cd_106 : lw_tbl[1072]? = some (Cond.code (dmN 106) (dmB 106) (dmP 106).2.1 (dmP 106).2.2.1) := by decide +kernel
theorem cd_107 : lw_tbl[1076]? = some (Cond.code (dmN 107) (dmB 107) (dmP 107).2.1 (dmP 107).2.2.1) := by decide +kernel
theorem cd_108 : lw_tbl[1060]? = some (Cond.code (dmN 108) (dmB 108) (dmP 108).2.1 (dmP 108).2.2.1) := by decide +kernel
theorem cd_109 : lw_tbl[1068]? = some (Cond.code (dmN 109) (dmB 109) (dmP 109).2.1 (dmP 109).2.2.1) := by decide +kernel
theorem cd_110 : lw_tbl[1080]? = some (Cond.code (dmN 110) (dmB 110) (dmP 110).2.1 (dmP 110).2.2.1) := by decide +kernel
theorem cd_111 : lw_tbl[1100]? = some (Cond.code (dmN 111) (dmB 111) (dmP 111).2.1 (dmP 111).2.2.1) := by decide +kernel
theorem cd_112 : lw_tbl[1084]? = some (Cond.code (dmN 112) (dmB 112) (dmP 112).2.1 (dmP 112).2.2.1) := by decide +kernel
theorem cd_113 : lw_tbl[1088]? = some (Cond.code (dmN 113) (dmB 113) (dmP 113).2.1 (dmP 113).2.2.1) := by decide +kernel
theorem cd_114 : lw_tbl[1092]? = some (Cond.code (dmN 114) (dmB 114) (dmP 114).2.1 (dmP 114).2.2.1) := by decide +kernel
theorem cd_115 : lw_tbl[1096]? = some (Cond.code (dmN 115) (dmB 115) (dmP 115).2.1 (dmP 115).2.2.1) := by decide +kernel
theorem cd_116 : lw_tbl[1104]? = some (Cond.code (dmN 116) (dmB 116) (dmP 116).2.1 (dmP 116).2.2.1) := by decide +kernel
theorem cd_117 : lw_tbl[1114]? = some (Cond.code (dmN 117) (dmB 117) (dmP 117).2.1 (dmP 117).2.2.1) := by decide +kernel
theorem cd_118 : lw_tbl[1138]? = some (Cond.code (dmN 118) (dmB 118) (dmP 118).2.1 (dmP 118).2.2.1) := by decide +kernel
theorem cd_119 : lw_tbl[1142]? = some (Cond.code (dmN 119) (dmB 119) (dmP 119).2.1 (dmP 119).2.2.1) := by decide +kernel
theorem cd_120 : lw_tbl[1164]? = some (Cond.code (dmN 120) (dmB 120) (dmP 120).2.1 (dmP 120).2.2.1) := by decide +kernel
theorem cd_121 : lw_tbl[1146]? = some (Cond.code (dmN 121) (dmB 121) (dmP 121).2.1 (dmP 121).2.2.1) := by decide +kernel
theorem cd_122 : lw_tbl[1156]? = some (Cond.code (dmN 122) (dmB 122) (dmP 122).2.1 (dmP 122).2.2.1) := by decide +kernel
theorem cd_123 : lw_tbl[1160]? = some (Cond.code (dmN 123) (dmB 123) (dmP 123).2.1 (dmP 123).2.2.1) := by decide +kernel
theorem cd_124 : lw_tbl[1168]? = some (Cond.code (dmN 124) (dmB 124) (dmP 124).2.1 (dmP 124).2.2.1) := by decide +kernel
theorem cd_125 : lw_tbl[1182]? = some (Cond.code (dmN 125) (dmB 125) (dmP 125).2.1 (dmP 125).2.2.1) := by decide +kernel
theorem cd_126 : lw_tbl[1196]? = some (Cond.code (dmN 126) (dmB 126) (dmP 126).2.1 (dmP 126).2.2.1) := by decide +kernel
theorem cd_127 : lw_tbl[1200]? = some (Cond.code (dmN 127) (dmB 127) (dmP 127).2.1 (dmP 127).2.2.1) := by decide +kernel
theorem cd_128 : lw_tbl[1224]? = some (Cond.code (dmN 128) (dmB 128) (dmP 128).2.1 (dmP 128).2.2.1) := by decide +kernel
theorem cd_129 : lw_tbl[1204]? = some (Cond.code (dmN 129) (dmB 129) (dmP 129).2.1 (dmP 129).2.2.1) := by decide +kernel
theorem cd_130 : lw_tbl[1208]? = some (Cond.code (dmN 130) (dmB 130) (dmP 130).2.1 (dmP 130).2.2.1) := by decide +kernel
theorem cd_131 : lw_tbl[1220]? = some (Cond.code (dmN 131) (dmB 131) (dmP 131).2.1 (dmP 131).2.2.1) := by decide +kernel
theorem cd_132 : lw_tbl[1216]? = some (Cond.code (dmN 132) (dmB 132) (dmP 132).2.1 (dmP 132).2.2.1) := by decide +kernel
theorem cd_133 : lw_tbl[1212]? = some (Cond.code (dmN 133) (dmB 133) (dmP 133).2.1 (dmP 133).2.2.1) := by decide +kernel
theorem cd_134 : lw_tbl[1228]? = some (Cond.code (dmN 134) (dmB 134) (dmP 134).2.1 (dmP 134).2.2.1) := by decide +kernel
theorem cd_135 : lw_tbl[1232]? = some (Cond.code (dmN 135) (dmB 135) (dmP 135).2.1 (dmP 135).2.2.1) := by decide +kernel
theorem cd_136 : lw_tbl[1236]? = some (Cond.code (dmN 136) (dmB 136) (dmP 136).2.1 (dmP 136).2.2.1) := by decide +kernel
theorem cd_137 : lw_tbl[1240]? = some (Cond.code (dmN 137) (dmB 137) (dmP 137).2.1 (dmP 137).2.2.1) := by decide +kernel
theorem cd_138 : lw_tbl[1248]? = some (Cond.code (dmN 138) (dmB 138) (dmP 138).2.1 (dmP 138).2.2.1) := by decide +kernel
theorem cd_139 : lw_tbl[1270]? = some (Cond.code (dmN 139) (dmB 139) (dmP 139).2.1 (dmP 139).2.2.1) := by decide +kernel
theorem cd_140 : lw_tbl[1274]? = some (Cond.code (dmN 140) (dmB 140) (dmP 140).2.1 (dmP 140).2.2.1) := by decide +kernel
theorem cd_141 : lw_tbl[1278]? = some (Cond.code (dmN 141) (dmB 141) (dmP 141).2.1 (dmP 141).2.2.1) := by decide +kernel
theorem cd_142 : lw_tbl[1282]? = some (Cond.code (dmN 142) (dmB 142) (dmP 142).2.1 (dmP 142).2.2.1) := by decide +kernel
theorem cd_143 : lw_tbl[1290]? = some (Cond.code (dmN 143) (dmB 143) (dmP 143).2.1 (dmP 143).2.2.1) := by decide +kernel
theorem cd_144 : lw_tbl[1298]? = some (Cond.code (dmN 144) (dmB 144) (dmP 144).2.1 (dmP 144).2.2.1) := by decide +kernel
theorem cd_145 : lw_tbl[1318]? = some (Cond.code (dmN 145) (dmB 145) (dmP 145).2.1 (dmP 145).2.2.1) := by decide +kernel
theorem cd_146 : lw_tbl[1306]? = some (Cond.code (dmN 146) (dmB 146) (dmP 146).2.1 (dmP 146).2.2.1) := by decide +kernel
theorem cd_147 : lw_tbl[1310]? = some (Cond.code (dmN 147) (dmB 147) (dmP 147).2.1 (dmP 147).2.2.1) := by decide +kernel
theorem cd_148 : lw_tbl[1388]? = some (Cond.code (dmN 148) (dmB 148) (dmP 148).2.1 (dmP 148).2.2.1) := by decide +kernel
theorem cd_149 : lw_tbl[1505]? = some (Cond.code (dmN 149) (dmB 149) (dmP 149).2.1 (dmP 149).2.2.1) := by decide +kernel
theorem cd_150 : lw_tbl[1517]? = some (Cond.code (dmN 150) (dmB 150) (dmP 150).2.1 (dmP 150).2.2.1) := by decide +kernel
theorem cd_151 : lw_tbl[1524]? = some (Cond.code (dmN 151) (dmB 151) (dmP 151).2.1 (dmP 151).2.2.1) := by decide +kernel
theorem cd_152 : lw_tbl[2009]? = some (Cond.code (dmN 152) (dmB 152) (dmP 152).2.1 (dmP 152).2.2.1) := by decide +kernel
theorem cd_153 : lw_tbl[1520]? = some (Cond.code (dmN 153) (dmB 153) (dmP 153).2.1 (dmP 153).2.2.1) := by decide +kernel
theorem cd_154 : lw_tbl[1915]? = some (Cond.code (dmN 154) (dmB 154) (dmP 154).2.1 (dmP 154).2.2.1) := by decide +kernel
theorem cd_155 : lw_tbl[1675]? = some (Cond.code (dmN 155) (dmB 155) (dmP 155).2.1 (dmP 155).2.2.1) := by decide +kernel
theorem cd_156 : lw_tbl[1509]? = some (Cond.code (dmN 156) (dmB 156) (dmP 156).2.1 (dmP 156).2.2.1) := by decide +kernel
theorem cd_157 : lw_tbl[1532]? = some (Cond.code (dmN 157) (dmB 157) (dmP 157).2.1 (dmP 157).2.2.1) := by decide +kernel
theorem cd_158 : lw_tbl[1535]? = some (Cond.code (dmN 158) (dmB 158) (dmP 158).2.1 (dmP 158).2.2.1) := by decide +kernel
theorem cd_159 : lw_tbl[1538]? = some (Cond.code (dmN 159) (dmB 159) (dmP 159).2.1 (dmP 159).2.2.1) := by decide +kernel
theorem cd_160 : lw_tbl[1528]? = some (Cond.code (dmN 160) (dmB 160) (dmP 160).2.1 (dmP 160).2.2.1) := by decide +kernel
theorem cd_161 : lw_tbl[1557]? = some (Cond.code (dmN 161) (dmB 161) (dmP 161).2.1 (dmP 161).2.2.1) := by decide +kernel
theorem cd_162 : lw_tbl[1547]? = some (Cond.code (dmN 162) (dmB 162) (dmP 162).2.1 (dmP 162).2.2.1) := by decide +kernel
theorem cd_163 : lw_tbl[1570]? = some (Cond.code (dmN 163) (dmB 163) (dmP 163).2.1 (dmP 163).2.2.1) := by decide +kernel
theorem cd_164 : lw_tbl[1566]? = some (Cond.code (dmN 164) (dmB 164) (dmP 164).2.1 (dmP 164).2.2.1) := by decide +kernel
theorem cd_165 : lw_tbl[1594]? = some (Cond.code (dmN 165) (dmB 165) (dmP 165).2.1 (dmP 165).2.2.1) := by decide +kernel
theorem cd_166 : lw_tbl[1606]? = some (Cond.code (dmN 166) (dmB 166) (dmP 166).2.1 (dmP 166).2.2.1) := by decide +kernel
theorem cd_167 : lw_tbl[1590]? = some (Cond.code (dmN 167) (dmB 167) (dmP 167).2.1 (dmP 167).2.2.1) := by decide +kernel
theorem cd_168 : lw_tbl[1622]? = some (Cond.code (dmN 168) (dmB 168) (dmP 168).2.1 (dmP 168).2.2.1) := by decide +kernel
theorem cd_169 : lw_tbl[1618]? = some (Cond.code (dmN 169) (dmB 169) (dmP 169).2.1 (dmP 169).2.2.1) := by decide +kernel
theorem cd_170 : lw_tbl[1614]? = some (Cond.code (dmN 170) (dmB 170) (dmP 170).2.1 (dmP 170).2.2.1) := by decide +kernel
theorem cd_171 : lw_tbl[1656]? = some (Cond.code (dmN 171) (dmB 171) (dmP 171).2.1 (dmP 171).2.2.1) := by decide +kernel
theorem cd_172 : lw_tbl[1574]? = some (Cond.code (dmN 172) (dmB 172) (dmP 172).2.1 (dmP 172).2.2.1) := by decide +kernel
theorem cd_173 : lw_tbl[1562]? = some (Cond.code (dmN 173) (dmB 173) (dmP 173).2.1 (dmP 173).2.2.1) := by decide +kernel
theorem cd_174 : lw_tbl[1639]? = some (Cond.code (dmN 174) (dmB 174) (dmP 174).2.1 (dmP 174).2.2.1) := by decide +kernel
theorem cd_175 : lw_tbl[1513]? = some (Cond.code (dmN 175) (dmB 175) (dmP 175).2.1 (dmP 175).2.2.1) := by decide +kernel
theorem cd_176 : lw_tbl[1582]? = some (Cond.code (dmN 176) (dmB 176) (dmP 176).2.1 (dmP 176).2.2.1) := by decide +kernel
theorem cd_177 : lw_tbl[1542]? = some (Cond.code (dmN 177) (dmB 177) (dmP 177).2.1 (dmP 177).2.2.1) := by decide +kernel
theorem cd_178 : lw_tbl[1553]? = some (Cond.code (dmN 178) (dmB 178) (dmP 178).2.1 (dmP 178).2.2.1) := by decide +kernel
theorem cd_179 : lw_tbl[1586]? = some (Cond.code (dmN 179) (dmB 179) (dmP 179).2.1 (dmP 179).2.2.1) := by decide +kernel
theorem cd_180 : lw_tbl[1626]? = some (Cond.code (dmN 180) (dmB 180) (dmP 180).2.1 (dmP 180).2.2.1) := by decide +kernel
theorem cd_181 : lw_tbl[1610]? = some (Cond.code (dmN 181) (dmB 181) (dmP 181).2.1 (dmP 181).2.2.1) := by decide +kernel
theorem cd_182 : lw_tbl[1633]? = some (Cond.code (dmN 182) (dmB 182) (dmP 182).2.1 (dmP 182).2.2.1) := by decide +kernel
theorem cd_183 : lw_tbl[1643]? = some (Cond.code (dmN 183) (dmB 183) (dmP 183).2.1 (dmP 183).2.2.1) := by decide +kernel
theorem cd_184 : lw_tbl[1647]? = some (Cond.code (dmN 184) (dmB 184) (dmP 184).2.1 (dmP 184).2.2.1) := by decide +kernel
theorem cd_185 : lw_tbl[1661]? = some (Cond.code (dmN 185) (dmB 185) (dmP 185).2.1 (dmP 185).2.2.1) := by decide +kernel
theorem cd_186 : lw_tbl[1667]? = some (Cond.code (dmN 186) (dmB 186) (dmP 186).2.1 (dmP 186).2.2.1) := by decide +kernel
theorem cd_187 : lw_tbl[1672]? = some (Cond.code (dmN 187) (dmB 187) (dmP 187).2.1 (dmP 187).2.2.1) := by decide +kernel
theorem cd_188 : lw_tbl[1679]? = some (Cond.code (dmN 188) (dmB 188) (dmP 188).2.1 (dmP 188).2.2.1) := by decide +kernel
theorem cd_189 : lw_tbl[1683]? = some (Cond.code (dmN 189) (dmB 189) (dmP 189).2.1 (dmP 189).2.2.1) := by decide +kernel
theorem cd_190 : lw_tbl[1707]? = some (Cond.code (dmN 190) (dmB 190) (dmP 190).2.1 (dmP 190).2.2.1) := by decide +kernel
theorem cd_191 : lw_tbl[1691]? = some (Cond.code (dmN 191) (dmB 191) (dmP 191).2.1 (dmP 191).2.2.1) := by decide +kernel
theorem cd_192 : lw_tbl[1727]? = some (Cond.code (dmN 192) (dmB 192) (dmP 192).2.1 (dmP 192).2.2.1) := by decide +kernel
theorem cd_193 : lw_tbl[1719]? = some (Cond.code (dmN 193) (dmB 193) (dmP 193).2.1 (dmP 193).2.2.1) := by decide +kernel
theorem cd_194 : lw_tbl[1731]? = some (Cond.code (dmN 194) (dmB 194) (dmP 194).2.1 (dmP 194).2.2.1) := by decide +kernel
theorem cd_195 : lw_tbl[1931]? = some (Cond.code (dmN 195) (dmB 195) (dmP 195).2.1 (dmP 195).2.2.1) := by decide +kernel
theorem cd_196 : lw_tbl[1699]? = some (Cond.code (dmN 196) (dmB 196) (dmP 196).2.1 (dmP 196).2.2.1) := by decide +kernel
theorem cd_197 : lw_tbl[1695]? = some (Cond.code (dmN 197) (dmB 197) (dmP 197).2.1 (dmP 197).2.2.1) := by decide +kernel
theorem cd_198 : lw_tbl[1711]? = some (Cond.code (dmN 198) (dmB 198) (dmP 198).2.1 (dmP 198).2.2.1) := by decide +kernel
theorem cd_199 : lw_tbl[1687]? = some (Cond.code (dmN 199) (dmB 199) (dmP 199).2.1 (dmP 199).2.2.1) := by decide +kernel
theorem cd_200 : lw_tbl[1703]? = some (Cond.code (dmN 200) (dmB 200) (dmP 200).2.1 (dmP 200).2.2.1) := by decide +kernel
theorem cd_201 : lw_tbl[1715]? = some (Cond.code (dmN 201) (dmB 201) (dmP 201).2.1 (dmP 201).2.2.1) := by decide +kernel
theorem cd_202 : lw_tbl[1739]? = some (Cond.code (dmN 202) (dmB 202) (dmP 202).2.1 (dmP 202).2.2.1) := by decide +kernel
theorem cd_203 : lw_tbl[1747]? = some (Cond.code (dmN 203) (dmB 203) (dmP 203).2.1 (dmP 203).2.2.1) := by decide +kernel
theorem cd_204 : lw_tbl[1751]? = some (Cond.code (dmN 204) (dmB 204) (dmP 204).2.1 (dmP 204).2.2.1) := by decide +kernel
theorem cd_205 : lw_tbl[1743]? = some (Cond.code (dmN 205) (dmB 205) (dmP 205).2.1 (dmP 205).2.2.1) := by decide +kernel
theorem cd_206 : lw_tbl[1755]? = some (Cond.code (dmN 206) (dmB 206) (dmP 206).2.1 (dmP 206).2.2.1) := by decide +kernel
theorem cd_207 : lw_tbl[1759]? = some (Cond.code (dmN 207) (dmB 207) (dmP 207).2.1 (dmP 207).2.2.1) := by decide +kernel
theorem cd_208 : lw_tbl[1783]? = some (Cond.code (dmN 208) (dmB 208) (dmP 208).2.1 (dmP 208).2.2.1) := by decide +kernel
theorem cd_209 : lw_tbl[1779]? = some (Cond.code (dmN 209) (dmB 209) (dmP 209).2.1 (dmP 209).2.2.1) := by decide +kernel
theorem cd_210 : lw_tbl[1735]? = some (Cond.code (dmN 210) (dmB 210) (dmP 210).2.1 (dmP 210).2.2.1) := by decide +kernel
theorem cd_211 : lw_tbl[1763]? = some (Cond.code (dmN 211) (dmB 211) (dmP 211).2.1 (dmP 211).2.2.1) := by decide +kernel
theorem cd_212 : lw_tbl[1791]? = some (Cond.code (dmN 212) (dmB 212) (dmP 212).2.1 (dmP 212).2.2.1) := by decide +kernel
theorem cd_213 : lw_tbl[1723]? = some (Cond.code (dmN 213) (dmB 213) (dmP 213).2.1 (dmP 213).2.2.1) := by decide +kernel
theorem cd_214 : lw_tbl[1767]? = some (Cond.code (dmN 214) (dmB 214) (dmP 214).2.1 (dmP 214).2.2.1) := by decide +kernel
theorem cd_215 : lw_tbl[1771]? = some (Cond.code (dmN 215) (dmB 215) (dmP 215).2.1 (dmP 215).2.2.1) := by decide +kernel
theorem cd_216 : lw_tbl[1775]? = some (Cond.code (dmN 216) (dmB 216) (dmP 216).2.1 (dmP 216).2.2.1) := by decide +kernel
theorem cd_217 : lw_tbl[1787]? = some (Cond.code (dmN 217) (dmB 217) (dmP 217).2.1 (dmP 217).2.2.1) := by decide +kernel
theorem cd_218 : lw_tbl[1795]? = some (Cond.code (dmN 218) (dmB 218) (dmP 218).2.1 (dmP 218).2.2.1) := by decide +kernel
theorem cd_219 : lw_tbl[1799]? = some (Cond.code (dmN 219) (dmB 219) (dmP 219).2.1 (dmP 219).2.2.1) := by decide +kernel
theorem cd_220 : lw_tbl[1803]? = some (Cond.code (dmN 220) (dmB 220) (dmP 220).2.1 (dmP 220).2.2.1) := by decide +kernel
theorem cd_221 : lw_tbl[1811]? = some (Cond.code (dmN 221) (dmB 221) (dmP 221).2.1 (dmP 221).2.2.1) := by decide +kernel
theorem cd_222 : lw_tbl[1807]? = some (Cond.code (dmN 222) (dmB 222) (dmP 222).2.1 (dmP 222).2.2.1) := by decide +kernel
theorem cd_223 : lw_tbl[1815]? = some (Cond.code (dmN 223) (dmB 223) (dmP 223).2.1 (dmP 223).2.2.1) := by decide +kernel
theorem cd_224 : lw_tbl[1819]? = some (Cond.code (dmN 224) (dmB 224) (dmP 224).2.1 (dmP 224).2.2.1) := by decide +kernel
theorem cd_225 : lw_tbl[1835]? = some (Cond.code (dmN 225) (dmB 225) (dmP 225).2.1 (dmP 225).2.2.1) := by decide +kernel
theorem cd_226 : lw_tbl[1839]? = some (Cond.code (dmN 226) (dmB 226) (dmP 226).2.1 (dmP 226).2.2.1) := by decide +kernel
theorem cd_227 : lw_tbl[1827]? = some (Cond.code (dmN 227) (dmB 227) (dmP 227).2.1 (dmP 227).2.2.1) := by decide +kernel
theorem cd_228 : lw_tbl[1831]? = some (Cond.code (dmN 228) (dmB 228) (dmP 228).2.1 (dmP 228).2.2.1) := by decide +kernel
theorem cd_229 : lw_tbl[1823]? = some (Cond.code (dmN 229) (dmB 229) (dmP 229).2.1 (dmP 229).2.2.1) := by decide +kernel
theorem cd_230 : lw_tbl[1843]? = some (Cond.code (dmN 230) (dmB 230) (dmP 230).2.1 (dmP 230).2.2.1) := by decide +kernel
theorem cd_231 : lw_tbl[1847]? = some (Cond.code (dmN 231) (dmB 231) (dmP 231).2.1 (dmP 231).2.2.1) := by decide +kernel
theorem cd_232 : lw_tbl[1855]? = some (Cond.code (dmN 232) (dmB 232) (dmP 232).2.1 (dmP 232).2.2.1) := by decide +kernel
theorem cd_233 : lw_tbl[1860]? = some (Cond.code (dmN 233) (dmB 233) (dmP 233).2.1 (dmP 233).2.2.1) := by decide +kernel
theorem cd_234 : lw_tbl[1851]? = some (Cond.code (dmN 234) (dmB 234) (dmP 234).2.1 (dmP 234).2.2.1) := by decide +kernel
theorem cd_235 : lw_tbl[1864]? = some (Cond.code (dmN 235) (dmB 235) (dmP 235).2.1 (dmP 235).2.2.1) := by decide +kernel
theorem cd_236 : lw_tbl[1880]? = some (Cond.code (dmN 236) (dmB 236) (dmP 236).2.1 (dmP 236).2.2.1) := by decide +kernel
theorem cd_237 : lw_tbl[1876]? = some (Cond.code (dmN 237) (dmB 237) (dmP 237).2.1 (dmP 237).2.2.1) := by decide +kernel
theorem cd_238 : lw_tbl[1872]? = some (Cond.code (dmN 238) (dmB 238) (dmP 238).2.1 (dmP 238).2.2.1) := by decide +kernel
theorem cd_239 : lw_tbl[1896]? = some (Cond.code (dmN 239) (dmB 239) (dmP 239).2.1 (dmP 239).2.2.1) := by decide +kernel
theorem cd_240 : lw_tbl[1900]? = some (Cond.code (dmN 240) (dmB 240) (dmP 240).2.1 (dmP 240).2.2.1) := by decide +kernel
theorem cd_241 : lw_tbl[1868]? = some (Cond.code (dmN 241) (dmB 241) (dmP 241).2.1 (dmP 241).2.2.1) := by decide +kernel
theorem cd_242 : lw_tbl[1892]? = some (Cond.code (dmN 242) (dmB 242) (dmP 242).2.1 (dmP 242).2.2.1) := by decide +kernel
theorem cd_243 : lw_tbl[1888]? = some (Cond.code (dmN 243) (dmB 243) (dmP 243).2.1 (dmP 243).2.2.1) := by decide +kernel
theorem cd_244 : lw_tbl[1884]? = some (Cond.code (dmN 244) (dmB 244) (dmP 244).2.1 (dmP 244).2.2.1) := by decide +kernel
theorem cd_245 : lw_tbl[1904]? = some (Cond.code (dmN 245) (dmB 245) (dmP 245).2.1 (dmP 245).2.2.1) := by decide +kernel
theorem cd_246 : lw_tbl[1912]? = some (Cond.code (dmN 246) (dmB 246) (dmP 246).2.1 (dmP 246).2.2.1) := by decide +kernel
theorem cd_247 : lw_tbl[1919]? = some (Cond.code (dmN 247) (dmB 247) (dmP 247).2.1 (dmP 247).2.2.1) := by decide +kernel
theorem cd_248 : lw_tbl[1908]? = some (Cond.code (dmN 248) (dmB 248) (dmP 248).2.1 (dmP 248).2.2.1) := by decide +kernel
theorem cd_249 : lw_tbl[1923]? = some (Cond.code (dmN 249) (dmB 249) (dmP 249).2.1 (dmP 249).2.2.1) := by decide +kernel
theorem cd_250 : lw_tbl[1943]? = some (Cond.code (dmN 250) (dmB 250) (dmP 250).2.1 (dmP 250).2.2.1) := by decide +kernel
theorem cd_251 : lw_tbl[1939]? = some (Cond.code (dmN 251) (dmB 251) (dmP 251).2.1 (dmP 251).2.2.1) := by decide +kernel
theorem cd_252 : lw_tbl[1935]? = some (Cond.code (dmN 252) (dmB 252) (dmP 252).2.1 (dmP 252).2.2.1) := by decide +kernel
theorem cd_253 : lw_tbl[1927]? = some (Cond.code (dmN 253) (dmB 253) (dmP 253).2.1 (dmP 253).2.2.1) := by decide +kernel
theorem cd_254 : lw_tbl[1959]? = some (Cond.code (dmN 254) (dmB 254) (dmP 254).2.1 (dmP 254).2.2.1) := by decide +kernel
theorem cd_255 : lw_tbl[1955]? = some (Cond.code (dmN 255) (dmB 255) (dmP 255).2.1 (dmP 255).2.2.1) := by decide +kernel
theorem cd_256 : lw_tbl[1951]? = some (Cond.code (dmN 256) (dmB 256) (dmP 256).2.1 (dmP 256).2.2.1) := by decide +kernel
theorem cd_257 : lw_tbl[1947]? = some (Cond.code (dmN 257) (dmB 257) (dmP 257).2.1 (dmP 257).2.2.1) := by decide +kernel
theorem cd_258 : lw_tbl[1963]? = some (Cond.code (dmN 258) (dmB 258) (dmP 258).2.1 (dmP 258).2.2.1) := by decide +kernel
theorem cd_259 : lw_tbl[1979]? = some (Cond.code (dmN 259) (dmB 259) (dmP 259).2.1 (dmP 259).2.2.1) := by decide +kernel
theorem cd_260 : lw_tbl[1975]? = some (Cond.code (dmN 260) (dmB 260) (dmP 260).2.1 (dmP 260).2.2.1) := by decide +kernel
theorem cd_261 : lw_tbl[1971]? = some (Cond.code (dmN 261) (dmB 261) (dmP 261).2.1 (dmP 261).2.2.1) := by decide +kernel
theorem cd_262 : lw_tbl[1967]? = some (Cond.code (dmN 262) (dmB 262) (dmP 262).2.1 (dmP 262).2.2.1) := by decide +kernel
theorem cd_263 : lw_tbl[1983]? = some (Cond.code (dmN 263) (dmB 263) (dmP 263).2.1 (dmP 263).2.2.1) := by decide +kernel
theorem cd_264 : lw_tbl[1987]? = some (Cond.code (dmN 264) (dmB 264) (dmP 264).2.1 (dmP 264).2.2.1) := by decide +kernel
theorem cd_265 : lw_tbl[1993]? = some (Cond.code (dmN 265) (dmB 265) (dmP 265).2.1 (dmP 265).2.2.1) := by decide +kernel
theorem cd_266 : lw_tbl[2001]? = some (Cond.code (dmN 266) (dmB 266) (dmP 266).2.1 (dmP 266).2.2.1) := by decide +kernel
theorem cd_267 : lw_tbl[1997]? = some (Cond.code (dmN 267) (dmB 267) (dmP 267).2.1 (dmP 267).2.2.1) := by decide +kernel
theorem cd_268 : lw_tbl[2013]? = some (Cond.code (dmN 268) (dmB 268) (dmP 268).2.1 (dmP 268).2.2.1) := by decide +kernel
theorem cd_269 : lw_tbl[2005]? = some (Cond.code (dmN 269) (dmB 269) (dmP 269).2.1 (dmP 269).2.2.1) := by decide +kernel
theorem cd_270 : lw_tbl[2017]? = some (Cond.code (dmN 270) (dmB 270) (dmP 270).2.1 (dmP 270).2.2.1) := by decide +kernel
theorem cd_271 : lw_tbl[2021]? = some (Cond.code (dmN 271) (dmB 271) (dmP 271).2.1 (dmP 271).2.2.1) := by decide +kernel
theorem cd_272 : lw_tbl[2025]? = some (Cond.code (dmN 272) (dmB 272) (dmP 272).2.1 (dmP 272).2.2.1) := by decide +kernel
theorem cd_273 : lw_tbl[2029]? = some (Cond.code (dmN 273) (dmB 273) (dmP 273).2.1 (dmP 273).2.2.1) := by decide +kernel
theorem cd_274 : lw_tbl[2033]? = some (Cond.code (dmN 274) (dmB 274) (dmP 274).2.1 (dmP 274).2.2.1) := by decide +kernel
theorem cd_275 : lw_tbl[2037]? = some (Cond.code (dmN 275) (dmB 275) (dmP 275).2.1 (dmP 275).2.2.1) := by decide +kernel
theorem cd_276 : lw_tbl[2041]? = some (Cond.code (dmN 276) (dmB 276) (dmP 276).2.1 (dmP 276).2.2.1) := by decide +kernel
theorem cd_277 : lw_tbl[2045]? = some (Cond.code (dmN 277) (dmB 277) (dmP 277).2.1 (dmP 277).2.2.1) := by decide +kernel
theorem cd_278 : lw_tbl[2049]? = some (Cond.code (dmN 278) (dmB 278) (dmP 278).2.1 (dmP 278).2.2.1) := by decide +kernel
theorem cd_279 : lw_tbl[1149]? = some (Cond.code (dmN 279) (dmB 279) (dmP 279).2.1 (dmP 279).2.2.1) := by decide +kernel
theorem dm_cdm (y : Nat) (h : y < 280) : Cond.code (dmN y) (dmB y) (dmP y).2.1 (dmP y).2.2.1 ∈ dm_tb := match y, h with
  | 0, _ => dm_mm cd_0 rfl
  | 1, _ => dm_mm cd_1 rfl
  | 2, _ => dm_mm cd_2 rfl
  | 3, _ => dm_mm cd_3 rfl
  | 4, _ => dm_mm cd_4 rfl
  | 5, _ => dm_mm cd_5 rfl
  | 6, _ => dm_mm cd_6 rfl
  | 7, _ => dm_mm cd_7 rfl
  | 8, _ => dm_mm cd_8 rfl
  | 9, _ => dm_mm cd_9 rfl
  | 10, _ => dm_mm cd_10 rfl
  | 11, _ => dm_mm cd_11 rfl
  | 12, _ => dm_mm cd_12 rfl
  | 13, _ => dm_mm cd_13 rfl
  | 14, _ => dm_mm cd_14 rfl
  | 15, _ => dm_mm cd_15 rfl
  | 16, _ => dm_mm cd_16 rfl
  | 17, _ => dm_mm cd_17 rfl
  | 18, _ => dm_mm cd_18 rfl
  | 19, _ => dm_mm cd_19 rfl
  | 20, _ => dm_mm cd_20 rfl
  | 21, _ => dm_mm cd_21 rfl
  | 22, _ => dm_mm cd_22 rfl
  | 23, _ => dm_mm cd_23 rfl
  | 24, _ => dm_mm cd_24 rfl
  | 25, _ => dm_mm cd_25 rfl
  | 26, _ => dm_mm cd_26 rfl
  | 27, _ => dm_mm cd_27 rfl
  | 28, _ => dm_mm cd_28 rfl
  | 29, _ => dm_mm cd_29 rfl
  | 30, _ => dm_mm cd_30 rfl
  | 31, _ => dm_mm cd_31 rfl
  | 32, _ => dm_mm cd_32 rfl
  | 33, _ => dm_mm cd_33 rfl
  | 34, _ => dm_mm cd_34 rfl
  | 35, _ => dm_mm cd_35 rfl
  | 36, _ => dm_mm cd_36 rfl
  | 37, _ => dm_mm cd_37 rfl
  | 38, _ => dm_mm cd_38 rfl
  | 39, _ => dm_mm cd_39 rfl
  | 40, _ => dm_mm cd_40 rfl
  | 41, _ => dm_mm cd_41 rfl
  | 42, _ => dm_mm cd_42 rfl
  | 43, _ => dm_mm cd_43 rfl
  | 44, _ => dm_mm cd_44 rfl
  | 45, _ => dm_mm cd_45 rfl
  | 46, _ => dm_mm cd_46 rfl
  | 47, _ => dm_mm cd_47 rfl
  | 48, _ => dm_mm cd_48 rfl
  | 49, _ => dm_mm cd_49 rfl
  | 50, _ => dm_mm cd_50 rfl
  | 51, _ => dm_mm cd_51 rfl
  | 52, _ => dm_mm cd_52 rfl
  | 53, _ => dm_mm cd_53 rfl
  | 54, _ => dm_mm cd_54 rfl
  | 55, _ => dm_mm cd_55 rfl
  | 56, _ => dm_mm cd_56 rfl
  | 57, _ => dm_mm cd_57 rfl
  | 58, _ => dm_mm cd_58 rfl
  | 59, _ => dm_mm cd_59 rfl
  | 60, _ => dm_mm cd_60 rfl
  | 61, _ => dm_mm cd_61 rfl
  | 62, _ => dm_mm cd_62 rfl
  | 63, _ => dm_mm cd_63 rfl
  | 64, _ => dm_mm cd_64 rfl
  | 65, _ => dm_mm cd_65 rfl
  | 66, _ => dm_mm cd_66 rfl
  | 67, _ => dm_mm cd_67 rfl
  | 68, _ => dm_mm cd_68 rfl
  | 69, _ => dm_mm cd_69 rfl
  | 70, _ => dm_mm cd_70 rfl
  | 71, _ => dm_mm cd_71 rfl
  | 72, _ => dm_mm cd_72 rfl
  | 73, _ => dm_mm cd_73 rfl
  | 74, _ => dm_mm cd_74 rfl
  | 75, _ => dm_mm cd_75 rfl
  | 76, _ => dm_mm cd_76 rfl
  | 77, _ => dm_mm cd_77 rfl
  | 78, _ => dm_mm cd_78 rfl
  | 79, _ => dm_mm cd_79 rfl
  | 80, _ => dm_mm cd_80 rfl
  | 81, _ => dm_mm cd_81 rfl
  | 82, _ => dm_mm cd_82 rfl
  | 83, _ => dm_mm cd_83 rfl
  | 84, _ => dm_mm cd_84 rfl
  | 85, _ => dm_mm cd_85 rfl
  | 86, _ => dm_mm cd_86 rfl
  | 87, _ => dm_mm cd_87 rfl
  | 88, _ => dm_mm cd_88 rfl
  | 89, _ => dm_mm cd_89 rfl
  | 90, _ => dm_mm cd_90 rfl
  | 91, _ => dm_mm cd_91 rfl
  | 92, _ => dm_mm cd_92 rfl
  | 93, _ => dm_mm cd_93 rfl
  | 94, _ => dm_mm cd_94 rfl
  | 95, _ => dm_mm cd_95 rfl
  | 96, _ => dm_mm cd_96 rfl
  | 97, _ => dm_mm cd_97 rfl
  | 98, _ => dm_mm cd_98 rfl
  | 99, _ => dm_mm cd_99 rfl
  | 100, _ => dm_mm cd_100 rfl
  | 101, _ => dm_mm cd_101 rfl
  | 102, _ => dm_mm cd_102 rfl
  | 103, _ => dm_mm cd_103 rfl
  | 104, _ => dm_mm cd_104 rfl
  | 105, _ => dm_mm cd_105 rfl
  | 106, _ => dm_mm cd_106 rfl
  | 107, _ => dm_mm cd_107 rfl
  | 108, _ => dm_mm cd_108 rfl
  | 109, _ => dm_mm cd_109 rfl
  | 110, _ => dm_mm cd_110 rfl
  | 111, _ => dm_mm cd_111 rfl
  | 112, _ => dm_mm cd_112 rfl
  | 113, _ => dm_mm cd_113 rfl
  | 114, _ => dm_mm cd_114 rfl
  | 115, _ => dm_mm cd_115 rfl
  | 116, _ => dm_mm cd_116 rfl
  | 117, _ => dm_mm cd_117 rfl
  | 118, _ => dm_mm cd_118 rfl
  | 119, _ => dm_mm cd_119 rfl
  | 120, _ => dm_mm cd_120 rfl
  | 121, _ => dm_mm cd_121 rfl
  | 122, _ => dm_mm cd_122 rfl
  | 123, _ => dm_mm cd_123 rfl
  | 124, _ => dm_mm cd_124 rfl
  | 125, _ => dm_mm cd_125 rfl
  | 126, _ => dm_mm cd_126 rfl
  | 127, _ => dm_mm cd_127 rfl
  | 128, _ => dm_mm cd_128 rfl
  | 129, _ => dm_mm cd_129 rfl
  | 130, _ => dm_mm cd_130 rfl
  | 131, _ => dm_mm cd_131 rfl
  | 132, _ => dm_mm cd_132 rfl
  | 133, _ => dm_mm cd_133 rfl
  | 134, _ => dm_mm cd_134 rfl
  | 135, _ => dm_mm cd_135 rfl
  | 136, _ => dm_mm cd_136 rfl
  | 137, _ => dm_mm cd_137 rfl
  | 138, _ => dm_mm cd_138 rfl
  | 139, _ => dm_mm cd_139 rfl
  | 140, _ => dm_mm cd_140 rfl
  | 141, _ => dm_mm cd_141 rfl
  | 142, _ => dm_mm cd_142 rfl
  | 143, _ => dm_mm cd_143 rfl
  | 144, _ => dm_mm cd_144 rfl
  | 145, _ => dm_mm cd_145 rfl
  | 146, _ => dm_mm cd_146 rfl
  | 147, _ => dm_mm cd_147 rfl
  | 148, _ => dm_mm cd_148 rfl
  | 149, _ => dm_mm cd_149 rfl
  | 150, _ => dm_mm cd_150 rfl
  | 151, _ => dm_mm cd_151 rfl
  | 152, _ => dm_mm cd_152 rfl
  | 153, _ => dm_mm cd_153 rfl
  | 154, _ => dm_mm cd_154 rfl
  | 155, _ => dm_mm cd_155 rfl
  | 156, _ => dm_mm cd_156 rfl
  | 157, _ => dm_mm cd_157 rfl
  | 158, _ => dm_mm cd_158 rfl
  | 159, _ => dm_mm cd_159 rfl
  | 160, _ => dm_mm cd_160 rfl
  | 161, _ => dm_mm cd_161 rfl
  | 162, _ => dm_mm cd_162 rfl
  | 163, _ => dm_mm cd_163 rfl
  | 164, _ => dm_mm cd_164 rfl
  | 165, _ => dm_mm cd_165 rfl
  | 166, _ => dm_mm cd_166 rfl
  | 167, _ => dm_mm cd_167 rfl
  | 168, _ => dm_mm cd_168 rfl
  | 169, _ => dm_mm cd_169 rfl
  | 170, _ => dm_mm cd_170 rfl
  | 171, _ => dm_mm cd_171 rfl
  | 172, _ => dm_mm cd_172 rfl
  | 173, _ => dm_mm cd_173 rfl
  | 174, _ => dm_mm cd_174 rfl
  | 175, _ => dm_mm cd_175 rfl
  | 176, _ => dm_mm cd_176 rfl
  | 177, _ => dm_mm cd_177 rfl
  | 178, _ => dm_mm cd_178 rfl
  | 179, _ => dm_mm cd_179 rfl
  | 180, _ => dm_mm cd_180 rfl
  | 181, _ => dm_mm cd_181 rfl
  | 182, _ => dm_mm cd_182 rfl
  | 183, _ => dm_mm cd_183 rfl
  | 184, _ => dm_mm cd_184 rfl
  | 185, _ => dm_mm cd_185 rfl
  | 186, _ => dm_mm cd_186 rfl
  | 187, _ => dm_mm cd_187 rfl
  | 188, _ => dm_mm cd_188 rfl
  | 189, _ => dm_mm cd_189 rfl
  | 190, _ => dm_mm cd_190 rfl
  | 191, _ => dm_mm cd_191 rfl
  | 192, _ => dm_mm cd_192 rfl
  | 193, _ => dm_mm cd_193 rfl
  | 194, _ => dm_mm cd_194 rfl
  | 195, _ => dm_mm cd_195 rfl
  | 196, _ => dm_mm cd_196 rfl
  | 197, _ => dm_mm cd_197 rfl
  | 198, _ => dm_mm cd_198 rfl
  | 199, _ => dm_mm cd_199 rfl
  | 200, _ => dm_mm cd_200 rfl
  | 201, _ => dm_mm cd_201 rfl
  | 202, _ => dm_mm cd_202 rfl
  | 203, _ => dm_mm cd_203 rfl
  | 204, _ => dm_mm cd_204 rfl
  | 205, _ => dm_mm cd_205 rfl
  | 206, _ => dm_mm cd_206 rfl
  | 207, _ => dm_mm cd_207 rfl
  | 208, _ => dm_mm cd_208 rfl
  | 209, _ => dm_mm cd_209 rfl
  | 210, _ => dm_mm cd_210 rfl
  | 211, _ => dm_mm cd_211 rfl
  | 212, _ => dm_mm cd_212 rfl
  | 213, _ => dm_mm cd_213 rfl
  | 214, _ => dm_mm cd_214 rfl
  | 215, _ => dm_mm cd_215 rfl
  | 216, _ => dm_mm cd_216 rfl
  | 217, _ => dm_mm cd_217 rfl
  | 218, _ => dm_mm cd_218 rfl
  | 219, _ => dm_mm cd_219 rfl
  | 220, _ => dm_mm cd_220 rfl
  | 221, _ => dm_mm cd_221 rfl
  | 222, _ => dm_mm cd_222 rfl
  | 223, _ => dm_mm cd_223 rfl
  | 224, _ => dm_mm cd_224 rfl
  | 225, _ => dm_mm cd_225 rfl
  | 226, _ => dm_mm cd_226 rfl
  | 227, _ => dm_mm cd_227 rfl
  | 228, _ => dm_mm cd_228 rfl
  | 229, _ => dm_mm cd_229 rfl
  | 230, _ => dm_mm cd_230 rfl
  | 231, _ => dm_mm cd_231 rfl
  | 232, _ => dm_mm cd_232 rfl
  | 233, _ => dm_mm cd_233 rfl
  | 234, _ => dm_mm cd_234 rfl
  | 235, _ => dm_mm cd_235 rfl
  | 236, _ => dm_mm cd_236 rfl
  | 237, _ => dm_mm cd_237 rfl
  | 238, _ => dm_mm cd_238 rfl
  | 239, _ => dm_mm cd_239 rfl
  | 240, _ => dm_mm cd_240 rfl
  | 241, _ => dm_mm cd_241 rfl
  | 242, _ => dm_mm cd_242 rfl
  | 243, _ => dm_mm cd_243 rfl
  | 244, _ => dm_mm cd_244 rfl
  | 245, _ => dm_mm cd_245 rfl
  | 246, _ => dm_mm cd_246 rfl
  | 247, _ => dm_mm cd_247 rfl
  | 248, _ => dm_mm cd_248 rfl
  | 249, _ => dm_mm cd_249 rfl
  | 250, _ => dm_mm cd_250 rfl
  | 251, _ => dm_mm cd_251 rfl
  | 252, _ => dm_mm cd_252 rfl
  | 253, _ => dm_mm cd_253 rfl
  | 254, _ => dm_mm cd_254 rfl
  | 255, _ => dm_mm cd_255 rfl
  | 256, _ => dm_mm cd_256 rfl
  | 257, _ => dm_mm cd_257 rfl
  | 258, _ => dm_mm cd_258 rfl
  | 259, _ => dm_mm cd_259 rfl
  | 260, _ => dm_mm cd_260 rfl
  | 261, _ => dm_mm cd_261 rfl
  | 262, _ => dm_mm cd_262 rfl
  | 263, _ => dm_mm cd_263 rfl
  | 264, _ => dm_mm cd_264 rfl
  | 265, _ => dm_mm cd_265 rfl
  | 266, _ => dm_mm cd_266 rfl
  | 267, _ => dm_mm cd_267 rfl
  | 268, _ => dm_mm cd_268 rfl
  | 269, _ => dm_mm cd_269 rfl
  | 270, _ => dm_mm cd_270 rfl
  | 271, _ => dm_mm cd_271 rfl
  | 272, _ => dm_mm cd_272 rfl
  | 273, _ => dm_mm cd_273 rfl
  | 274, _ => dm_mm cd_274 rfl
  | 275, _ => dm_mm cd_275 rfl
  | 276, _ => dm_mm cd_276 rfl
  | 277, _ => dm_mm cd_277 rfl
  | 278, _ => dm_mm cd_278 rfl
  | 279, _ => dm_mm cd_279 rfl
  | n + 280, h => absurd h (by omega)
theorem dm_plain : ∀ y, y < 282 → plainName (dmN y).cls = true := by decide +kernel
