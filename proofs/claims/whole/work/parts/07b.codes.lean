/-! Each method's code is the tables'. -/
set_option maxRecDepth 100000 in
theorem cd_0 : Cond.code (yn 0) (bc 0) (mL 0) (rt 0) ∈ lw_tbl := List.mem_of_getElem? (i := 241) rfl
set_option maxRecDepth 100000 in
theorem cd_1 : Cond.code (yn 1) (bc 1) (mL 1) (rt 1) ∈ lw_tbl := List.mem_of_getElem? (i := 563) rfl
set_option maxRecDepth 100000 in
theorem cd_2 : Cond.code (yn 2) (bc 2) (mL 2) (rt 2) ∈ lw_tbl := List.mem_of_getElem? (i := 1287) rfl
set_option maxRecDepth 100000 in
theorem cd_3 : Cond.code (yn 3) (bc 3) (mL 3) (rt 3) ∈ lw_tbl := List.mem_of_getElem? (i := 1238) rfl
set_option maxRecDepth 100000 in
theorem cd_4 : Cond.code (yn 4) (bc 4) (mL 4) (rt 4) ∈ lw_tbl := List.mem_of_getElem? (i := 1247) rfl
set_option maxRecDepth 100000 in
theorem cd_5 : Cond.code (yn 5) (bc 5) (mL 5) (rt 5) ∈ lw_tbl := List.mem_of_getElem? (i := 1279) rfl
set_option maxRecDepth 100000 in
theorem cd_6 : Cond.code (yn 6) (bc 6) (mL 6) (rt 6) ∈ lw_tbl := List.mem_of_getElem? (i := 1251) rfl
set_option maxRecDepth 100000 in
theorem cd_7 : Cond.code (yn 7) (bc 7) (mL 7) (rt 7) ∈ lw_tbl := List.mem_of_getElem? (i := 1230) rfl
set_option maxRecDepth 100000 in
theorem cd_8 : Cond.code (yn 8) (bc 8) (mL 8) (rt 8) ∈ lw_tbl := List.mem_of_getElem? (i := 218) rfl
set_option maxRecDepth 100000 in
theorem cd_9 : Cond.code (yn 9) (bc 9) (mL 9) (rt 9) ∈ lw_tbl := List.mem_of_getElem? (i := 692) rfl
set_option maxRecDepth 100000 in
theorem cd_10 : Cond.code (yn 10) (bc 10) (mL 10) (rt 10) ∈ lw_tbl := List.mem_of_getElem? (i := 805) rfl
set_option maxRecDepth 100000 in
theorem cd_11 : Cond.code (yn 11) (bc 11) (mL 11) (rt 11) ∈ lw_tbl := List.mem_of_getElem? (i := 912) rfl
set_option maxRecDepth 100000 in
theorem cd_12 : Cond.code (yn 12) (bc 12) (mL 12) (rt 12) ∈ lw_tbl := List.mem_of_getElem? (i := 785) rfl
set_option maxRecDepth 100000 in
theorem cd_13 : Cond.code (yn 13) (bc 13) (mL 13) (rt 13) ∈ lw_tbl := List.mem_of_getElem? (i := 1147) rfl
set_option maxRecDepth 100000 in
theorem cd_14 : Cond.code (yn 14) (bc 14) (mL 14) (rt 14) ∈ lw_tbl := List.mem_of_getElem? (i := 1135) rfl
set_option maxRecDepth 100000 in
theorem cd_15 : Cond.code (yn 15) (bc 15) (mL 15) (rt 15) ∈ lw_tbl := List.mem_of_getElem? (i := 1143) rfl
set_option maxRecDepth 100000 in
theorem cd_16 : Cond.code (yn 16) (bc 16) (mL 16) (rt 16) ∈ lw_tbl := List.mem_of_getElem? (i := 1139) rfl
set_option maxRecDepth 100000 in
theorem cd_17 : Cond.code (yn 17) (bc 17) (mL 17) (rt 17) ∈ lw_tbl := List.mem_of_getElem? (i := 188) rfl
set_option maxRecDepth 100000 in
theorem cd_18 : Cond.code (yn 18) (bc 18) (mL 18) (rt 18) ∈ lw_tbl := List.mem_of_getElem? (i := 578) rfl
set_option maxRecDepth 100000 in
theorem cd_19 : Cond.code (yn 19) (bc 19) (mL 19) (rt 19) ∈ lw_tbl := List.mem_of_getElem? (i := 732) rfl
set_option maxRecDepth 100000 in
theorem cd_20 : Cond.code (yn 20) (bc 20) (mL 20) (rt 20) ∈ lw_tbl := List.mem_of_getElem? (i := 768) rfl
set_option maxRecDepth 100000 in
theorem cd_21 : Cond.code (yn 21) (bc 21) (mL 21) (rt 21) ∈ lw_tbl := List.mem_of_getElem? (i := 781) rfl
set_option maxRecDepth 100000 in
theorem cd_22 : Cond.code (yn 22) (bc 22) (mL 22) (rt 22) ∈ lw_tbl := List.mem_of_getElem? (i := 789) rfl
set_option maxRecDepth 100000 in
theorem cd_23 : Cond.code (yn 23) (bc 23) (mL 23) (rt 23) ∈ lw_tbl := List.mem_of_getElem? (i := 957) rfl
set_option maxRecDepth 100000 in
theorem cd_24 : Cond.code (yn 24) (bc 24) (mL 24) (rt 24) ∈ lw_tbl := List.mem_of_getElem? (i := 736) rfl
set_option maxRecDepth 100000 in
theorem cd_25 : Cond.code (yn 25) (bc 25) (mL 25) (rt 25) ∈ lw_tbl := List.mem_of_getElem? (i := 857) rfl
set_option maxRecDepth 100000 in
theorem cd_26 : Cond.code (yn 26) (bc 26) (mL 26) (rt 26) ∈ lw_tbl := List.mem_of_getElem? (i := 861) rfl
set_option maxRecDepth 100000 in
theorem cd_27 : Cond.code (yn 27) (bc 27) (mL 27) (rt 27) ∈ lw_tbl := List.mem_of_getElem? (i := 873) rfl
set_option maxRecDepth 100000 in
theorem cd_28 : Cond.code (yn 28) (bc 28) (mL 28) (rt 28) ∈ lw_tbl := List.mem_of_getElem? (i := 1122) rfl
set_option maxRecDepth 100000 in
theorem cd_29 : Cond.code (yn 29) (bc 29) (mL 29) (rt 29) ∈ lw_tbl := List.mem_of_getElem? (i := 1106) rfl
set_option maxRecDepth 100000 in
theorem cd_30 : Cond.code (yn 30) (bc 30) (mL 30) (rt 30) ∈ lw_tbl := List.mem_of_getElem? (i := 772) rfl
set_option maxRecDepth 100000 in
theorem cd_31 : Cond.code (yn 31) (bc 31) (mL 31) (rt 31) ∈ lw_tbl := List.mem_of_getElem? (i := 251) rfl
set_option maxRecDepth 100000 in
theorem cd_32 : Cond.code (yn 32) (bc 32) (mL 32) (rt 32) ∈ lw_tbl := List.mem_of_getElem? (i := 1087) rfl
set_option maxRecDepth 100000 in
theorem cd_33 : Cond.code (yn 33) (bc 33) (mL 33) (rt 33) ∈ lw_tbl := List.mem_of_getElem? (i := 1305) rfl
set_option maxRecDepth 100000 in
theorem cd_34 : Cond.code (yn 34) (bc 34) (mL 34) (rt 34) ∈ lw_tbl := List.mem_of_getElem? (i := 1118) rfl
set_option maxRecDepth 100000 in
theorem cd_35 : Cond.code (yn 35) (bc 35) (mL 35) (rt 35) ∈ lw_tbl := List.mem_of_getElem? (i := 1190) rfl
set_option maxRecDepth 100000 in
theorem cd_36 : Cond.code (yn 36) (bc 36) (mL 36) (rt 36) ∈ lw_tbl := List.mem_of_getElem? (i := 1243) rfl
set_option maxRecDepth 100000 in
theorem cd_37 : Cond.code (yn 37) (bc 37) (mL 37) (rt 37) ∈ lw_tbl := List.mem_of_getElem? (i := 1155) rfl
set_option maxRecDepth 100000 in
theorem cd_38 : Cond.code (yn 38) (bc 38) (mL 38) (rt 38) ∈ lw_tbl := List.mem_of_getElem? (i := 1159) rfl
set_option maxRecDepth 100000 in
theorem cd_39 : Cond.code (yn 39) (bc 39) (mL 39) (rt 39) ∈ lw_tbl := List.mem_of_getElem? (i := 1163) rfl
set_option maxRecDepth 100000 in
theorem cd_40 : Cond.code (yn 40) (bc 40) (mL 40) (rt 40) ∈ lw_tbl := List.mem_of_getElem? (i := 1170) rfl
set_option maxRecDepth 100000 in
theorem cd_41 : Cond.code (yn 41) (bc 41) (mL 41) (rt 41) ∈ lw_tbl := List.mem_of_getElem? (i := 1407) rfl
set_option maxRecDepth 100000 in
theorem cd_42 : Cond.code (yn 42) (bc 42) (mL 42) (rt 42) ∈ lw_tbl := List.mem_of_getElem? (i := 1370) rfl
set_option maxRecDepth 100000 in
theorem cd_43 : Cond.code (yn 43) (bc 43) (mL 43) (rt 43) ∈ lw_tbl := List.mem_of_getElem? (i := 1374) rfl
set_option maxRecDepth 100000 in
theorem cd_44 : Cond.code (yn 44) (bc 44) (mL 44) (rt 44) ∈ lw_tbl := List.mem_of_getElem? (i := 1378) rfl
set_option maxRecDepth 100000 in
theorem cd_45 : Cond.code (yn 45) (bc 45) (mL 45) (rt 45) ∈ lw_tbl := List.mem_of_getElem? (i := 1438) rfl
set_option maxRecDepth 100000 in
theorem cd_46 : Cond.code (yn 46) (bc 46) (mL 46) (rt 46) ∈ lw_tbl := List.mem_of_getElem? (i := 1382) rfl
set_option maxRecDepth 100000 in
theorem cd_47 : Cond.code (yn 47) (bc 47) (mL 47) (rt 47) ∈ lw_tbl := List.mem_of_getElem? (i := 1386) rfl
set_option maxRecDepth 100000 in
theorem cd_48 : Cond.code (yn 48) (bc 48) (mL 48) (rt 48) ∈ lw_tbl := List.mem_of_getElem? (i := 1427) rfl
set_option maxRecDepth 100000 in
theorem cd_49 : Cond.code (yn 49) (bc 49) (mL 49) (rt 49) ∈ lw_tbl := List.mem_of_getElem? (i := 1166) rfl
set_option maxRecDepth 100000 in
theorem cd_50 : Cond.code (yn 50) (bc 50) (mL 50) (rt 50) ∈ lw_tbl := List.mem_of_getElem? (i := 1309) rfl
set_option maxRecDepth 100000 in
theorem cd_51 : Cond.code (yn 51) (bc 51) (mL 51) (rt 51) ∈ lw_tbl := List.mem_of_getElem? (i := 461) rfl
set_option maxRecDepth 100000 in
theorem cd_52 : Cond.code (yn 52) (bc 52) (mL 52) (rt 52) ∈ lw_tbl := List.mem_of_getElem? (i := 1079) rfl
set_option maxRecDepth 100000 in
theorem cd_53 : Cond.code (yn 53) (bc 53) (mL 53) (rt 53) ∈ lw_tbl := List.mem_of_getElem? (i := 1358) rfl
set_option maxRecDepth 100000 in
theorem cd_54 : Cond.code (yn 54) (bc 54) (mL 54) (rt 54) ∈ lw_tbl := List.mem_of_getElem? (i := 1362) rfl
set_option maxRecDepth 100000 in
theorem cd_55 : Cond.code (yn 55) (bc 55) (mL 55) (rt 55) ∈ lw_tbl := List.mem_of_getElem? (i := 1366) rfl
set_option maxRecDepth 100000 in
theorem cd_56 : Cond.code (yn 56) (bc 56) (mL 56) (rt 56) ∈ lw_tbl := List.mem_of_getElem? (i := 1131) rfl
set_option maxRecDepth 100000 in
theorem cd_57 : Cond.code (yn 57) (bc 57) (mL 57) (rt 57) ∈ lw_tbl := List.mem_of_getElem? (i := 1199) rfl
set_option maxRecDepth 100000 in
theorem cd_58 : Cond.code (yn 58) (bc 58) (mL 58) (rt 58) ∈ lw_tbl := List.mem_of_getElem? (i := 1126) rfl
set_option maxRecDepth 100000 in
theorem cd_59 : Cond.code (yn 59) (bc 59) (mL 59) (rt 59) ∈ lw_tbl := List.mem_of_getElem? (i := 1174) rfl
set_option maxRecDepth 100000 in
theorem cd_60 : Cond.code (yn 60) (bc 60) (mL 60) (rt 60) ∈ lw_tbl := List.mem_of_getElem? (i := 1194) rfl
set_option maxRecDepth 100000 in
theorem cd_61 : Cond.code (yn 61) (bc 61) (mL 61) (rt 61) ∈ lw_tbl := List.mem_of_getElem? (i := 1096) rfl
set_option maxRecDepth 100000 in
theorem cd_62 : Cond.code (yn 62) (bc 62) (mL 62) (rt 62) ∈ lw_tbl := List.mem_of_getElem? (i := 1342) rfl
set_option maxRecDepth 100000 in
theorem cd_63 : Cond.code (yn 63) (bc 63) (mL 63) (rt 63) ∈ lw_tbl := List.mem_of_getElem? (i := 1225) rfl
set_option maxRecDepth 100000 in
theorem cd_64 : Cond.code (yn 64) (bc 64) (mL 64) (rt 64) ∈ lw_tbl := List.mem_of_getElem? (i := 1259) rfl
set_option maxRecDepth 100000 in
theorem cd_65 : Cond.code (yn 65) (bc 65) (mL 65) (rt 65) ∈ lw_tbl := List.mem_of_getElem? (i := 1262) rfl
set_option maxRecDepth 100000 in
theorem cd_66 : Cond.code (yn 66) (bc 66) (mL 66) (rt 66) ∈ lw_tbl := List.mem_of_getElem? (i := 1266) rfl
set_option maxRecDepth 100000 in
theorem cd_67 : Cond.code (yn 67) (bc 67) (mL 67) (rt 67) ∈ lw_tbl := List.mem_of_getElem? (i := 1293) rfl
set_option maxRecDepth 100000 in
theorem cd_68 : Cond.code (yn 68) (bc 68) (mL 68) (rt 68) ∈ lw_tbl := List.mem_of_getElem? (i := 1270) rfl
set_option maxRecDepth 100000 in
theorem cd_69 : Cond.code (yn 69) (bc 69) (mL 69) (rt 69) ∈ lw_tbl := List.mem_of_getElem? (i := 1283) rfl
set_option maxRecDepth 100000 in
theorem cd_70 : Cond.code (yn 70) (bc 70) (mL 70) (rt 70) ∈ lw_tbl := List.mem_of_getElem? (i := 1275) rfl
set_option maxRecDepth 100000 in
theorem cd_71 : Cond.code (yn 71) (bc 71) (mL 71) (rt 71) ∈ lw_tbl := List.mem_of_getElem? (i := 1297) rfl
set_option maxRecDepth 100000 in
theorem cd_72 : Cond.code (yn 72) (bc 72) (mL 72) (rt 72) ∈ lw_tbl := List.mem_of_getElem? (i := 1313) rfl
set_option maxRecDepth 100000 in
theorem cd_73 : Cond.code (yn 73) (bc 73) (mL 73) (rt 73) ∈ lw_tbl := List.mem_of_getElem? (i := 1317) rfl
set_option maxRecDepth 100000 in
theorem cd_74 : Cond.code (yn 74) (bc 74) (mL 74) (rt 74) ∈ lw_tbl := List.mem_of_getElem? (i := 1321) rfl
set_option maxRecDepth 100000 in
theorem cd_75 : Cond.code (yn 75) (bc 75) (mL 75) (rt 75) ∈ lw_tbl := List.mem_of_getElem? (i := 1325) rfl
set_option maxRecDepth 100000 in
theorem cd_76 : Cond.code (yn 76) (bc 76) (mL 76) (rt 76) ∈ lw_tbl := List.mem_of_getElem? (i := 1329) rfl
set_option maxRecDepth 100000 in
theorem cd_77 : Cond.code (yn 77) (bc 77) (mL 77) (rt 77) ∈ lw_tbl := List.mem_of_getElem? (i := 1337) rfl
set_option maxRecDepth 100000 in
theorem cd_78 : Cond.code (yn 78) (bc 78) (mL 78) (rt 78) ∈ lw_tbl := List.mem_of_getElem? (i := 1333) rfl
set_option maxRecDepth 100000 in
theorem cd_79 : Cond.code (yn 79) (bc 79) (mL 79) (rt 79) ∈ lw_tbl := List.mem_of_getElem? (i := 387) rfl
set_option maxRecDepth 100000 in
theorem cd_80 : Cond.code (yn 80) (bc 80) (mL 80) (rt 80) ∈ lw_tbl := List.mem_of_getElem? (i := 570) rfl
set_option maxRecDepth 100000 in
theorem cd_81 : Cond.code (yn 81) (bc 81) (mL 81) (rt 81) ∈ lw_tbl := List.mem_of_getElem? (i := 973) rfl
set_option maxRecDepth 100000 in
theorem cd_82 : Cond.code (yn 82) (bc 82) (mL 82) (rt 82) ∈ lw_tbl := List.mem_of_getElem? (i := 961) rfl
set_option maxRecDepth 100000 in
theorem cd_83 : Cond.code (yn 83) (bc 83) (mL 83) (rt 83) ∈ lw_tbl := List.mem_of_getElem? (i := 574) rfl
set_option maxRecDepth 100000 in
theorem cd_84 : Cond.code (yn 84) (bc 84) (mL 84) (rt 84) ∈ lw_tbl := List.mem_of_getElem? (i := 688) rfl
set_option maxRecDepth 100000 in
theorem cd_85 : Cond.code (yn 85) (bc 85) (mL 85) (rt 85) ∈ lw_tbl := List.mem_of_getElem? (i := 704) rfl
set_option maxRecDepth 100000 in
theorem cd_86 : Cond.code (yn 86) (bc 86) (mL 86) (rt 86) ∈ lw_tbl := List.mem_of_getElem? (i := 724) rfl
set_option maxRecDepth 100000 in
theorem cd_87 : Cond.code (yn 87) (bc 87) (mL 87) (rt 87) ∈ lw_tbl := List.mem_of_getElem? (i := 752) rfl
set_option maxRecDepth 100000 in
theorem cd_88 : Cond.code (yn 88) (bc 88) (mL 88) (rt 88) ∈ lw_tbl := List.mem_of_getElem? (i := 756) rfl
set_option maxRecDepth 100000 in
theorem cd_89 : Cond.code (yn 89) (bc 89) (mL 89) (rt 89) ∈ lw_tbl := List.mem_of_getElem? (i := 764) rfl
set_option maxRecDepth 100000 in
theorem cd_90 : Cond.code (yn 90) (bc 90) (mL 90) (rt 90) ∈ lw_tbl := List.mem_of_getElem? (i := 793) rfl
set_option maxRecDepth 100000 in
theorem cd_91 : Cond.code (yn 91) (bc 91) (mL 91) (rt 91) ∈ lw_tbl := List.mem_of_getElem? (i := 801) rfl
set_option maxRecDepth 100000 in
theorem cd_92 : Cond.code (yn 92) (bc 92) (mL 92) (rt 92) ∈ lw_tbl := List.mem_of_getElem? (i := 809) rfl
set_option maxRecDepth 100000 in
theorem cd_93 : Cond.code (yn 93) (bc 93) (mL 93) (rt 93) ∈ lw_tbl := List.mem_of_getElem? (i := 924) rfl
set_option maxRecDepth 100000 in
theorem cd_94 : Cond.code (yn 94) (bc 94) (mL 94) (rt 94) ∈ lw_tbl := List.mem_of_getElem? (i := 928) rfl
set_option maxRecDepth 100000 in
theorem cd_95 : Cond.code (yn 95) (bc 95) (mL 95) (rt 95) ∈ lw_tbl := List.mem_of_getElem? (i := 932) rfl
set_option maxRecDepth 100000 in
theorem cd_96 : Cond.code (yn 96) (bc 96) (mL 96) (rt 96) ∈ lw_tbl := List.mem_of_getElem? (i := 936) rfl
set_option maxRecDepth 100000 in
theorem cd_97 : Cond.code (yn 97) (bc 97) (mL 97) (rt 97) ∈ lw_tbl := List.mem_of_getElem? (i := 940) rfl
set_option maxRecDepth 100000 in
theorem cd_98 : Cond.code (yn 98) (bc 98) (mL 98) (rt 98) ∈ lw_tbl := List.mem_of_getElem? (i := 944) rfl
set_option maxRecDepth 100000 in
theorem cd_99 : Cond.code (yn 99) (bc 99) (mL 99) (rt 99) ∈ lw_tbl := List.mem_of_getElem? (i := 893) rfl
set_option maxRecDepth 100000 in
theorem cd_100 : Cond.code (yn 100) (bc 100) (mL 100) (rt 100) ∈ lw_tbl := List.mem_of_getElem? (i := 817) rfl
set_option maxRecDepth 100000 in
theorem cd_101 : Cond.code (yn 101) (bc 101) (mL 101) (rt 101) ∈ lw_tbl := List.mem_of_getElem? (i := 904) rfl
set_option maxRecDepth 100000 in
theorem cd_102 : Cond.code (yn 102) (bc 102) (mL 102) (rt 102) ∈ lw_tbl := List.mem_of_getElem? (i := 908) rfl
set_option maxRecDepth 100000 in
theorem cd_103 : Cond.code (yn 103) (bc 103) (mL 103) (rt 103) ∈ lw_tbl := List.mem_of_getElem? (i := 916) rfl
set_option maxRecDepth 100000 in
theorem cd_104 : Cond.code (yn 104) (bc 104) (mL 104) (rt 104) ∈ lw_tbl := List.mem_of_getElem? (i := 920) rfl
set_option maxRecDepth 100000 in
theorem cd_105 : Cond.code (yn 105) (bc 105) (mL 105) (rt 105) ∈ lw_tbl := List.mem_of_getElem? (i := 821) rfl
set_option maxRecDepth 100000 in
theorem cd_106 : Cond.code (yn 106) (bc 106) (mL 106) (rt 106) ∈ lw_tbl := List.mem_of_getElem? (i := 825) rfl
set_option maxRecDepth 100000 in
theorem cd_107 : Cond.code (yn 107) (bc 107) (mL 107) (rt 107) ∈ lw_tbl := List.mem_of_getElem? (i := 901) rfl
set_option maxRecDepth 100000 in
theorem cd_108 : Cond.code (yn 108) (bc 108) (mL 108) (rt 108) ∈ lw_tbl := List.mem_of_getElem? (i := 829) rfl
set_option maxRecDepth 100000 in
theorem cd_109 : Cond.code (yn 109) (bc 109) (mL 109) (rt 109) ∈ lw_tbl := List.mem_of_getElem? (i := 833) rfl
set_option maxRecDepth 100000 in
theorem cd_110 : Cond.code (yn 110) (bc 110) (mL 110) (rt 110) ∈ lw_tbl := List.mem_of_getElem? (i := 837) rfl
set_option maxRecDepth 100000 in
theorem cd_111 : Cond.code (yn 111) (bc 111) (mL 111) (rt 111) ∈ lw_tbl := List.mem_of_getElem? (i := 877) rfl
set_option maxRecDepth 100000 in
theorem cd_112 : Cond.code (yn 112) (bc 112) (mL 112) (rt 112) ∈ lw_tbl := List.mem_of_getElem? (i := 885) rfl
set_option maxRecDepth 100000 in
theorem cd_113 : Cond.code (yn 113) (bc 113) (mL 113) (rt 113) ∈ lw_tbl := List.mem_of_getElem? (i := 889) rfl
set_option maxRecDepth 100000 in
theorem cd_114 : Cond.code (yn 114) (bc 114) (mL 114) (rt 114) ∈ lw_tbl := List.mem_of_getElem? (i := 897) rfl
set_option maxRecDepth 100000 in
theorem cd_115 : Cond.code (yn 115) (bc 115) (mL 115) (rt 115) ∈ lw_tbl := List.mem_of_getElem? (i := 841) rfl
set_option maxRecDepth 100000 in
theorem cd_116 : Cond.code (yn 116) (bc 116) (mL 116) (rt 116) ∈ lw_tbl := List.mem_of_getElem? (i := 853) rfl
set_option maxRecDepth 100000 in
theorem cd_117 : Cond.code (yn 117) (bc 117) (mL 117) (rt 117) ∈ lw_tbl := List.mem_of_getElem? (i := 849) rfl
set_option maxRecDepth 100000 in
theorem cd_118 : Cond.code (yn 118) (bc 118) (mL 118) (rt 118) ∈ lw_tbl := List.mem_of_getElem? (i := 869) rfl
set_option maxRecDepth 100000 in
theorem cd_119 : Cond.code (yn 119) (bc 119) (mL 119) (rt 119) ∈ lw_tbl := List.mem_of_getElem? (i := 845) rfl
set_option maxRecDepth 100000 in
theorem cd_120 : Cond.code (yn 120) (bc 120) (mL 120) (rt 120) ∈ lw_tbl := List.mem_of_getElem? (i := 696) rfl
set_option maxRecDepth 100000 in
theorem cd_121 : Cond.code (yn 121) (bc 121) (mL 121) (rt 121) ∈ lw_tbl := List.mem_of_getElem? (i := 740) rfl
set_option maxRecDepth 100000 in
theorem cd_122 : Cond.code (yn 122) (bc 122) (mL 122) (rt 122) ∈ lw_tbl := List.mem_of_getElem? (i := 720) rfl
set_option maxRecDepth 100000 in
theorem cd_123 : Cond.code (yn 123) (bc 123) (mL 123) (rt 123) ∈ lw_tbl := List.mem_of_getElem? (i := 716) rfl
set_option maxRecDepth 100000 in
theorem cd_124 : Cond.code (yn 124) (bc 124) (mL 124) (rt 124) ∈ lw_tbl := List.mem_of_getElem? (i := 708) rfl
set_option maxRecDepth 100000 in
theorem cd_125 : Cond.code (yn 125) (bc 125) (mL 125) (rt 125) ∈ lw_tbl := List.mem_of_getElem? (i := 748) rfl
set_option maxRecDepth 100000 in
theorem cd_126 : Cond.code (yn 126) (bc 126) (mL 126) (rt 126) ∈ lw_tbl := List.mem_of_getElem? (i := 865) rfl
set_option maxRecDepth 100000 in
theorem cd_127 : Cond.code (yn 127) (bc 127) (mL 127) (rt 127) ∈ lw_tbl := List.mem_of_getElem? (i := 393) rfl
set_option maxRecDepth 100000 in
theorem cd_128 : Cond.code (yn 128) (bc 128) (mL 128) (rt 128) ∈ lw_tbl := List.mem_of_getElem? (i := 712) rfl
set_option maxRecDepth 100000 in
theorem cd_129 : Cond.code (yn 129) (bc 129) (mL 129) (rt 129) ∈ lw_tbl := List.mem_of_getElem? (i := 813) rfl
set_option maxRecDepth 100000 in
theorem cd_130 : Cond.code (yn 130) (bc 130) (mL 130) (rt 130) ∈ lw_tbl := List.mem_of_getElem? (i := 776) rfl
set_option maxRecDepth 100000 in
theorem cd_131 : Cond.code (yn 131) (bc 131) (mL 131) (rt 131) ∈ lw_tbl := List.mem_of_getElem? (i := 760) rfl
set_option maxRecDepth 100000 in
theorem cd_132 : Cond.code (yn 132) (bc 132) (mL 132) (rt 132) ∈ lw_tbl := List.mem_of_getElem? (i := 881) rfl
set_option maxRecDepth 100000 in
theorem cd_133 : Cond.code (yn 133) (bc 133) (mL 133) (rt 133) ∈ lw_tbl := List.mem_of_getElem? (i := 797) rfl
set_option maxRecDepth 100000 in
theorem cd_134 : Cond.code (yn 134) (bc 134) (mL 134) (rt 134) ∈ lw_tbl := List.mem_of_getElem? (i := 953) rfl
set_option maxRecDepth 100000 in
theorem cd_135 : Cond.code (yn 135) (bc 135) (mL 135) (rt 135) ∈ lw_tbl := List.mem_of_getElem? (i := 948) rfl
set_option maxRecDepth 100000 in
theorem cd_136 : Cond.code (yn 136) (bc 136) (mL 136) (rt 136) ∈ lw_tbl := List.mem_of_getElem? (i := 467) rfl
set_option maxRecDepth 100000 in
theorem cd_137 : Cond.code (yn 137) (bc 137) (mL 137) (rt 137) ∈ lw_tbl := List.mem_of_getElem? (i := 1083) rfl
set_option maxRecDepth 100000 in
theorem cd_138 : Cond.code (yn 138) (bc 138) (mL 138) (rt 138) ∈ lw_tbl := List.mem_of_getElem? (i := 1102) rfl
set_option maxRecDepth 100000 in
theorem cd_139 : Cond.code (yn 139) (bc 139) (mL 139) (rt 139) ∈ lw_tbl := List.mem_of_getElem? (i := 1207) rfl
set_option maxRecDepth 100000 in
theorem cd_140 : Cond.code (yn 140) (bc 140) (mL 140) (rt 140) ∈ lw_tbl := List.mem_of_getElem? (i := 1178) rfl
set_option maxRecDepth 100000 in
theorem cd_141 : Cond.code (yn 141) (bc 141) (mL 141) (rt 141) ∈ lw_tbl := List.mem_of_getElem? (i := 1212) rfl
set_option maxRecDepth 100000 in
theorem cd_142 : Cond.code (yn 142) (bc 142) (mL 142) (rt 142) ∈ lw_tbl := List.mem_of_getElem? (i := 1114) rfl
set_option maxRecDepth 100000 in
theorem cd_143 : Cond.code (yn 143) (bc 143) (mL 143) (rt 143) ∈ lw_tbl := List.mem_of_getElem? (i := 1203) rfl
set_option maxRecDepth 100000 in
theorem cd_144 : Cond.code (yn 144) (bc 144) (mL 144) (rt 144) ∈ lw_tbl := List.mem_of_getElem? (i := 1186) rfl
set_option maxRecDepth 100000 in
theorem cd_145 : Cond.code (yn 145) (bc 145) (mL 145) (rt 145) ∈ lw_tbl := List.mem_of_getElem? (i := 1301) rfl
set_option maxRecDepth 100000 in
theorem cd_146 : Cond.code (yn 146) (bc 146) (mL 146) (rt 146) ∈ lw_tbl := List.mem_of_getElem? (i := 1255) rfl
set_option maxRecDepth 100000 in
theorem cd_147 : Cond.code (yn 147) (bc 147) (mL 147) (rt 147) ∈ lw_tbl := List.mem_of_getElem? (i := 1216) rfl
set_option maxRecDepth 100000 in
theorem cd_148 : Cond.code (yn 148) (bc 148) (mL 148) (rt 148) ∈ lw_tbl := List.mem_of_getElem? (i := 1110) rfl
set_option maxRecDepth 100000 in
theorem cd_149 : Cond.code (yn 149) (bc 149) (mL 149) (rt 149) ∈ lw_tbl := List.mem_of_getElem? (i := 1221) rfl
set_option maxRecDepth 100000 in
theorem cd_150 : Cond.code (yn 150) (bc 150) (mL 150) (rt 150) ∈ lw_tbl := List.mem_of_getElem? (i := 1151) rfl
set_option maxRecDepth 100000 in
theorem cd_151 : Cond.code (yn 151) (bc 151) (mL 151) (rt 151) ∈ lw_tbl := List.mem_of_getElem? (i := 1182) rfl
set_option maxRecDepth 100000 in
theorem cd_152 : Cond.code (yn 152) (bc 152) (mL 152) (rt 152) ∈ lw_tbl := List.mem_of_getElem? (i := 299) rfl
set_option maxRecDepth 100000 in
theorem cd_153 : Cond.code (yn 153) (bc 153) (mL 153) (rt 153) ∈ lw_tbl := List.mem_of_getElem? (i := 582) rfl
set_option maxRecDepth 100000 in
theorem cd_154 : Cond.code (yn 154) (bc 154) (mL 154) (rt 154) ∈ lw_tbl := List.mem_of_getElem? (i := 684) rfl
set_option maxRecDepth 100000 in
theorem cd_155 : Cond.code (yn 155) (bc 155) (mL 155) (rt 155) ∈ lw_tbl := List.mem_of_getElem? (i := 700) rfl
set_option maxRecDepth 100000 in
theorem cd_156 : Cond.code (yn 156) (bc 156) (mL 156) (rt 156) ∈ lw_tbl := List.mem_of_getElem? (i := 744) rfl
set_option maxRecDepth 100000 in
theorem cd_157 : Cond.code (yn 157) (bc 157) (mL 157) (rt 157) ∈ lw_tbl := List.mem_of_getElem? (i := 728) rfl
set_option maxRecDepth 100000 in
theorem cd_158 : Cond.code (yn 158) (bc 158) (mL 158) (rt 158) ∈ lw_tbl := List.mem_of_getElem? (i := 965) rfl
set_option maxRecDepth 100000 in
theorem cd_159 : Cond.code (yn 159) (bc 159) (mL 159) (rt 159) ∈ lw_tbl := List.mem_of_getElem? (i := 590) rfl
set_option maxRecDepth 100000 in
theorem cd_160 : Cond.code (yn 160) (bc 160) (mL 160) (rt 160) ∈ lw_tbl := List.mem_of_getElem? (i := 598) rfl
set_option maxRecDepth 100000 in
theorem cd_161 : Cond.code (yn 161) (bc 161) (mL 161) (rt 161) ∈ lw_tbl := List.mem_of_getElem? (i := 610) rfl
set_option maxRecDepth 100000 in
theorem cd_162 : Cond.code (yn 162) (bc 162) (mL 162) (rt 162) ∈ lw_tbl := List.mem_of_getElem? (i := 614) rfl
set_option maxRecDepth 100000 in
theorem cd_163 : Cond.code (yn 163) (bc 163) (mL 163) (rt 163) ∈ lw_tbl := List.mem_of_getElem? (i := 620) rfl
set_option maxRecDepth 100000 in
theorem cd_164 : Cond.code (yn 164) (bc 164) (mL 164) (rt 164) ∈ lw_tbl := List.mem_of_getElem? (i := 624) rfl
set_option maxRecDepth 100000 in
theorem cd_165 : Cond.code (yn 165) (bc 165) (mL 165) (rt 165) ∈ lw_tbl := List.mem_of_getElem? (i := 602) rfl
set_option maxRecDepth 100000 in
theorem cd_166 : Cond.code (yn 166) (bc 166) (mL 166) (rt 166) ∈ lw_tbl := List.mem_of_getElem? (i := 606) rfl
set_option maxRecDepth 100000 in
theorem cd_167 : Cond.code (yn 167) (bc 167) (mL 167) (rt 167) ∈ lw_tbl := List.mem_of_getElem? (i := 594) rfl
set_option maxRecDepth 100000 in
theorem cd_168 : Cond.code (yn 168) (bc 168) (mL 168) (rt 168) ∈ lw_tbl := List.mem_of_getElem? (i := 356) rfl
set_option maxRecDepth 100000 in
theorem cd_169 : Cond.code (yn 169) (bc 169) (mL 169) (rt 169) ∈ lw_tbl := List.mem_of_getElem? (i := 359) rfl
set_option maxRecDepth 100000 in
theorem cd_170 : Cond.code (yn 170) (bc 170) (mL 170) (rt 170) ∈ lw_tbl := List.mem_of_getElem? (i := 353) rfl
set_option maxRecDepth 100000 in
theorem cd_171 : Cond.code (yn 171) (bc 171) (mL 171) (rt 171) ∈ lw_tbl := List.mem_of_getElem? (i := 180) rfl
set_option maxRecDepth 100000 in
theorem cd_172 : Cond.code (yn 172) (bc 172) (mL 172) (rt 172) ∈ lw_tbl := List.mem_of_getElem? (i := 981) rfl
set_option maxRecDepth 100000 in
theorem cd_173 : Cond.code (yn 173) (bc 173) (mL 173) (rt 173) ∈ lw_tbl := List.mem_of_getElem? (i := 556) rfl
set_option maxRecDepth 100000 in
theorem cd_174 : Cond.code (yn 174) (bc 174) (mL 174) (rt 174) ∈ lw_tbl := List.mem_of_getElem? (i := 969) rfl
set_option maxRecDepth 100000 in
theorem cd_175 : Cond.code (yn 175) (bc 175) (mL 175) (rt 175) ∈ lw_tbl := List.mem_of_getElem? (i := 1057) rfl
set_option maxRecDepth 100000 in
theorem cd_176 : Cond.code (yn 176) (bc 176) (mL 176) (rt 176) ∈ lw_tbl := List.mem_of_getElem? (i := 1349) rfl
set_option maxRecDepth 100000 in
theorem cd_177 : Cond.code (yn 177) (bc 177) (mL 177) (rt 177) ∈ lw_tbl := List.mem_of_getElem? (i := 1394) rfl
set_option maxRecDepth 100000 in
theorem cd_178 : Cond.code (yn 178) (bc 178) (mL 178) (rt 178) ∈ lw_tbl := List.mem_of_getElem? (i := 1403) rfl
set_option maxRecDepth 100000 in
theorem cd_179 : Cond.code (yn 179) (bc 179) (mL 179) (rt 179) ∈ lw_tbl := List.mem_of_getElem? (i := 1434) rfl
set_option maxRecDepth 100000 in
theorem cd_180 : Cond.code (yn 180) (bc 180) (mL 180) (rt 180) ∈ lw_tbl := List.mem_of_getElem? (i := 1353) rfl
set_option maxRecDepth 100000 in
theorem cd_181 : Cond.code (yn 181) (bc 181) (mL 181) (rt 181) ∈ lw_tbl := List.mem_of_getElem? (i := 1443) rfl
set_option maxRecDepth 100000 in
theorem cd_182 : Cond.code (yn 182) (bc 182) (mL 182) (rt 182) ∈ lw_tbl := List.mem_of_getElem? (i := 1696) rfl
set_option maxRecDepth 100000 in
theorem cd_183 : Cond.code (yn 183) (bc 183) (mL 183) (rt 183) ∈ lw_tbl := List.mem_of_getElem? (i := 1700) rfl
set_option maxRecDepth 100000 in
theorem cd_184 : Cond.code (yn 184) (bc 184) (mL 184) (rt 184) ∈ lw_tbl := List.mem_of_getElem? (i := 1723) rfl
set_option maxRecDepth 100000 in
theorem cd_185 : Cond.code (yn 185) (bc 185) (mL 185) (rt 185) ∈ lw_tbl := List.mem_of_getElem? (i := 1730) rfl
set_option maxRecDepth 100000 in
theorem cd_186 : Cond.code (yn 186) (bc 186) (mL 186) (rt 186) ∈ lw_tbl := List.mem_of_getElem? (i := 1720) rfl
set_option maxRecDepth 100000 in
theorem cd_187 : Cond.code (yn 187) (bc 187) (mL 187) (rt 187) ∈ lw_tbl := List.mem_of_getElem? (i := 1741) rfl
set_option maxRecDepth 100000 in
theorem cd_188 : Cond.code (yn 188) (bc 188) (mL 188) (rt 188) ∈ lw_tbl := List.mem_of_getElem? (i := 1734) rfl
set_option maxRecDepth 100000 in
theorem cd_189 : Cond.code (yn 189) (bc 189) (mL 189) (rt 189) ∈ lw_tbl := List.mem_of_getElem? (i := 1716) rfl
set_option maxRecDepth 100000 in
theorem cd_190 : Cond.code (yn 190) (bc 190) (mL 190) (rt 190) ∈ lw_tbl := List.mem_of_getElem? (i := 1727) rfl
set_option maxRecDepth 100000 in
theorem cd_191 : Cond.code (yn 191) (bc 191) (mL 191) (rt 191) ∈ lw_tbl := List.mem_of_getElem? (i := 1745) rfl
set_option maxRecDepth 100000 in
theorem cd_192 : Cond.code (yn 192) (bc 192) (mL 192) (rt 192) ∈ lw_tbl := List.mem_of_getElem? (i := 1756) rfl
set_option maxRecDepth 100000 in
theorem cd_193 : Cond.code (yn 193) (bc 193) (mL 193) (rt 193) ∈ lw_tbl := List.mem_of_getElem? (i := 1767) rfl
set_option maxRecDepth 100000 in
theorem cd_194 : Cond.code (yn 194) (bc 194) (mL 194) (rt 194) ∈ lw_tbl := List.mem_of_getElem? (i := 1712) rfl
set_option maxRecDepth 100000 in
theorem cd_195 : Cond.code (yn 195) (bc 195) (mL 195) (rt 195) ∈ lw_tbl := List.mem_of_getElem? (i := 1772) rfl
set_option maxRecDepth 100000 in
theorem cd_196 : Cond.code (yn 196) (bc 196) (mL 196) (rt 196) ∈ lw_tbl := List.mem_of_getElem? (i := 1832) rfl
set_option maxRecDepth 100000 in
theorem cd_197 : Cond.code (yn 197) (bc 197) (mL 197) (rt 197) ∈ lw_tbl := List.mem_of_getElem? (i := 1840) rfl
set_option maxRecDepth 100000 in
theorem cd_198 : Cond.code (yn 198) (bc 198) (mL 198) (rt 198) ∈ lw_tbl := List.mem_of_getElem? (i := 1844) rfl
set_option maxRecDepth 100000 in
theorem cd_199 : Cond.code (yn 199) (bc 199) (mL 199) (rt 199) ∈ lw_tbl := List.mem_of_getElem? (i := 1848) rfl
set_option maxRecDepth 100000 in
theorem cd_200 : Cond.code (yn 200) (bc 200) (mL 200) (rt 200) ∈ lw_tbl := List.mem_of_getElem? (i := 1858) rfl
set_option maxRecDepth 100000 in
theorem cd_201 : Cond.code (yn 201) (bc 201) (mL 201) (rt 201) ∈ lw_tbl := List.mem_of_getElem? (i := 1814) rfl
set_option maxRecDepth 100000 in
theorem cd_202 : Cond.code (yn 202) (bc 202) (mL 202) (rt 202) ∈ lw_tbl := List.mem_of_getElem? (i := 1818) rfl
set_option maxRecDepth 100000 in
theorem cd_203 : Cond.code (yn 203) (bc 203) (mL 203) (rt 203) ∈ lw_tbl := List.mem_of_getElem? (i := 1824) rfl
set_option maxRecDepth 100000 in
theorem cd_204 : Cond.code (yn 204) (bc 204) (mL 204) (rt 204) ∈ lw_tbl := List.mem_of_getElem? (i := 1828) rfl
set_option maxRecDepth 100000 in
theorem cd_205 : Cond.code (yn 205) (bc 205) (mL 205) (rt 205) ∈ lw_tbl := List.mem_of_getElem? (i := 1836) rfl
set_option maxRecDepth 100000 in
theorem cd_206 : Cond.code (yn 206) (bc 206) (mL 206) (rt 206) ∈ lw_tbl := List.mem_of_getElem? (i := 1810) rfl
set_option maxRecDepth 100000 in
theorem cd_207 : Cond.code (yn 207) (bc 207) (mL 207) (rt 207) ∈ lw_tbl := List.mem_of_getElem? (i := 1793) rfl
set_option maxRecDepth 100000 in
theorem cd_208 : Cond.code (yn 208) (bc 208) (mL 208) (rt 208) ∈ lw_tbl := List.mem_of_getElem? (i := 1799) rfl
set_option maxRecDepth 100000 in
theorem cd_209 : Cond.code (yn 209) (bc 209) (mL 209) (rt 209) ∈ lw_tbl := List.mem_of_getElem? (i := 1873) rfl
set_option maxRecDepth 100000 in
theorem cd_210 : Cond.code (yn 210) (bc 210) (mL 210) (rt 210) ∈ lw_tbl := List.mem_of_getElem? (i := 1782) rfl
set_option maxRecDepth 100000 in
theorem cd_211 : Cond.code (yn 211) (bc 211) (mL 211) (rt 211) ∈ lw_tbl := List.mem_of_getElem? (i := 1788) rfl
set_option maxRecDepth 100000 in
theorem cd_212 : Cond.code (yn 212) (bc 212) (mL 212) (rt 212) ∈ lw_tbl := List.mem_of_getElem? (i := 1762) rfl
set_option maxRecDepth 100000 in
theorem cd_213 : Cond.code (yn 213) (bc 213) (mL 213) (rt 213) ∈ lw_tbl := List.mem_of_getElem? (i := 1777) rfl
set_option maxRecDepth 100000 in
theorem cd_214 : Cond.code (yn 214) (bc 214) (mL 214) (rt 214) ∈ lw_tbl := List.mem_of_getElem? (i := 1708) rfl
set_option maxRecDepth 100000 in
theorem cd_215 : Cond.code (yn 215) (bc 215) (mL 215) (rt 215) ∈ lw_tbl := List.mem_of_getElem? (i := 1891) rfl
set_option maxRecDepth 100000 in
theorem cd_216 : Cond.code (yn 216) (bc 216) (mL 216) (rt 216) ∈ lw_tbl := List.mem_of_getElem? (i := 1899) rfl
set_option maxRecDepth 100000 in
theorem cd_217 : Cond.code (yn 217) (bc 217) (mL 217) (rt 217) ∈ lw_tbl := List.mem_of_getElem? (i := 1895) rfl
set_option maxRecDepth 100000 in
theorem cd_218 : Cond.code (yn 218) (bc 218) (mL 218) (rt 218) ∈ lw_tbl := List.mem_of_getElem? (i := 1887) rfl
set_option maxRecDepth 100000 in
theorem cd_219 : Cond.code (yn 219) (bc 219) (mL 219) (rt 219) ∈ lw_tbl := List.mem_of_getElem? (i := 1903) rfl
set_option maxRecDepth 100000 in
theorem cd_220 : Cond.code (yn 220) (bc 220) (mL 220) (rt 220) ∈ lw_tbl := List.mem_of_getElem? (i := 1911) rfl
set_option maxRecDepth 100000 in
theorem cd_221 : Cond.code (yn 221) (bc 221) (mL 221) (rt 221) ∈ lw_tbl := List.mem_of_getElem? (i := 1915) rfl
set_option maxRecDepth 100000 in
theorem cd_222 : Cond.code (yn 222) (bc 222) (mL 222) (rt 222) ∈ lw_tbl := List.mem_of_getElem? (i := 1907) rfl
set_option maxRecDepth 100000 in
theorem cd_223 : Cond.code (yn 223) (bc 223) (mL 223) (rt 223) ∈ lw_tbl := List.mem_of_getElem? (i := 1883) rfl
set_option maxRecDepth 100000 in
theorem cd_224 : Cond.code (yn 224) (bc 224) (mL 224) (rt 224) ∈ lw_tbl := List.mem_of_getElem? (i := 1879) rfl
set_option maxRecDepth 100000 in
theorem cd_225 : Cond.code (yn 225) (bc 225) (mL 225) (rt 225) ∈ lw_tbl := List.mem_of_getElem? (i := 1928) rfl
set_option maxRecDepth 100000 in
theorem cd_226 : Cond.code (yn 226) (bc 226) (mL 226) (rt 226) ∈ lw_tbl := List.mem_of_getElem? (i := 1932) rfl
set_option maxRecDepth 100000 in
theorem cd_227 : Cond.code (yn 227) (bc 227) (mL 227) (rt 227) ∈ lw_tbl := List.mem_of_getElem? (i := 1924) rfl
set_option maxRecDepth 100000 in
theorem cd_228 : Cond.code (yn 228) (bc 228) (mL 228) (rt 228) ∈ lw_tbl := List.mem_of_getElem? (i := 1920) rfl
set_option maxRecDepth 100000 in
theorem cd_229 : Cond.code (yn 229) (bc 229) (mL 229) (rt 229) ∈ lw_tbl := List.mem_of_getElem? (i := 1704) rfl
set_option maxRecDepth 100000 in
theorem cd_230 : Cond.code (yn 230) (bc 230) (mL 230) (rt 230) ∈ lw_tbl := List.mem_of_getElem? (i := 1936) rfl
set_option maxRecDepth 100000 in
theorem cd_231 : Cond.code (yn 231) (bc 231) (mL 231) (rt 231) ∈ lw_tbl := List.mem_of_getElem? (i := 1948) rfl
set_option maxRecDepth 100000 in
theorem cd_232 : Cond.code (yn 232) (bc 232) (mL 232) (rt 232) ∈ lw_tbl := List.mem_of_getElem? (i := 1992) rfl
set_option maxRecDepth 100000 in
theorem cd_233 : Cond.code (yn 233) (bc 233) (mL 233) (rt 233) ∈ lw_tbl := List.mem_of_getElem? (i := 1988) rfl
set_option maxRecDepth 100000 in
theorem cd_234 : Cond.code (yn 234) (bc 234) (mL 234) (rt 234) ∈ lw_tbl := List.mem_of_getElem? (i := 1972) rfl
set_option maxRecDepth 100000 in
theorem cd_235 : Cond.code (yn 235) (bc 235) (mL 235) (rt 235) ∈ lw_tbl := List.mem_of_getElem? (i := 1968) rfl
set_option maxRecDepth 100000 in
theorem cd_236 : Cond.code (yn 236) (bc 236) (mL 236) (rt 236) ∈ lw_tbl := List.mem_of_getElem? (i := 1997) rfl
set_option maxRecDepth 100000 in
theorem cd_237 : Cond.code (yn 237) (bc 237) (mL 237) (rt 237) ∈ lw_tbl := List.mem_of_getElem? (i := 2037) rfl
set_option maxRecDepth 100000 in
theorem cd_238 : Cond.code (yn 238) (bc 238) (mL 238) (rt 238) ∈ lw_tbl := List.mem_of_getElem? (i := 1964) rfl
set_option maxRecDepth 100000 in
theorem cd_239 : Cond.code (yn 239) (bc 239) (mL 239) (rt 239) ∈ lw_tbl := List.mem_of_getElem? (i := 2020) rfl
set_option maxRecDepth 100000 in
theorem cd_240 : Cond.code (yn 240) (bc 240) (mL 240) (rt 240) ∈ lw_tbl := List.mem_of_getElem? (i := 2028) rfl
set_option maxRecDepth 100000 in
theorem cd_241 : Cond.code (yn 241) (bc 241) (mL 241) (rt 241) ∈ lw_tbl := List.mem_of_getElem? (i := 2032) rfl
set_option maxRecDepth 100000 in
theorem cd_242 : Cond.code (yn 242) (bc 242) (mL 242) (rt 242) ∈ lw_tbl := List.mem_of_getElem? (i := 2024) rfl
set_option maxRecDepth 100000 in
theorem cd_243 : Cond.code (yn 243) (bc 243) (mL 243) (rt 243) ∈ lw_tbl := List.mem_of_getElem? (i := 1980) rfl
set_option maxRecDepth 100000 in
theorem cd_244 : Cond.code (yn 244) (bc 244) (mL 244) (rt 244) ∈ lw_tbl := List.mem_of_getElem? (i := 1984) rfl
set_option maxRecDepth 100000 in
theorem cd_245 : Cond.code (yn 245) (bc 245) (mL 245) (rt 245) ∈ lw_tbl := List.mem_of_getElem? (i := 2001) rfl
set_option maxRecDepth 100000 in
theorem cd_246 : Cond.code (yn 246) (bc 246) (mL 246) (rt 246) ∈ lw_tbl := List.mem_of_getElem? (i := 2006) rfl
set_option maxRecDepth 100000 in
theorem cd_247 : Cond.code (yn 247) (bc 247) (mL 247) (rt 247) ∈ lw_tbl := List.mem_of_getElem? (i := 2014) rfl
set_option maxRecDepth 100000 in
theorem cd_248 : Cond.code (yn 248) (bc 248) (mL 248) (rt 248) ∈ lw_tbl := List.mem_of_getElem? (i := 2010) rfl
set_option maxRecDepth 100000 in
theorem cd_249 : Cond.code (yn 249) (bc 249) (mL 249) (rt 249) ∈ lw_tbl := List.mem_of_getElem? (i := 1952) rfl
set_option maxRecDepth 100000 in
theorem cd_250 : Cond.code (yn 250) (bc 250) (mL 250) (rt 250) ∈ lw_tbl := List.mem_of_getElem? (i := 1976) rfl
set_option maxRecDepth 100000 in
theorem cd_251 : Cond.code (yn 251) (bc 251) (mL 251) (rt 251) ∈ lw_tbl := List.mem_of_getElem? (i := 1944) rfl
set_option maxRecDepth 100000 in
theorem cd_252 : Cond.code (yn 252) (bc 252) (mL 252) (rt 252) ∈ lw_tbl := List.mem_of_getElem? (i := 1956) rfl
set_option maxRecDepth 100000 in
theorem cd_253 : Cond.code (yn 253) (bc 253) (mL 253) (rt 253) ∈ lw_tbl := List.mem_of_getElem? (i := 1960) rfl
set_option maxRecDepth 100000 in
theorem cd_254 : Cond.code (yn 254) (bc 254) (mL 254) (rt 254) ∈ lw_tbl := List.mem_of_getElem? (i := 2041) rfl
set_option maxRecDepth 100000 in
theorem cd_255 : Cond.code (yn 255) (bc 255) (mL 255) (rt 255) ∈ lw_tbl := List.mem_of_getElem? (i := 2045) rfl
set_option maxRecDepth 100000 in
theorem cd_256 : Cond.code (yn 256) (bc 256) (mL 256) (rt 256) ∈ lw_tbl := List.mem_of_getElem? (i := 1940) rfl
set_option maxRecDepth 100000 in
theorem cd_257 : Cond.code (yn 257) (bc 257) (mL 257) (rt 257) ∈ lw_tbl := List.mem_of_getElem? (i := 2049) rfl
set_option maxRecDepth 100000 in
theorem cd_258 : Cond.code (yn 258) (bc 258) (mL 258) (rt 258) ∈ lw_tbl := List.mem_of_getElem? (i := 2053) rfl
set_option maxRecDepth 100000 in
theorem cd_259 : Cond.code (yn 259) (bc 259) (mL 259) (rt 259) ∈ lw_tbl := List.mem_of_getElem? (i := 2057) rfl
set_option maxRecDepth 100000 in
theorem cd_260 : Cond.code (yn 260) (bc 260) (mL 260) (rt 260) ∈ lw_tbl := List.mem_of_getElem? (i := 2061) rfl
set_option maxRecDepth 100000 in
theorem cd_261 : Cond.code (yn 261) (bc 261) (mL 261) (rt 261) ∈ lw_tbl := List.mem_of_getElem? (i := 2065) rfl
set_option maxRecDepth 100000 in
theorem cd_262 : Cond.code (yn 262) (bc 262) (mL 262) (rt 262) ∈ lw_tbl := List.mem_of_getElem? (i := 305) rfl
set_option maxRecDepth 100000 in
theorem cd_263 : Cond.code (yn 263) (bc 263) (mL 263) (rt 263) ∈ lw_tbl := List.mem_of_getElem? (i := 315) rfl
set_option maxRecDepth 100000 in
theorem cd_264 : Cond.code (yn 264) (bc 264) (mL 264) (rt 264) ∈ lw_tbl := List.mem_of_getElem? (i := 629) rfl
set_option maxRecDepth 100000 in
theorem cd_265 : Cond.code (yn 265) (bc 265) (mL 265) (rt 265) ∈ lw_tbl := List.mem_of_getElem? (i := 633) rfl
set_option maxRecDepth 100000 in
theorem cd_266 : Cond.code (yn 266) (bc 266) (mL 266) (rt 266) ∈ lw_tbl := List.mem_of_getElem? (i := 309) rfl
set_option maxRecDepth 100000 in
theorem cd_267 : Cond.code (yn 267) (bc 267) (mL 267) (rt 267) ∈ lw_tbl := List.mem_of_getElem? (i := 319) rfl
set_option maxRecDepth 100000 in
theorem cd_268 : Cond.code (yn 268) (bc 268) (mL 268) (rt 268) ∈ lw_tbl := List.mem_of_getElem? (i := 325) rfl
set_option maxRecDepth 100000 in
theorem cd_269 : Cond.code (yn 269) (bc 269) (mL 269) (rt 269) ∈ lw_tbl := List.mem_of_getElem? (i := 322) rfl
set_option maxRecDepth 100000 in
theorem cd_270 : Cond.code (yn 270) (bc 270) (mL 270) (rt 270) ∈ lw_tbl := List.mem_of_getElem? (i := 640) rfl
set_option maxRecDepth 100000 in
theorem cd_271 : Cond.code (yn 271) (bc 271) (mL 271) (rt 271) ∈ lw_tbl := List.mem_of_getElem? (i := 637) rfl
set_option maxRecDepth 100000 in
theorem cd_272 : Cond.code (yn 272) (bc 272) (mL 272) (rt 272) ∈ lw_tbl := List.mem_of_getElem? (i := 645) rfl
set_option maxRecDepth 100000 in
theorem cd_273 : Cond.code (yn 273) (bc 273) (mL 273) (rt 273) ∈ lw_tbl := List.mem_of_getElem? (i := 330) rfl
set_option maxRecDepth 100000 in
theorem cd_274 : Cond.code (yn 274) (bc 274) (mL 274) (rt 274) ∈ lw_tbl := List.mem_of_getElem? (i := 1233) rfl
set_option maxRecDepth 100000 in
theorem cd_275 : Cond.code (yn 275) (bc 275) (mL 275) (rt 275) ∈ lw_tbl := List.mem_of_getElem? (i := 586) rfl
set_option maxRecDepth 100000 in
theorem cd_276 : Cond.code (yn 276) (bc 276) (mL 276) (rt 276) ∈ lw_tbl := List.mem_of_getElem? (i := 559) rfl
set_option maxRecDepth 100000 in
theorem cd_277 : Cond.code (yn 277) (bc 277) (mL 277) (rt 277) ∈ lw_tbl := List.mem_of_getElem? (i := 1751) rfl
set_option maxRecDepth 100000 in
theorem cd_278 : Cond.code (yn 278) (bc 278) (mL 278) (rt 278) ∈ lw_tbl := List.mem_of_getElem? (i := 1290) rfl
theorem in_cd_0 : ∀ q ∈ [0, 1, 2, 3, 4, 5, 6, 7, 8, 9, 10, 11, 12, 13, 14, 15, 16, 17, 18, 19], Cond.code (yn q) (bc q) (mL q) (rt q) ∈ lw_tbl := List.forall_mem_cons.mpr ⟨cd_0, List.forall_mem_cons.mpr ⟨cd_1, List.forall_mem_cons.mpr ⟨cd_2, List.forall_mem_cons.mpr ⟨cd_3, List.forall_mem_cons.mpr ⟨cd_4, List.forall_mem_cons.mpr ⟨cd_5, List.forall_mem_cons.mpr ⟨cd_6, List.forall_mem_cons.mpr ⟨cd_7, List.forall_mem_cons.mpr ⟨cd_8, List.forall_mem_cons.mpr ⟨cd_9, List.forall_mem_cons.mpr ⟨cd_10, List.forall_mem_cons.mpr ⟨cd_11, List.forall_mem_cons.mpr ⟨cd_12, List.forall_mem_cons.mpr ⟨cd_13, List.forall_mem_cons.mpr ⟨cd_14, List.forall_mem_cons.mpr ⟨cd_15, List.forall_mem_cons.mpr ⟨cd_16, List.forall_mem_cons.mpr ⟨cd_17, List.forall_mem_cons.mpr ⟨cd_18, List.forall_mem_cons.mpr ⟨cd_19, fun _ h => absurd h List.not_mem_nil⟩⟩⟩⟩⟩⟩⟩⟩⟩⟩⟩⟩⟩⟩⟩⟩⟩⟩⟩⟩
theorem in_cd_1 : ∀ q ∈ [20, 21, 22, 23, 24, 25, 26, 27, 28, 29, 30, 31, 32, 33, 34, 35, 36, 37, 38, 39], Cond.code (yn q) (bc q) (mL q) (rt q) ∈ lw_tbl := List.forall_mem_cons.mpr ⟨cd_20, List.forall_mem_cons.mpr ⟨cd_21, List.forall_mem_cons.mpr ⟨cd_22, List.forall_mem_cons.mpr ⟨cd_23, List.forall_mem_cons.mpr ⟨cd_24, List.forall_mem_cons.mpr ⟨cd_25, List.forall_mem_cons.mpr ⟨cd_26, List.forall_mem_cons.mpr ⟨cd_27, List.forall_mem_cons.mpr ⟨cd_28, List.forall_mem_cons.mpr ⟨cd_29, List.forall_mem_cons.mpr ⟨cd_30, List.forall_mem_cons.mpr ⟨cd_31, List.forall_mem_cons.mpr ⟨cd_32, List.forall_mem_cons.mpr ⟨cd_33, List.forall_mem_cons.mpr ⟨cd_34, List.forall_mem_cons.mpr ⟨cd_35, List.forall_mem_cons.mpr ⟨cd_36, List.forall_mem_cons.mpr ⟨cd_37, List.forall_mem_cons.mpr ⟨cd_38, List.forall_mem_cons.mpr ⟨cd_39, fun _ h => absurd h List.not_mem_nil⟩⟩⟩⟩⟩⟩⟩⟩⟩⟩⟩⟩⟩⟩⟩⟩⟩⟩⟩⟩
theorem in_cd_2 : ∀ q ∈ [40, 41, 42, 43, 44, 45, 46, 47, 48, 49, 50, 51, 52, 53, 54, 55, 56, 57, 58, 59], Cond.code (yn q) (bc q) (mL q) (rt q) ∈ lw_tbl := List.forall_mem_cons.mpr ⟨cd_40, List.forall_mem_cons.mpr ⟨cd_41, List.forall_mem_cons.mpr ⟨cd_42, List.forall_mem_cons.mpr ⟨cd_43, List.forall_mem_cons.mpr ⟨cd_44, List.forall_mem_cons.mpr ⟨cd_45, List.forall_mem_cons.mpr ⟨cd_46, List.forall_mem_cons.mpr ⟨cd_47, List.forall_mem_cons.mpr ⟨cd_48, List.forall_mem_cons.mpr ⟨cd_49, List.forall_mem_cons.mpr ⟨cd_50, List.forall_mem_cons.mpr ⟨cd_51, List.forall_mem_cons.mpr ⟨cd_52, List.forall_mem_cons.mpr ⟨cd_53, List.forall_mem_cons.mpr ⟨cd_54, List.forall_mem_cons.mpr ⟨cd_55, List.forall_mem_cons.mpr ⟨cd_56, List.forall_mem_cons.mpr ⟨cd_57, List.forall_mem_cons.mpr ⟨cd_58, List.forall_mem_cons.mpr ⟨cd_59, fun _ h => absurd h List.not_mem_nil⟩⟩⟩⟩⟩⟩⟩⟩⟩⟩⟩⟩⟩⟩⟩⟩⟩⟩⟩⟩
theorem in_cd_3 : ∀ q ∈ [60, 61, 62, 63, 64, 65, 66, 67, 68, 69, 70, 71, 72, 73, 74, 75, 76, 77, 78, 79], Cond.code (yn q) (bc q) (mL q) (rt q) ∈ lw_tbl := List.forall_mem_cons.mpr ⟨cd_60, List.forall_mem_cons.mpr ⟨cd_61, List.forall_mem_cons.mpr ⟨cd_62, List.forall_mem_cons.mpr ⟨cd_63, List.forall_mem_cons.mpr ⟨cd_64, List.forall_mem_cons.mpr ⟨cd_65, List.forall_mem_cons.mpr ⟨cd_66, List.forall_mem_cons.mpr ⟨cd_67, List.forall_mem_cons.mpr ⟨cd_68, List.forall_mem_cons.mpr ⟨cd_69, List.forall_mem_cons.mpr ⟨cd_70, List.forall_mem_cons.mpr ⟨cd_71, List.forall_mem_cons.mpr ⟨cd_72, List.forall_mem_cons.mpr ⟨cd_73, List.forall_mem_cons.mpr ⟨cd_74, List.forall_mem_cons.mpr ⟨cd_75, List.forall_mem_cons.mpr ⟨cd_76, List.forall_mem_cons.mpr ⟨cd_77, List.forall_mem_cons.mpr ⟨cd_78, List.forall_mem_cons.mpr ⟨cd_79, fun _ h => absurd h List.not_mem_nil⟩⟩⟩⟩⟩⟩⟩⟩⟩⟩⟩⟩⟩⟩⟩⟩⟩⟩⟩⟩
theorem in_cd_4 : ∀ q ∈ [80, 81, 82, 83, 84, 85, 86, 87, 88, 89, 90, 91, 92, 93, 94, 95, 96, 97, 98, 99], Cond.code (yn q) (bc q) (mL q) (rt q) ∈ lw_tbl := List.forall_mem_cons.mpr ⟨cd_80, List.forall_mem_cons.mpr ⟨cd_81, List.forall_mem_cons.mpr ⟨cd_82, List.forall_mem_cons.mpr ⟨cd_83, List.forall_mem_cons.mpr ⟨cd_84, List.forall_mem_cons.mpr ⟨cd_85, List.forall_mem_cons.mpr ⟨cd_86, List.forall_mem_cons.mpr ⟨cd_87, List.forall_mem_cons.mpr ⟨cd_88, List.forall_mem_cons.mpr ⟨cd_89, List.forall_mem_cons.mpr ⟨cd_90, List.forall_mem_cons.mpr ⟨cd_91, List.forall_mem_cons.mpr ⟨cd_92, List.forall_mem_cons.mpr ⟨cd_93, List.forall_mem_cons.mpr ⟨cd_94, List.forall_mem_cons.mpr ⟨cd_95, List.forall_mem_cons.mpr ⟨cd_96, List.forall_mem_cons.mpr ⟨cd_97, List.forall_mem_cons.mpr ⟨cd_98, List.forall_mem_cons.mpr ⟨cd_99, fun _ h => absurd h List.not_mem_nil⟩⟩⟩⟩⟩⟩⟩⟩⟩⟩⟩⟩⟩⟩⟩⟩⟩⟩⟩⟩
theorem in_cd_5 : ∀ q ∈ [100, 101, 102, 103, 104, 105, 106, 107, 108, 109, 110, 111, 112, 113, 114, 115, 116, 117, 118, 119], Cond.code (yn q) (bc q) (mL q) (rt q) ∈ lw_tbl := List.forall_mem_cons.mpr ⟨cd_100, List.forall_mem_cons.mpr ⟨cd_101, List.forall_mem_cons.mpr ⟨cd_102, List.forall_mem_cons.mpr ⟨cd_103, List.forall_mem_cons.mpr ⟨cd_104, List.forall_mem_cons.mpr ⟨cd_105, List.forall_mem_cons.mpr ⟨cd_106, List.forall_mem_cons.mpr ⟨cd_107, List.forall_mem_cons.mpr ⟨cd_108, List.forall_mem_cons.mpr ⟨cd_109, List.forall_mem_cons.mpr ⟨cd_110, List.forall_mem_cons.mpr ⟨cd_111, List.forall_mem_cons.mpr ⟨cd_112, List.forall_mem_cons.mpr ⟨cd_113, List.forall_mem_cons.mpr ⟨cd_114, List.forall_mem_cons.mpr ⟨cd_115, List.forall_mem_cons.mpr ⟨cd_116, List.forall_mem_cons.mpr ⟨cd_117, List.forall_mem_cons.mpr ⟨cd_118, List.forall_mem_cons.mpr ⟨cd_119, fun _ h => absurd h List.not_mem_nil⟩⟩⟩⟩⟩⟩⟩⟩⟩⟩⟩⟩⟩⟩⟩⟩⟩⟩⟩⟩
theorem in_cd_6 : ∀ q ∈ [120, 121, 122, 123, 124, 125, 126, 127, 128, 129, 130, 131, 132, 133, 134, 135, 136, 137, 138, 139], Cond.code (yn q) (bc q) (mL q) (rt q) ∈ lw_tbl := List.forall_mem_cons.mpr ⟨cd_120, List.forall_mem_cons.mpr ⟨cd_121, List.forall_mem_cons.mpr ⟨cd_122, List.forall_mem_cons.mpr ⟨cd_123, List.forall_mem_cons.mpr ⟨cd_124, List.forall_mem_cons.mpr ⟨cd_125, List.forall_mem_cons.mpr ⟨cd_126, List.forall_mem_cons.mpr ⟨cd_127, List.forall_mem_cons.mpr ⟨cd_128, List.forall_mem_cons.mpr ⟨cd_129, List.forall_mem_cons.mpr ⟨cd_130, List.forall_mem_cons.mpr ⟨cd_131, List.forall_mem_cons.mpr ⟨cd_132, List.forall_mem_cons.mpr ⟨cd_133, List.forall_mem_cons.mpr ⟨cd_134, List.forall_mem_cons.mpr ⟨cd_135, List.forall_mem_cons.mpr ⟨cd_136, List.forall_mem_cons.mpr ⟨cd_137, List.forall_mem_cons.mpr ⟨cd_138, List.forall_mem_cons.mpr ⟨cd_139, fun _ h => absurd h List.not_mem_nil⟩⟩⟩⟩⟩⟩⟩⟩⟩⟩⟩⟩⟩⟩⟩⟩⟩⟩⟩⟩
theorem in_cd_7 : ∀ q ∈ [140, 141, 142, 143, 144, 145, 146, 147, 148, 149, 150, 151, 152, 153, 154, 155, 156, 157, 158, 159], Cond.code (yn q) (bc q) (mL q) (rt q) ∈ lw_tbl := List.forall_mem_cons.mpr ⟨cd_140, List.forall_mem_cons.mpr ⟨cd_141, List.forall_mem_cons.mpr ⟨cd_142, List.forall_mem_cons.mpr ⟨cd_143, List.forall_mem_cons.mpr ⟨cd_144, List.forall_mem_cons.mpr ⟨cd_145, List.forall_mem_cons.mpr ⟨cd_146, List.forall_mem_cons.mpr ⟨cd_147, List.forall_mem_cons.mpr ⟨cd_148, List.forall_mem_cons.mpr ⟨cd_149, List.forall_mem_cons.mpr ⟨cd_150, List.forall_mem_cons.mpr ⟨cd_151, List.forall_mem_cons.mpr ⟨cd_152, List.forall_mem_cons.mpr ⟨cd_153, List.forall_mem_cons.mpr ⟨cd_154, List.forall_mem_cons.mpr ⟨cd_155, List.forall_mem_cons.mpr ⟨cd_156, List.forall_mem_cons.mpr ⟨cd_157, List.forall_mem_cons.mpr ⟨cd_158, List.forall_mem_cons.mpr ⟨cd_159, fun _ h => absurd h List.not_mem_nil⟩⟩⟩⟩⟩⟩⟩⟩⟩⟩⟩⟩⟩⟩⟩⟩⟩⟩⟩⟩
theorem in_cd_8 : ∀ q ∈ [160, 161, 162, 163, 164, 165, 166, 167, 168, 169, 170, 171, 172, 173, 174, 175, 176, 177, 178, 179], Cond.code (yn q) (bc q) (mL q) (rt q) ∈ lw_tbl := List.forall_mem_cons.mpr ⟨cd_160, List.forall_mem_cons.mpr ⟨cd_161, List.forall_mem_cons.mpr ⟨cd_162, List.forall_mem_cons.mpr ⟨cd_163, List.forall_mem_cons.mpr ⟨cd_164, List.forall_mem_cons.mpr ⟨cd_165, List.forall_mem_cons.mpr ⟨cd_166, List.forall_mem_cons.mpr ⟨cd_167, List.forall_mem_cons.mpr ⟨cd_168, List.forall_mem_cons.mpr ⟨cd_169, List.forall_mem_cons.mpr ⟨cd_170, List.forall_mem_cons.mpr ⟨cd_171, List.forall_mem_cons.mpr ⟨cd_172, List.forall_mem_cons.mpr ⟨cd_173, List.forall_mem_cons.mpr ⟨cd_174, List.forall_mem_cons.mpr ⟨cd_175, List.forall_mem_cons.mpr ⟨cd_176, List.forall_mem_cons.mpr ⟨cd_177, List.forall_mem_cons.mpr ⟨cd_178, List.forall_mem_cons.mpr ⟨cd_179, fun _ h => absurd h List.not_mem_nil⟩⟩⟩⟩⟩⟩⟩⟩⟩⟩⟩⟩⟩⟩⟩⟩⟩⟩⟩⟩
theorem in_cd_9 : ∀ q ∈ [180, 181, 182, 183, 184, 185, 186, 187, 188, 189, 190, 191, 192, 193, 194, 195, 196, 197, 198, 199], Cond.code (yn q) (bc q) (mL q) (rt q) ∈ lw_tbl := List.forall_mem_cons.mpr ⟨cd_180, List.forall_mem_cons.mpr ⟨cd_181, List.forall_mem_cons.mpr ⟨cd_182, List.forall_mem_cons.mpr ⟨cd_183, List.forall_mem_cons.mpr ⟨cd_184, List.forall_mem_cons.mpr ⟨cd_185, List.forall_mem_cons.mpr ⟨cd_186, List.forall_mem_cons.mpr ⟨cd_187, List.forall_mem_cons.mpr ⟨cd_188, List.forall_mem_cons.mpr ⟨cd_189, List.forall_mem_cons.mpr ⟨cd_190, List.forall_mem_cons.mpr ⟨cd_191, List.forall_mem_cons.mpr ⟨cd_192, List.forall_mem_cons.mpr ⟨cd_193, List.forall_mem_cons.mpr ⟨cd_194, List.forall_mem_cons.mpr ⟨cd_195, List.forall_mem_cons.mpr ⟨cd_196, List.forall_mem_cons.mpr ⟨cd_197, List.forall_mem_cons.mpr ⟨cd_198, List.forall_mem_cons.mpr ⟨cd_199, fun _ h => absurd h List.not_mem_nil⟩⟩⟩⟩⟩⟩⟩⟩⟩⟩⟩⟩⟩⟩⟩⟩⟩⟩⟩⟩
theorem in_cd_10 : ∀ q ∈ [200, 201, 202, 203, 204, 205, 206, 207, 208, 209, 210, 211, 212, 213, 214, 215, 216, 217, 218, 219], Cond.code (yn q) (bc q) (mL q) (rt q) ∈ lw_tbl := List.forall_mem_cons.mpr ⟨cd_200, List.forall_mem_cons.mpr ⟨cd_201, List.forall_mem_cons.mpr ⟨cd_202, List.forall_mem_cons.mpr ⟨cd_203, List.forall_mem_cons.mpr ⟨cd_204, List.forall_mem_cons.mpr ⟨cd_205, List.forall_mem_cons.mpr ⟨cd_206, List.forall_mem_cons.mpr ⟨cd_207, List.forall_mem_cons.mpr ⟨cd_208, List.forall_mem_cons.mpr ⟨cd_209, List.forall_mem_cons.mpr ⟨cd_210, List.forall_mem_cons.mpr ⟨cd_211, List.forall_mem_cons.mpr ⟨cd_212, List.forall_mem_cons.mpr ⟨cd_213, List.forall_mem_cons.mpr ⟨cd_214, List.forall_mem_cons.mpr ⟨cd_215, List.forall_mem_cons.mpr ⟨cd_216, List.forall_mem_cons.mpr ⟨cd_217, List.forall_mem_cons.mpr ⟨cd_218, List.forall_mem_cons.mpr ⟨cd_219, fun _ h => absurd h List.not_mem_nil⟩⟩⟩⟩⟩⟩⟩⟩⟩⟩⟩⟩⟩⟩⟩⟩⟩⟩⟩⟩
theorem in_cd_11 : ∀ q ∈ [220, 221, 222, 223, 224, 225, 226, 227, 228, 229, 230, 231, 232, 233, 234, 235, 236, 237, 238, 239], Cond.code (yn q) (bc q) (mL q) (rt q) ∈ lw_tbl := List.forall_mem_cons.mpr ⟨cd_220, List.forall_mem_cons.mpr ⟨cd_221, List.forall_mem_cons.mpr ⟨cd_222, List.forall_mem_cons.mpr ⟨cd_223, List.forall_mem_cons.mpr ⟨cd_224, List.forall_mem_cons.mpr ⟨cd_225, List.forall_mem_cons.mpr ⟨cd_226, List.forall_mem_cons.mpr ⟨cd_227, List.forall_mem_cons.mpr ⟨cd_228, List.forall_mem_cons.mpr ⟨cd_229, List.forall_mem_cons.mpr ⟨cd_230, List.forall_mem_cons.mpr ⟨cd_231, List.forall_mem_cons.mpr ⟨cd_232, List.forall_mem_cons.mpr ⟨cd_233, List.forall_mem_cons.mpr ⟨cd_234, List.forall_mem_cons.mpr ⟨cd_235, List.forall_mem_cons.mpr ⟨cd_236, List.forall_mem_cons.mpr ⟨cd_237, List.forall_mem_cons.mpr ⟨cd_238, List.forall_mem_cons.mpr ⟨cd_239, fun _ h => absurd h List.not_mem_nil⟩⟩⟩⟩⟩⟩⟩⟩⟩⟩⟩⟩⟩⟩⟩⟩⟩⟩⟩⟩
theorem in_cd_12 : ∀ q ∈ [240, 241, 242, 243, 244, 245, 246, 247, 248, 249, 250, 251, 252, 253, 254, 255, 256, 257, 258, 259], Cond.code (yn q) (bc q) (mL q) (rt q) ∈ lw_tbl := List.forall_mem_cons.mpr ⟨cd_240, List.forall_mem_cons.mpr ⟨cd_241, List.forall_mem_cons.mpr ⟨cd_242, List.forall_mem_cons.mpr ⟨cd_243, List.forall_mem_cons.mpr ⟨cd_244, List.forall_mem_cons.mpr ⟨cd_245, List.forall_mem_cons.mpr ⟨cd_246, List.forall_mem_cons.mpr ⟨cd_247, List.forall_mem_cons.mpr ⟨cd_248, List.forall_mem_cons.mpr ⟨cd_249, List.forall_mem_cons.mpr ⟨cd_250, List.forall_mem_cons.mpr ⟨cd_251, List.forall_mem_cons.mpr ⟨cd_252, List.forall_mem_cons.mpr ⟨cd_253, List.forall_mem_cons.mpr ⟨cd_254, List.forall_mem_cons.mpr ⟨cd_255, List.forall_mem_cons.mpr ⟨cd_256, List.forall_mem_cons.mpr ⟨cd_257, List.forall_mem_cons.mpr ⟨cd_258, List.forall_mem_cons.mpr ⟨cd_259, fun _ h => absurd h List.not_mem_nil⟩⟩⟩⟩⟩⟩⟩⟩⟩⟩⟩⟩⟩⟩⟩⟩⟩⟩⟩⟩
theorem in_cd_13 : ∀ q ∈ [260, 261, 262, 263, 264, 265, 266, 267, 268, 269, 270, 271, 272, 273, 274, 275, 276, 277, 278], Cond.code (yn q) (bc q) (mL q) (rt q) ∈ lw_tbl := List.forall_mem_cons.mpr ⟨cd_260, List.forall_mem_cons.mpr ⟨cd_261, List.forall_mem_cons.mpr ⟨cd_262, List.forall_mem_cons.mpr ⟨cd_263, List.forall_mem_cons.mpr ⟨cd_264, List.forall_mem_cons.mpr ⟨cd_265, List.forall_mem_cons.mpr ⟨cd_266, List.forall_mem_cons.mpr ⟨cd_267, List.forall_mem_cons.mpr ⟨cd_268, List.forall_mem_cons.mpr ⟨cd_269, List.forall_mem_cons.mpr ⟨cd_270, List.forall_mem_cons.mpr ⟨cd_271, List.forall_mem_cons.mpr ⟨cd_272, List.forall_mem_cons.mpr ⟨cd_273, List.forall_mem_cons.mpr ⟨cd_274, List.forall_mem_cons.mpr ⟨cd_275, List.forall_mem_cons.mpr ⟨cd_276, List.forall_mem_cons.mpr ⟨cd_277, List.forall_mem_cons.mpr ⟨cd_278, fun _ h => absurd h List.not_mem_nil⟩⟩⟩⟩⟩⟩⟩⟩⟩⟩⟩⟩⟩⟩⟩⟩⟩⟩⟩
def yAl2 : List Nat := [0, 1, 2, 3, 4, 5, 6, 7, 8, 9, 10, 11, 12, 13, 14, 15, 16, 17, 18, 19] ++ [20, 21, 22, 23, 24, 25, 26, 27, 28, 29, 30, 31, 32, 33, 34, 35, 36, 37, 38, 39] ++ [40, 41, 42, 43, 44, 45, 46, 47, 48, 49, 50, 51, 52, 53, 54, 55, 56, 57, 58, 59] ++ [60, 61, 62, 63, 64, 65, 66, 67, 68, 69, 70, 71, 72, 73, 74, 75, 76, 77, 78, 79] ++ [80, 81, 82, 83, 84, 85, 86, 87, 88, 89, 90, 91, 92, 93, 94, 95, 96, 97, 98, 99] ++ [100, 101, 102, 103, 104, 105, 106, 107, 108, 109, 110, 111, 112, 113, 114, 115, 116, 117, 118, 119] ++ [120, 121, 122, 123, 124, 125, 126, 127, 128, 129, 130, 131, 132, 133, 134, 135, 136, 137, 138, 139] ++ [140, 141, 142, 143, 144, 145, 146, 147, 148, 149, 150, 151, 152, 153, 154, 155, 156, 157, 158, 159] ++ [160, 161, 162, 163, 164, 165, 166, 167, 168, 169, 170, 171, 172, 173, 174, 175, 176, 177, 178, 179] ++ [180, 181, 182, 183, 184, 185, 186, 187, 188, 189, 190, 191, 192, 193, 194, 195, 196, 197, 198, 199] ++ [200, 201, 202, 203, 204, 205, 206, 207, 208, 209, 210, 211, 212, 213, 214, 215, 216, 217, 218, 219] ++ [220, 221, 222, 223, 224, 225, 226, 227, 228, 229, 230, 231, 232, 233, 234, 235, 236, 237, 238, 239] ++ [240, 241, 242, 243, 244, 245, 246, 247, 248, 249, 250, 251, 252, 253, 254, 255, 256, 257, 258, 259] ++ [260, 261, 262, 263, 264, 265, 266, 267, 268, 269, 270, 271, 272, 273, 274, 275, 276, 277, 278]
theorem in_cd : ∀ q ∈ yAl2, Cond.code (yn q) (bc q) (mL q) (rt q) ∈ lw_tbl := (List.forall_mem_append.mpr ⟨(List.forall_mem_append.mpr ⟨(List.forall_mem_append.mpr ⟨(List.forall_mem_append.mpr ⟨(List.forall_mem_append.mpr ⟨(List.forall_mem_append.mpr ⟨(List.forall_mem_append.mpr ⟨(List.forall_mem_append.mpr ⟨(List.forall_mem_append.mpr ⟨(List.forall_mem_append.mpr ⟨(List.forall_mem_append.mpr ⟨(List.forall_mem_append.mpr ⟨(List.forall_mem_append.mpr ⟨in_cd_0, in_cd_1⟩), in_cd_2⟩), in_cd_3⟩), in_cd_4⟩), in_cd_5⟩), in_cd_6⟩), in_cd_7⟩), in_cd_8⟩), in_cd_9⟩), in_cd_10⟩), in_cd_11⟩), in_cd_12⟩), in_cd_13⟩)
set_option maxRecDepth 100000 in
theorem yAl2_in : ∀ y, y < nY → y ∈ yAl2 := by decide +kernel
